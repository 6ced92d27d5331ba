/-! loader and shifter, by program out of the listing -/
theorem pa_Load_1 (hl hv hh hr hc : Nat → Nat → Int32) (g : Nat → Int32) : sv_pt [1] (([.inl (0, 24, g)] : List sv_C).map (sv_r (sv_pi [1]))) 0 (W_Load hl hv hh hr hc) = W_Load (sr hl 1 g) hv hh hr hc := rfl
theorem su_Load_1 (hl hv hh hr hc : Nat → Nat → Int32) : sv_sub [1] (W_Load hl hv hh hr hc) [.inl (0, 24, hl 1)] := rfl
theorem pu_Load_1 (hl hv hh hr hc : Nat → Nat → Int32) : sv_pt [1] (([.inl (0, 24, hl 1)] : List sv_C).map (sv_r (sv_pi [1]))) 0 (W_Load hl hv hh hr hc) = W_Load hl hv hh hr hc := rfl
theorem pc_Load_Cargo_4 (hl hv hh hr hc n0 : Nat → Nat → Int32) : sv_pt [21, 22, 23, 24, 25, 26] ((W_Cargo n0).map (sv_r (sv_pi [21, 22, 23, 24, 25, 26]))) 0 (W_Load hl hv hh hr hc) = W_Load hl hv hh hr n0 := rfl
theorem sc_Load_Cargo_4 (hl hv hh hr hc : Nat → Nat → Int32) : sv_sub [21, 22, 23, 24, 25, 26] (W_Load hl hv hh hr hc) (W_Cargo hc) := rfl
theorem pa_Load_2 (hl hv hh hr hc : Nat → Nat → Int32) (g : Nat → Int32) : sv_pt [2] (([.inl (0, 24, g)] : List sv_C).map (sv_r (sv_pi [2]))) 0 (W_Load hl hv hh hr hc) = W_Load (sr hl 2 g) hv hh hr hc := rfl
theorem su_Load_2 (hl hv hh hr hc : Nat → Nat → Int32) : sv_sub [2] (W_Load hl hv hh hr hc) [.inl (0, 24, hl 2)] := rfl
theorem pu_Load_2 (hl hv hh hr hc : Nat → Nat → Int32) : sv_pt [2] (([.inl (0, 24, hl 2)] : List sv_C).map (sv_r (sv_pi [2]))) 0 (W_Load hl hv hh hr hc) = W_Load hl hv hh hr hc := rfl
theorem pc_Load_Load_0 (hl hv hh hr hc n0 n1 n2 n3 n4 : Nat → Nat → Int32) : sv_pt [0, 1, 2, 3, 4, 5, 6, 7, 8, 9, 10, 11, 12, 13, 14, 15, 16, 17, 18, 19, 20, 21, 22, 23, 24, 25, 26] ((W_Load n0 n1 n2 n3 n4).map (sv_r (sv_pi [0, 1, 2, 3, 4, 5, 6, 7, 8, 9, 10, 11, 12, 13, 14, 15, 16, 17, 18, 19, 20, 21, 22, 23, 24, 25, 26]))) 0 (W_Load hl hv hh hr hc) = W_Load n0 n1 n2 n3 n4 := rfl
theorem sc_Load_Load_0 (hl hv hh hr hc : Nat → Nat → Int32) : sv_sub [0, 1, 2, 3, 4, 5, 6, 7, 8, 9, 10, 11, 12, 13, 14, 15, 16, 17, 18, 19, 20, 21, 22, 23, 24, 25, 26] (W_Load hl hv hh hr hc) (W_Load hl hv hh hr hc) := rfl
theorem pc_Load_Ves_1 (hl hv hh hr hc n0 n1 n2 n3 : Nat → Nat → Int32) : sv_pt [5, 6, 7, 8, 9, 10, 11, 12, 13, 14, 15, 16, 17, 18, 19, 20, 21, 22, 23, 24, 25, 26] ((W_Ves n0 n1 n2 n3).map (sv_r (sv_pi [5, 6, 7, 8, 9, 10, 11, 12, 13, 14, 15, 16, 17, 18, 19, 20, 21, 22, 23, 24, 25, 26]))) 0 (W_Load hl hv hh hr hc) = W_Load hl n0 n1 n2 n3 := rfl
theorem sc_Load_Ves_1 (hl hv hh hr hc : Nat → Nat → Int32) : sv_sub [5, 6, 7, 8, 9, 10, 11, 12, 13, 14, 15, 16, 17, 18, 19, 20, 21, 22, 23, 24, 25, 26] (W_Load hl hv hh hr hc) (W_Ves hv hh hr hc) := rfl
theorem pa_Load_3 (hl hv hh hr hc : Nat → Nat → Int32) (g : Nat → Int32) : sv_pt [3] (([.inl (0, 24, g)] : List sv_C).map (sv_r (sv_pi [3]))) 0 (W_Load hl hv hh hr hc) = W_Load (sr hl 3 g) hv hh hr hc := rfl
theorem su_Load_3 (hl hv hh hr hc : Nat → Nat → Int32) : sv_sub [3] (W_Load hl hv hh hr hc) [.inl (0, 24, hl 3)] := rfl
theorem pu_Load_3 (hl hv hh hr hc : Nat → Nat → Int32) : sv_pt [3] (([.inl (0, 24, hl 3)] : List sv_C).map (sv_r (sv_pi [3]))) 0 (W_Load hl hv hh hr hc) = W_Load hl hv hh hr hc := rfl
theorem pa_Load_4 (hl hv hh hr hc : Nat → Nat → Int32) (g : Nat → Int32) : sv_pt [4] (([.inl (0, 24, g)] : List sv_C).map (sv_r (sv_pi [4]))) 0 (W_Load hl hv hh hr hc) = W_Load (sr hl 4 g) hv hh hr hc := rfl
theorem su_Load_4 (hl hv hh hr hc : Nat → Nat → Int32) : sv_sub [4] (W_Load hl hv hh hr hc) [.inl (0, 24, hl 4)] := rfl
theorem pu_Load_4 (hl hv hh hr hc : Nat → Nat → Int32) : sv_pt [4] (([.inl (0, 24, hl 4)] : List sv_C).map (sv_r (sv_pi [4]))) 0 (W_Load hl hv hh hr hc) = W_Load hl hv hh hr hc := rfl
theorem pa_Shif_1 (hs hv hh hr hc : Nat → Nat → Int32) (g : Nat → Int32) : sv_pt [1] (([.inl (0, 2, g)] : List sv_C).map (sv_r (sv_pi [1]))) 0 (W_Shif hs hv hh hr hc) = W_Shif (sr hs 1 g) hv hh hr hc := rfl
theorem su_Shif_1 (hs hv hh hr hc : Nat → Nat → Int32) : sv_sub [1] (W_Shif hs hv hh hr hc) [.inl (0, 2, hs 1)] := rfl
theorem pu_Shif_1 (hs hv hh hr hc : Nat → Nat → Int32) : sv_pt [1] (([.inl (0, 2, hs 1)] : List sv_C).map (sv_r (sv_pi [1]))) 0 (W_Shif hs hv hh hr hc) = W_Shif hs hv hh hr hc := rfl
theorem pa_Shif_2 (hs hv hh hr hc : Nat → Nat → Int32) (g : Nat → Int32) : sv_pt [2] (([.inl (0, 2, g)] : List sv_C).map (sv_r (sv_pi [2]))) 0 (W_Shif hs hv hh hr hc) = W_Shif (sr hs 2 g) hv hh hr hc := rfl
theorem su_Shif_2 (hs hv hh hr hc : Nat → Nat → Int32) : sv_sub [2] (W_Shif hs hv hh hr hc) [.inl (0, 2, hs 2)] := rfl
theorem pu_Shif_2 (hs hv hh hr hc : Nat → Nat → Int32) : sv_pt [2] (([.inl (0, 2, hs 2)] : List sv_C).map (sv_r (sv_pi [2]))) 0 (W_Shif hs hv hh hr hc) = W_Shif hs hv hh hr hc := rfl
theorem pa_Shif_3 (hs hv hh hr hc : Nat → Nat → Int32) (g : Nat → Int32) : sv_pt [3] (([.inl (0, 2, g)] : List sv_C).map (sv_r (sv_pi [3]))) 0 (W_Shif hs hv hh hr hc) = W_Shif (sr hs 3 g) hv hh hr hc := rfl
theorem su_Shif_3 (hs hv hh hr hc : Nat → Nat → Int32) : sv_sub [3] (W_Shif hs hv hh hr hc) [.inl (0, 2, hs 3)] := rfl
theorem pu_Shif_3 (hs hv hh hr hc : Nat → Nat → Int32) : sv_pt [3] (([.inl (0, 2, hs 3)] : List sv_C).map (sv_r (sv_pi [3]))) 0 (W_Shif hs hv hh hr hc) = W_Shif hs hv hh hr hc := rfl
theorem pc_Shif_Ves_1 (hs hv hh hr hc n0 n1 n2 n3 : Nat → Nat → Int32) : sv_pt [5, 6, 7, 8, 9, 10, 11, 12, 13, 14, 15, 16, 17, 18, 19, 20, 21, 22, 23, 24, 25, 26] ((W_Ves n0 n1 n2 n3).map (sv_r (sv_pi [5, 6, 7, 8, 9, 10, 11, 12, 13, 14, 15, 16, 17, 18, 19, 20, 21, 22, 23, 24, 25, 26]))) 0 (W_Shif hs hv hh hr hc) = W_Shif hs n0 n1 n2 n3 := rfl
theorem sc_Shif_Ves_1 (hs hv hh hr hc : Nat → Nat → Int32) : sv_sub [5, 6, 7, 8, 9, 10, 11, 12, 13, 14, 15, 16, 17, 18, 19, 20, 21, 22, 23, 24, 25, 26] (W_Shif hs hv hh hr hc) (W_Ves hv hh hr hc) := rfl
theorem pc_Shif_Shif_0 (hs hv hh hr hc n0 n1 n2 n3 n4 : Nat → Nat → Int32) : sv_pt [0, 1, 2, 3, 4, 5, 6, 7, 8, 9, 10, 11, 12, 13, 14, 15, 16, 17, 18, 19, 20, 21, 22, 23, 24, 25, 26] ((W_Shif n0 n1 n2 n3 n4).map (sv_r (sv_pi [0, 1, 2, 3, 4, 5, 6, 7, 8, 9, 10, 11, 12, 13, 14, 15, 16, 17, 18, 19, 20, 21, 22, 23, 24, 25, 26]))) 0 (W_Shif hs hv hh hr hc) = W_Shif n0 n1 n2 n3 n4 := rfl
theorem sc_Shif_Shif_0 (hs hv hh hr hc : Nat → Nat → Int32) : sv_sub [0, 1, 2, 3, 4, 5, 6, 7, 8, 9, 10, 11, 12, 13, 14, 15, 16, 17, 18, 19, 20, 21, 22, 23, 24, 25, 26] (W_Shif hs hv hh hr hc) (W_Shif hs hv hh hr hc) := rfl
theorem pc_Shif_Cargo_4 (hs hv hh hr hc n0 : Nat → Nat → Int32) : sv_pt [21, 22, 23, 24, 25, 26] ((W_Cargo n0).map (sv_r (sv_pi [21, 22, 23, 24, 25, 26]))) 0 (W_Shif hs hv hh hr hc) = W_Shif hs hv hh hr n0 := rfl
theorem sc_Shif_Cargo_4 (hs hv hh hr hc : Nat → Nat → Int32) : sv_sub [21, 22, 23, 24, 25, 26] (W_Shif hs hv hh hr hc) (W_Cargo hc) := rfl
theorem pa_Shif_4 (hs hv hh hr hc : Nat → Nat → Int32) (g : Nat → Int32) : sv_pt [4] (([.inl (0, 2, g)] : List sv_C).map (sv_r (sv_pi [4]))) 0 (W_Shif hs hv hh hr hc) = W_Shif (sr hs 4 g) hv hh hr hc := rfl
theorem su_Shif_4 (hs hv hh hr hc : Nat → Nat → Int32) : sv_sub [4] (W_Shif hs hv hh hr hc) [.inl (0, 2, hs 4)] := rfl
theorem pu_Shif_4 (hs hv hh hr hc : Nat → Nat → Int32) : sv_pt [4] (([.inl (0, 2, hs 4)] : List sv_C).map (sv_r (sv_pi [4]))) 0 (W_Shif hs hv hh hr hc) = W_Shif hs hv hh hr hc := rfl
def F_Load_forget (hl : Nat → Nat → Int32) : (Nat → Nat → Int32) := (sv_let (ss hl 0 (0 : Int32)) fun (hl_1 : Nat → Nat → Int32) => hl_1)
theorem r_Load_forget {X : Nat × (Nat → Int32)} (hl hv hh hr hc : Nat → Nat → Int32) : ∀ x, some (F_Load_forget hl) = some x → sv_R X 1 M_Load_forget [.ref 0] (W_Load hl hv hh hr hc) none (W_Load x hv hh hr hc) := by
  refine sv_Q.R (res := (fun (x : (Nat → Nat → Int32)) => ((none : Option Value), (W_Load x hv hh hr hc)))) g_Load_forget rfl ?_
  unfold F_Load_forget
  refine sv_Q.s (σ' := (2, [some (.ref 0)], [.int (0 : Int32), .ref 0], (W_Load hl hv hh hr hc))) 2 rfl ?_
  refine sv_Q.gk (σ' := (5, [some (.ref 0)], [], (W_Load (ss hl 0 (0 : Int32)) hv hh hr hc))) (c := sv_01 (0 : Int32)) rfl (Or.inl rfl) ?_
  refine sv_Q.gs (fun hl_1 => (5, [some (.ref 0)], [], (W_Load hl_1 hv hh hr hc))) (fun hl_1 => ?_)
  exact sv_Q.z ⟨True, rfl, trivial, rfl⟩
theorem t_Load_forget {X : Nat × (Nat → Int32)} (hl hv hh hr hc : Nat → Nat → Int32) : sv_R X 1 M_Load_forget [.ref 0] (W_Load hl hv hh hr hc) none (W_Load (F_Load_forget hl) hv hh hr hc) := r_Load_forget hl hv hh hr hc _ rfl
def F_Load_toldPlace (a0 : Int32) (hl : Nat → Nat → Int32) : Int32 := (if (hl 0 0) = 0 then (-6 : Int32) else (rd 24 (hl 1) a0))
theorem r_Load_toldPlace {X : Nat × (Nat → Int32)} (hl hv hh hr hc : Nat → Nat → Int32) (a0 : Int32) : ∀ x, some (F_Load_toldPlace a0 hl) = some x → sv_R X 2 M_Load_toldPlace [.ref 0, .int a0] (W_Load hl hv hh hr hc) (some (.int x)) (W_Load hl hv hh hr hc) := by
  refine sv_Q.R (res := (fun (x : Int32) => (some (.int x), (W_Load hl hv hh hr hc)))) g_Load_toldPlace rfl ?_
  unfold F_Load_toldPlace
  refine sv_Q.s (σ' := (4, [some (.ref 0), some (.int a0)], [.int (hl 0 0)], (W_Load hl hv hh hr hc))) 2 rfl ?_
  refine sv_Q.sb rfl (fun c1 => ?_) (fun c1 => ?_)
  · refine sv_Q.s (σ' := (20, [some (.ref 0), some (.int a0)], [.int (-6 : Int32)], (W_Load hl hv hh hr hc))) 1 rfl ?_
    exact sv_Q.z ⟨True, rfl, trivial, rfl⟩
  · refine sv_Q.s (σ' := (12, [some (.ref 0), some (.int a0)], [.int a0, .ref 1], (W_Load hl hv hh hr hc))) 3 rfl ?_
    refine sv_Q.S (ps := [1]) (rest := []) (st' := [.int (rd 24 (hl 1) a0)]) (cs' := (W_Load hl hv hh hr hc)) (q := (12, .null, 0, 0, 0)) lk_Load_41 (t_K_read 24 rfl (hl 1) a0) rfl rfl rfl rfl rfl rfl rfl (su_Load_1 hl hv hh hr hc) rfl rfl (pu_Load_1 hl hv hh hr hc) ?_
    refine sv_Q.s (σ' := (20, [some (.ref 0), some (.int a0)], [.int (rd 24 (hl 1) a0)], (W_Load hl hv hh hr hc))) 1 rfl ?_
    exact sv_Q.z ⟨True, rfl, trivial, rfl⟩
theorem t_Load_toldPlace {X : Nat × (Nat → Int32)} (hl hv hh hr hc : Nat → Nat → Int32) (a0 : Int32) : sv_R X 2 M_Load_toldPlace [.ref 0, .int a0] (W_Load hl hv hh hr hc) (some (.int (F_Load_toldPlace a0 hl))) (W_Load hl hv hh hr hc) := r_Load_toldPlace hl hv hh hr hc a0 _ rfl
def L_Load_listBoxes_7 (N : Nat) : Nat → Int32 → (Nat → Nat → Int32) → (Nat → Nat → Int32) → Option ((Nat → Nat → Int32))
  | 0, _, _, _ => none
  | n + 1, x2, hl, hc => (if (hc 0 0) ≤ x2 then (some hl) else (if ¬ (F_Cargo_lies x2 hc) = 0 then (L_Load_listBoxes_7 N n (x2 + (1 : Int32)) hl hc) else (sv_let (sw hl 2 24 (hl 0 5) x2) fun (hl_4 : Nat → Nat → Int32) => (sv_let (ss hl_4 5 ((hl_4 0 5) + (1 : Int32))) fun (hl_5 : Nat → Nat → Int32) => (L_Load_listBoxes_7 N n (x2 + (1 : Int32)) hl_5 hc)))))
theorem l_Load_listBoxes_7 {X : Nat × (Nat → Int32)} (N : Nat) : ∀ (n : Nat) (x2 : Int32) (hl hv hh hr hc : Nat → Nat → Int32), sv_Q X 2 M_Load_listBoxes (7, [some (.ref 0), some (.ref 5), some (.int x2)], [], (W_Load hl hv hh hr hc)) (L_Load_listBoxes_7 N n x2 hl hc) (fun v σ' => σ' = (57, [none, none, none], [], (W_Load v hv hh hr hc))) := by
  intro n
  induction n with
  | zero => intro x2 hl hv hh hr hc; unfold L_Load_listBoxes_7; exact sv_Q.non
  | succ n ih =>
    intro x2 hl hv hh hr hc
    unfold L_Load_listBoxes_7
    refine sv_Q.s (σ' := (15, [some (.ref 0), some (.ref 5), some (.int x2)], [.int (hc 0 0), .int x2], (W_Load hl hv hh hr hc))) 4 rfl ?_
    refine sv_Q.b rfl (fun c2 => ?_) (fun c2 => ?_)
    · refine sv_Q.f (lo' := [none, none, none]) trivial ?_
      exact sv_Q.z rfl
    · refine sv_Q.s (σ' := (23, [some (.ref 0), some (.ref 5), some (.int x2)], [.int x2, .ref 21], (W_Load hl hv hh hr hc))) 3 rfl ?_
      refine sv_Q.V (b := 0) (av := [.int x2]) (ps := [21, 22, 23, 24, 25, 26]) (rest := []) (cs1 := (W_Cargo hc)) (cs2 := (W_Cargo hc)) (st' := [.int (F_Cargo_lies x2 hc)]) (cs' := (W_Load hl hv hh hr hc)) (q := (23, .null, 0, 0, 0)) lk_Load_88 (t_Cargo_lies hc x2) rfl rfl rfl rfl rfl (Or.inl ⟨0, _, _, rfl, rfl, rfl⟩) rfl rfl (sc_Load_Cargo_4 hl hv hh hr hc) rfl rfl (pc_Load_Cargo_4 hl hv hh hr hc hc) ?_
      refine sv_Q.b rfl (fun c3 => ?_) (fun c3 => ?_)
      · refine sv_Q.s (σ' := (7, [some (.ref 0), some (.ref 5), some (.int (x2 + (1 : Int32)))], [], (W_Load hl hv hh hr hc))) 2 rfl ?_
        exact ih (x2 + (1 : Int32)) hl hv hh hr hc
      · refine sv_Q.s (σ' := (38, [some (.ref 0), some (.ref 5), some (.int x2)], [.int x2, .int (hl 0 5), .ref 2], (W_Load hl hv hh hr hc))) 5 rfl ?_
        refine sv_Q.S (ps := [2]) (rest := []) (st' := []) (cs' := (W_Load (sw hl 2 24 (hl 0 5) x2) hv hh hr hc)) (q := (38, .null, 0, 0, 0)) lk_Load_81 (t_K_write 24 rfl (hl 2) (hl 0 5) x2) rfl rfl rfl rfl rfl rfl rfl (su_Load_2 hl hv hh hr hc) rfl rfl (pa_Load_2 hl hv hh hr hc (wr 24 (hl 2) (hl 0 5) x2)) ?_
        refine sv_Q.go (fun hl_4 => (41, [some (.ref 0), some (.ref 5), some (.int x2)], [], (W_Load hl_4 hv hh hr hc))) (fun hl_4 => ?_)
        refine sv_Q.s (σ' := (51, [some (.ref 0), some (.ref 5), some (.int x2)], [], (W_Load (ss hl_4 5 ((hl_4 0 5) + (1 : Int32))) hv hh hr hc))) 6 rfl ?_
        refine sv_Q.go (fun hl_5 => (51, [some (.ref 0), some (.ref 5), some (.int x2)], [], (W_Load hl_5 hv hh hr hc))) (fun hl_5 => ?_)
        refine sv_Q.s (σ' := (7, [some (.ref 0), some (.ref 5), some (.int (x2 + (1 : Int32)))], [], (W_Load hl_5 hv hh hr hc))) 2 rfl ?_
        exact ih (x2 + (1 : Int32)) hl_5 hv hh hr hc
def F_Load_listBoxes (N : Nat) (hl hc : Nat → Nat → Int32) : Option ((Nat → Nat → Int32)) := (sv_let (ss hl 5 (0 : Int32)) fun (hl_1 : Nat → Nat → Int32) => (Option.bind (L_Load_listBoxes_7 N N (0 : Int32) hl_1 hc) fun (v6 : (Nat → Nat → Int32)) => (some v6)))
theorem r_Load_listBoxes {X : Nat × (Nat → Int32)} (N : Nat) (hl hv hh hr hc : Nat → Nat → Int32) : ∀ x, (F_Load_listBoxes N hl hc) = some x → sv_R X 3 M_Load_listBoxes [.ref 0, .ref 5] (W_Load hl hv hh hr hc) none (W_Load x hv hh hr hc) := by
  refine sv_Q.R (res := (fun (x : (Nat → Nat → Int32)) => ((none : Option Value), (W_Load x hv hh hr hc)))) g_Load_listBoxes rfl ?_
  unfold F_Load_listBoxes
  refine sv_Q.s (σ' := (5, [some (.ref 0), some (.ref 5), none], [], (W_Load (ss hl 5 (0 : Int32)) hv hh hr hc))) 3 rfl ?_
  refine sv_Q.go (fun hl_1 => (5, [some (.ref 0), some (.ref 5), none], [], (W_Load hl_1 hv hh hr hc))) (fun hl_1 => ?_)
  refine sv_Q.s (σ' := (7, [some (.ref 0), some (.ref 5), some (.int (0 : Int32))], [], (W_Load hl_1 hv hh hr hc))) 2 rfl ?_
  refine sv_Q.lo (fun v6 => (57, [none, none, none], [], (W_Load v6 hv hh hr hc))) (fun v6 => ?_) (l_Load_listBoxes_7 N N (0 : Int32) hl_1 hv hh hr hc)
  · exact sv_Q.z ⟨True, rfl, trivial, rfl⟩
def F_Load_isTooLong (hl : Nat → Nat → Int32) : Int32 := (if (hl 0 7) ≤ (hl 0 8) then (0 : Int32) else (1 : Int32))
theorem r_Load_isTooLong {X : Nat × (Nat → Int32)} (hl hv hh hr hc : Nat → Nat → Int32) : ∀ x, some (F_Load_isTooLong hl) = some x → sv_R X 1 M_Load_isTooLong [.ref 0] (W_Load hl hv hh hr hc) (some (.int x)) (W_Load hl hv hh hr hc) := by
  refine sv_Q.R (res := (fun (x : Int32) => (some (.int x), (W_Load hl hv hh hr hc)))) g_Load_isTooLong rfl ?_
  unfold F_Load_isTooLong
  refine sv_Q.s (σ' := (8, [some (.ref 0)], [.int (hl 0 8), .int (hl 0 7)], (W_Load hl hv hh hr hc))) 4 rfl ?_
  refine sv_Q.sb rfl (fun c1 => ?_) (fun c1 => ?_)
  · refine sv_Q.s (σ' := (16, [some (.ref 0)], [.int (0 : Int32)], (W_Load hl hv hh hr hc))) 1 rfl ?_
    exact sv_Q.z ⟨sv_01 (0 : Int32), rfl, Or.inl rfl, rfl⟩
  · refine sv_Q.s (σ' := (16, [some (.ref 0)], [.int (1 : Int32)], (W_Load hl hv hh hr hc))) 2 rfl ?_
    exact sv_Q.z ⟨sv_01 (1 : Int32), rfl, Or.inr rfl, rfl⟩
theorem t_Load_isTooLong {X : Nat × (Nat → Int32)} (hl hv hh hr hc : Nat → Nat → Int32) : sv_R X 1 M_Load_isTooLong [.ref 0] (W_Load hl hv hh hr hc) (some (.int (F_Load_isTooLong hl))) (W_Load hl hv hh hr hc) := r_Load_isTooLong hl hv hh hr hc _ rfl
theorem b_Load_isTooLong (hl : Nat → Nat → Int32) : sv_01 (F_Load_isTooLong hl) := by
  unfold F_Load_isTooLong
  try simp only [sv_let]
  repeat' split
  all_goals first | exact Or.inl rfl | exact Or.inr rfl
def F_Load_isLeft (a0 : Int32) (hl : Nat → Nat → Int32) : Int32 := (if (hl 0 6) ≤ a0 then (1 : Int32) else (if (F_Load_isTooLong hl) = 0 then (0 : Int32) else (1 : Int32)))
theorem r_Load_isLeft {X : Nat × (Nat → Int32)} (hl hv hh hr hc : Nat → Nat → Int32) (a0 : Int32) : ∀ x, some (F_Load_isLeft a0 hl) = some x → sv_R X 2 M_Load_isLeft [.ref 0, .int a0] (W_Load hl hv hh hr hc) (some (.int x)) (W_Load hl hv hh hr hc) := by
  refine sv_Q.R (res := (fun (x : Int32) => (some (.int x), (W_Load hl hv hh hr hc)))) g_Load_isLeft rfl ?_
  unfold F_Load_isLeft
  refine sv_Q.s (σ' := (5, [some (.ref 0), some (.int a0)], [.int (hl 0 6), .int a0], (W_Load hl hv hh hr hc))) 3 rfl ?_
  refine sv_Q.sb rfl (fun c1 => ?_) (fun c1 => ?_)
  · refine sv_Q.s (σ' := (20, [some (.ref 0), some (.int a0)], [.int (1 : Int32)], (W_Load hl hv hh hr hc))) 2 rfl ?_
    exact sv_Q.z ⟨sv_01 (1 : Int32), rfl, Or.inr rfl, rfl⟩
  · refine sv_Q.s (σ' := (9, [some (.ref 0), some (.int a0)], [.ref 0], (W_Load hl hv hh hr hc))) 1 rfl ?_
    refine sv_Q.V (b := 0) (av := []) (ps := [0, 1, 2, 3, 4, 5, 6, 7, 8, 9, 10, 11, 12, 13, 14, 15, 16, 17, 18, 19, 20, 21, 22, 23, 24, 25, 26]) (rest := []) (cs1 := (W_Load hl hv hh hr hc)) (cs2 := (W_Load hl hv hh hr hc)) (st' := [.int (F_Load_isTooLong hl)]) (cs' := (W_Load hl hv hh hr hc)) (q := (9, .null, 0, 0, 0)) lk_Load_49 (t_Load_isTooLong hl hv hh hr hc) rfl rfl rfl rfl rfl (Or.inl ⟨3, _, _, rfl, rfl, rfl⟩) rfl rfl (sc_Load_Load_0 hl hv hh hr hc) rfl rfl (pc_Load_Load_0 hl hv hh hr hc hl hv hh hr hc) ?_
    refine sv_Q.sb rfl (fun c2 => ?_) (fun c2 => ?_)
    · refine sv_Q.s (σ' := (20, [some (.ref 0), some (.int a0)], [.int (0 : Int32)], (W_Load hl hv hh hr hc))) 1 rfl ?_
      exact sv_Q.z ⟨sv_01 (0 : Int32), rfl, Or.inl rfl, rfl⟩
    · refine sv_Q.s (σ' := (20, [some (.ref 0), some (.int a0)], [.int (1 : Int32)], (W_Load hl hv hh hr hc))) 2 rfl ?_
      exact sv_Q.z ⟨sv_01 (1 : Int32), rfl, Or.inr rfl, rfl⟩
theorem t_Load_isLeft {X : Nat × (Nat → Int32)} (hl hv hh hr hc : Nat → Nat → Int32) (a0 : Int32) : sv_R X 2 M_Load_isLeft [.ref 0, .int a0] (W_Load hl hv hh hr hc) (some (.int (F_Load_isLeft a0 hl))) (W_Load hl hv hh hr hc) := r_Load_isLeft hl hv hh hr hc a0 _ rfl
theorem b_Load_isLeft (a0 : Int32) (hl : Nat → Nat → Int32) : sv_01 (F_Load_isLeft a0 hl) := by
  unfold F_Load_isLeft
  try simp only [sv_let]
  repeat' split
  all_goals first | exact Or.inl rfl | exact Or.inr rfl | apply b_Load_isTooLong
def L_Load_searchFrom_51 (N : Nat) (rec : Int32 → Int32 → (Nat → Nat → Int32) → (Nat → Nat → Int32) → (Nat → Nat → Int32) → (Nat → Nat → Int32) → Option ((Nat → Nat → Int32) × (Nat → Nat → Int32))) : Nat → Int32 → Int32 → Int32 → Int32 → (Nat → Nat → Int32) → (Nat → Nat → Int32) → (Nat → Nat → Int32) → (Nat → Nat → Int32) → Option ((Nat → Nat → Int32) × (Nat → Nat → Int32))
  | 0, _, _, _, _, _, _, _, _ => none
  | n + 1, x2, x3, x4, x5, hl, hh, hr, hc => (if (hh 0 4) ≤ x5 then (some (hl, hc)) else (if ¬ (F_Load_isLeft x3 hl) = 0 then (some (hl, hc)) else (Option.bind (F_Ves_whyNot N x4 x5 hh hr hc) fun (v5 : Int32) => (if ¬ v5 = 0 then (L_Load_searchFrom_51 N rec n x2 x3 x4 (x5 + (1 : Int32)) hl hh hr hc) else (sv_let (ss hl 7 ((hl 0 7) + (1 : Int32))) fun (hl_8 : Nat → Nat → Int32) => (sv_let (sw hl_8 3 24 x2 x5) fun (hl_9 : Nat → Nat → Int32) => (sv_let (F_Cargo_move x4 x5 hc) fun (hc_10 : Nat → Nat → Int32) => (Option.bind (rec (x2 + (1 : Int32)) x3 hl_9 hh hr hc_10) fun (v11 : (Nat → Nat → Int32) × (Nat → Nat → Int32)) => (sv_let (F_Cargo_move x4 (-1 : Int32) v11.2) fun (hc_13 : Nat → Nat → Int32) => (L_Load_searchFrom_51 N rec n x2 x3 x4 (x5 + (1 : Int32)) v11.1 hh hr hc_13))))))))))
theorem l_Load_searchFrom_51 {X : Nat × (Nat → Int32)} (N : Nat) (dd : Nat) (rec : Int32 → Int32 → (Nat → Nat → Int32) → (Nat → Nat → Int32) → (Nat → Nat → Int32) → (Nat → Nat → Int32) → Option ((Nat → Nat → Int32) × (Nat → Nat → Int32))) (hrec : ∀ (hl hv hh hr hc : Nat → Nat → Int32) (a1 : Int32) (a2 : Int32) x, rec a1 a2 hl hh hr hc = some x → sv_R X (dd + 5) M_Load_searchFrom [.ref 0, .ref 5, .int a1, .int a2] (W_Load hl hv hh hr hc) none (W_Load x.1 hv hh hr x.2)) : ∀ (n : Nat) (x2 : Int32) (x3 : Int32) (x4 : Int32) (x5 : Int32) (hl hv hh hr hc : Nat → Nat → Int32), sv_Q X (dd + 5) M_Load_searchFrom (51, [some (.ref 0), some (.ref 5), some (.int x2), some (.int x3), some (.int x4), some (.int x5)], [], (W_Load hl hv hh hr hc)) (L_Load_searchFrom_51 N rec n x2 x3 x4 x5 hl hh hr hc) (fun v σ' => σ' = (138, [some (.ref 0), some (.ref 5), some (.int x2), some (.int x3), none, none], [], (W_Load v.1 hv hh hr v.2))) := by
  intro n
  induction n with
  | zero => intro x2 x3 x4 x5 hl hv hh hr hc; unfold L_Load_searchFrom_51; exact sv_Q.non
  | succ n ih =>
    intro x2 x3 x4 x5 hl hv hh hr hc
    unfold L_Load_searchFrom_51
    refine sv_Q.s (σ' := (60, [some (.ref 0), some (.ref 5), some (.int x2), some (.int x3), some (.int x4), some (.int x5)], [.int (hh 0 4), .int x5], (W_Load hl hv hh hr hc))) 4 rfl ?_
    refine sv_Q.b rfl (fun c3 => ?_) (fun c3 => ?_)
    · refine sv_Q.f (lo' := [some (.ref 0), some (.ref 5), some (.int x2), some (.int x3), none, none]) ⟨rfl, ⟨rfl, ⟨rfl, ⟨rfl, trivial⟩⟩⟩⟩ ?_
      exact sv_Q.z rfl
    · refine sv_Q.s (σ' := (65, [some (.ref 0), some (.ref 5), some (.int x2), some (.int x3), some (.int x4), some (.int x5)], [.int x3, .ref 0], (W_Load hl hv hh hr hc))) 2 rfl ?_
      refine sv_Q.V (b := 0) (av := [.int x3]) (ps := [0, 1, 2, 3, 4, 5, 6, 7, 8, 9, 10, 11, 12, 13, 14, 15, 16, 17, 18, 19, 20, 21, 22, 23, 24, 25, 26]) (rest := []) (cs1 := (W_Load hl hv hh hr hc)) (cs2 := (W_Load hl hv hh hr hc)) (st' := [.int (F_Load_isLeft x3 hl)]) (cs' := (W_Load hl hv hh hr hc)) (q := (65, .null, 0, 0, 0)) lk_Load_99 (t_Load_isLeft hl hv hh hr hc x3) rfl rfl rfl rfl rfl (Or.inl ⟨3, _, _, rfl, rfl, rfl⟩) rfl rfl (sc_Load_Load_0 hl hv hh hr hc) rfl rfl (pc_Load_Load_0 hl hv hh hr hc hl hv hh hr hc) ?_
      refine sv_Q.b rfl (fun c4 => ?_) (fun c4 => ?_)
      · refine sv_Q.f (lo' := [some (.ref 0), some (.ref 5), some (.int x2), some (.int x3), none, none]) ⟨rfl, ⟨rfl, ⟨rfl, ⟨rfl, trivial⟩⟩⟩⟩ ?_
        exact sv_Q.z rfl
      · refine sv_Q.s (σ' := (76, [some (.ref 0), some (.ref 5), some (.int x2), some (.int x3), some (.int x4), some (.int x5)], [.int x5, .int x4, .ref 5], (W_Load hl hv hh hr hc))) 3 rfl ?_
        refine sv_Q.o (fun v5 e6 => ?_)
        refine sv_Q.V (b := 0) (av := [.int x4, .int x5]) (ps := [5, 6, 7, 8, 9, 10, 11, 12, 13, 14, 15, 16, 17, 18, 19, 20, 21, 22, 23, 24, 25, 26]) (rest := []) (cs1 := (W_Ves hv hh hr hc)) (cs2 := (W_Ves hv hh hr hc)) (st' := [.int v5]) (cs' := (W_Load hl hv hh hr hc)) (q := (76, .null, 0, 0, 0)) lk_Load_92 (r_Ves_whyNot N hv hh hr hc x4 x5 v5 e6) rfl rfl rfl rfl rfl (Or.inl ⟨10, _, _, rfl, rfl, rfl⟩) rfl rfl (sc_Load_Ves_1 hl hv hh hr hc) rfl rfl (pc_Load_Ves_1 hl hv hh hr hc hv hh hr hc) ?_
        refine sv_Q.b rfl (fun c7 => ?_) (fun c7 => ?_)
        · refine sv_Q.s (σ' := (51, [some (.ref 0), some (.ref 5), some (.int x2), some (.int x3), some (.int x4), some (.int (x5 + (1 : Int32)))], [], (W_Load hl hv hh hr hc))) 2 rfl ?_
          exact ih x2 x3 x4 (x5 + (1 : Int32)) hl hv hh hr hc
        · refine sv_Q.s (σ' := (92, [some (.ref 0), some (.ref 5), some (.int x2), some (.int x3), some (.int x4), some (.int x5)], [], (W_Load (ss hl 7 ((hl 0 7) + (1 : Int32))) hv hh hr hc))) 6 rfl ?_
          refine sv_Q.go (fun hl_8 => (92, [some (.ref 0), some (.ref 5), some (.int x2), some (.int x3), some (.int x4), some (.int x5)], [], (W_Load hl_8 hv hh hr hc))) (fun hl_8 => ?_)
          refine sv_Q.s (σ' := (99, [some (.ref 0), some (.ref 5), some (.int x2), some (.int x3), some (.int x4), some (.int x5)], [.int x5, .int x2, .ref 3], (W_Load hl_8 hv hh hr hc))) 4 rfl ?_
          refine sv_Q.S (ps := [3]) (rest := []) (st' := []) (cs' := (W_Load (sw hl_8 3 24 x2 x5) hv hh hr hc)) (q := (99, .null, 0, 0, 0)) lk_Load_81 (t_K_write 24 rfl (hl_8 3) x2 x5) rfl rfl rfl rfl rfl rfl rfl (su_Load_3 hl_8 hv hh hr hc) rfl rfl (pa_Load_3 hl_8 hv hh hr hc (wr 24 (hl_8 3) x2 x5)) ?_
          refine sv_Q.go (fun hl_9 => (102, [some (.ref 0), some (.ref 5), some (.int x2), some (.int x3), some (.int x4), some (.int x5)], [], (W_Load hl_9 hv hh hr hc))) (fun hl_9 => ?_)
          refine sv_Q.s (σ' := (110, [some (.ref 0), some (.ref 5), some (.int x2), some (.int x3), some (.int x4), some (.int x5)], [.int x5, .int x4, .ref 21], (W_Load hl_9 hv hh hr hc))) 4 rfl ?_
          refine sv_Q.V (b := 0) (av := [.int x4, .int x5]) (ps := [21, 22, 23, 24, 25, 26]) (rest := []) (cs1 := (W_Cargo hc)) (cs2 := (W_Cargo (F_Cargo_move x4 x5 hc))) (st' := []) (cs' := (W_Load hl_9 hv hh hr (F_Cargo_move x4 x5 hc))) (q := (110, .null, 0, 0, 0)) lk_Load_67 (t_Cargo_move hc x4 x5) rfl rfl rfl rfl rfl (Or.inl ⟨0, _, _, rfl, rfl, rfl⟩) rfl rfl (sc_Load_Cargo_4 hl_9 hv hh hr hc) rfl rfl (pc_Load_Cargo_4 hl_9 hv hh hr hc (F_Cargo_move x4 x5 hc)) ?_
          refine sv_Q.go (fun hc_10 => (113, [some (.ref 0), some (.ref 5), some (.int x2), some (.int x3), some (.int x4), some (.int x5)], [], (W_Load hl_9 hv hh hr hc_10))) (fun hc_10 => ?_)
          refine sv_Q.s (σ' := (119, [some (.ref 0), some (.ref 5), some (.int x2), some (.int x3), some (.int x4), some (.int x5)], [.int x3, .int (x2 + (1 : Int32)), .ref 5, .ref 0], (W_Load hl_9 hv hh hr hc_10))) 6 rfl ?_
          refine sv_Q.o (fun v11 e12 => ?_)
          refine sv_Q.V (b := 0) (av := [.ref 5, .int (x2 + (1 : Int32)), .int x3]) (ps := [0, 1, 2, 3, 4, 5, 6, 7, 8, 9, 10, 11, 12, 13, 14, 15, 16, 17, 18, 19, 20, 21, 22, 23, 24, 25, 26]) (rest := []) (cs1 := (W_Load hl_9 hv hh hr hc_10)) (cs2 := (W_Load v11.1 hv hh hr v11.2)) (st' := []) (cs' := (W_Load v11.1 hv hh hr v11.2)) (q := (119, .null, 0, 0, 0)) lk_Load_95 (hrec hl_9 hv hh hr hc_10 (x2 + (1 : Int32)) x3 v11 e12) (Nat.ble_eq_true_of_le (Nat.le_refl _)) rfl rfl rfl rfl (Or.inl ⟨3, _, _, rfl, rfl, rfl⟩) rfl rfl (sc_Load_Load_0 hl_9 hv hh hr hc_10) rfl rfl (pc_Load_Load_0 hl_9 hv hh hr hc_10 v11.1 hv hh hr v11.2) ?_
          refine sv_Q.s (σ' := (129, [some (.ref 0), some (.ref 5), some (.int x2), some (.int x3), some (.int x4), some (.int x5)], [.int (-1 : Int32), .int x4, .ref 21], (W_Load v11.1 hv hh hr v11.2))) 4 rfl ?_
          refine sv_Q.V (b := 0) (av := [.int x4, .int (-1 : Int32)]) (ps := [21, 22, 23, 24, 25, 26]) (rest := []) (cs1 := (W_Cargo v11.2)) (cs2 := (W_Cargo (F_Cargo_move x4 (-1 : Int32) v11.2))) (st' := []) (cs' := (W_Load v11.1 hv hh hr (F_Cargo_move x4 (-1 : Int32) v11.2))) (q := (129, .null, 0, 0, 0)) lk_Load_67 (t_Cargo_move v11.2 x4 (-1 : Int32)) rfl rfl rfl rfl rfl (Or.inl ⟨0, _, _, rfl, rfl, rfl⟩) rfl rfl (sc_Load_Cargo_4 v11.1 hv hh hr v11.2) rfl rfl (pc_Load_Cargo_4 v11.1 hv hh hr v11.2 (F_Cargo_move x4 (-1 : Int32) v11.2)) ?_
          refine sv_Q.go (fun hc_13 => (132, [some (.ref 0), some (.ref 5), some (.int x2), some (.int x3), some (.int x4), some (.int x5)], [], (W_Load v11.1 hv hh hr hc_13))) (fun hc_13 => ?_)
          refine sv_Q.s (σ' := (51, [some (.ref 0), some (.ref 5), some (.int x2), some (.int x3), some (.int x4), some (.int (x5 + (1 : Int32)))], [], (W_Load v11.1 hv hh hr hc_13))) 2 rfl ?_
          exact ih x2 x3 x4 (x5 + (1 : Int32)) v11.1 hv hh hr hc_13
def F_Load_searchFrom (N : Nat) : Nat → Int32 → Int32 → (Nat → Nat → Int32) → (Nat → Nat → Int32) → (Nat → Nat → Int32) → (Nat → Nat → Int32) → Option ((Nat → Nat → Int32) × (Nat → Nat → Int32))
  | 0, _, _, _, _, _, _ => none
  | dd + 1, a1, a2, hl, hh, hr, hc => (if (F_Load_isLeft a2 hl) = 0 then (if a1 < (hl 0 5) then (Option.bind (L_Load_searchFrom_51 N (F_Load_searchFrom N dd) N a1 a2 (rd 24 (hl 2) a1) (0 : Int32) hl hh hr hc) fun (v14 : (Nat → Nat → Int32) × (Nat → Nat → Int32)) => (sv_let (sw v14.1 3 24 a1 (-1 : Int32)) fun (hl_15 : Nat → Nat → Int32) => (Option.bind (F_Load_searchFrom N dd (a1 + (1 : Int32)) (a2 + (1 : Int32)) hl_15 hh hr v14.2) fun (v16 : (Nat → Nat → Int32) × (Nat → Nat → Int32)) => (some (v16.1, v16.2))))) else (sv_let (ss hl 6 a2) fun (hl_18 : Nat → Nat → Int32) => (sv_let (sc hl_18 3 4 (0 : Int32) (0 : Int32) (24 : Int32)) fun (hl_19 : Nat → Nat → Int32) => (some (hl_19, hc))))) else (some (hl, hc)))
theorem r_Load_searchFrom {X : Nat × (Nat → Int32)} (N : Nat) : ∀ (dd : Nat) (hl hv hh hr hc : Nat → Nat → Int32) (a1 : Int32) (a2 : Int32) x, F_Load_searchFrom N dd a1 a2 hl hh hr hc = some x → sv_R X (dd + 5) M_Load_searchFrom [.ref 0, .ref 5, .int a1, .int a2] (W_Load hl hv hh hr hc) none (W_Load x.1 hv hh hr x.2) := by
  intro dd
  induction dd with
  | zero => intro hl hv hh hr hc a1 a2 x hx; unfold F_Load_searchFrom at hx; cases hx
  | succ dd ih =>
    intro hl hv hh hr hc a1 a2
    show ∀ x, _ → sv_R X (dd + 5 + 1) _ _ _ _ _
    refine sv_Q.R (res := (fun (x : (Nat → Nat → Int32) × (Nat → Nat → Int32)) => ((none : Option Value), (W_Load x.1 hv hh hr x.2)))) g_Load_searchFrom rfl ?_
    unfold F_Load_searchFrom
    refine sv_Q.s (σ' := (2, [some (.ref 0), some (.ref 5), some (.int a1), some (.int a2), none, none], [.int a2, .ref 0], (W_Load hl hv hh hr hc))) 2 rfl ?_
    refine sv_Q.V (b := 0) (av := [.int a2]) (ps := [0, 1, 2, 3, 4, 5, 6, 7, 8, 9, 10, 11, 12, 13, 14, 15, 16, 17, 18, 19, 20, 21, 22, 23, 24, 25, 26]) (rest := []) (cs1 := (W_Load hl hv hh hr hc)) (cs2 := (W_Load hl hv hh hr hc)) (st' := [.int (F_Load_isLeft a2 hl)]) (cs' := (W_Load hl hv hh hr hc)) (q := (2, .null, 0, 0, 0)) lk_Load_99 (t_Load_isLeft hl hv hh hr hc a2) rfl rfl rfl rfl rfl (Or.inl ⟨3, _, _, rfl, rfl, rfl⟩) rfl rfl (sc_Load_Load_0 hl hv hh hr hc) rfl rfl (pc_Load_Load_0 hl hv hh hr hc hl hv hh hr hc) ?_
    refine sv_Q.b rfl (fun c1 => ?_) (fun c1 => ?_)
    · refine sv_Q.s (σ' := (14, [some (.ref 0), some (.ref 5), some (.int a1), some (.int a2), none, none], [.int (hl 0 5), .int a1], (W_Load hl hv hh hr hc))) 3 rfl ?_
      refine sv_Q.b rfl (fun c2 => ?_) (fun c2 => ?_)
      · refine sv_Q.s (σ' := (43, [some (.ref 0), some (.ref 5), some (.int a1), some (.int a2), none, none], [.int a1, .ref 2], (W_Load hl hv hh hr hc))) 3 rfl ?_
        refine sv_Q.S (ps := [2]) (rest := []) (st' := [.int (rd 24 (hl 2) a1)]) (cs' := (W_Load hl hv hh hr hc)) (q := (43, .null, 0, 0, 0)) lk_Load_41 (t_K_read 24 rfl (hl 2) a1) rfl rfl rfl rfl rfl rfl rfl (su_Load_2 hl hv hh hr hc) rfl rfl (pu_Load_2 hl hv hh hr hc) ?_
        refine sv_Q.s (σ' := (51, [some (.ref 0), some (.ref 5), some (.int a1), some (.int a2), some (.int (rd 24 (hl 2) a1)), some (.int (0 : Int32))], [], (W_Load hl hv hh hr hc))) 3 rfl ?_
        refine sv_Q.lo (fun v14 => (138, [some (.ref 0), some (.ref 5), some (.int a1), some (.int a2), none, none], [], (W_Load v14.1 hv hh hr v14.2))) (fun v14 => ?_) (l_Load_searchFrom_51 N dd (F_Load_searchFrom N dd) ih N a1 a2 (rd 24 (hl 2) a1) (0 : Int32) hl hv hh hr hc)
        · refine sv_Q.s (σ' := (144, [some (.ref 0), some (.ref 5), some (.int a1), some (.int a2), none, none], [.int (-1 : Int32), .int a1, .ref 3], (W_Load v14.1 hv hh hr v14.2))) 4 rfl ?_
          refine sv_Q.S (ps := [3]) (rest := []) (st' := []) (cs' := (W_Load (sw v14.1 3 24 a1 (-1 : Int32)) hv hh hr v14.2)) (q := (144, .null, 0, 0, 0)) lk_Load_81 (t_K_write 24 rfl (v14.1 3) a1 (-1 : Int32)) rfl rfl rfl rfl rfl rfl rfl (su_Load_3 v14.1 hv hh hr v14.2) rfl rfl (pa_Load_3 v14.1 hv hh hr v14.2 (wr 24 (v14.1 3) a1 (-1 : Int32))) ?_
          refine sv_Q.go (fun hl_15 => (147, [some (.ref 0), some (.ref 5), some (.int a1), some (.int a2), none, none], [], (W_Load hl_15 hv hh hr v14.2))) (fun hl_15 => ?_)
          refine sv_Q.s (σ' := (155, [some (.ref 0), some (.ref 5), some (.int a1), some (.int a2), none, none], [.int (a2 + (1 : Int32)), .int (a1 + (1 : Int32)), .ref 5, .ref 0], (W_Load hl_15 hv hh hr v14.2))) 8 rfl ?_
          refine sv_Q.o (fun v16 e17 => ?_)
          refine sv_Q.V (b := 0) (av := [.ref 5, .int (a1 + (1 : Int32)), .int (a2 + (1 : Int32))]) (ps := [0, 1, 2, 3, 4, 5, 6, 7, 8, 9, 10, 11, 12, 13, 14, 15, 16, 17, 18, 19, 20, 21, 22, 23, 24, 25, 26]) (rest := []) (cs1 := (W_Load hl_15 hv hh hr v14.2)) (cs2 := (W_Load v16.1 hv hh hr v16.2)) (st' := []) (cs' := (W_Load v16.1 hv hh hr v16.2)) (q := (155, .null, 0, 0, 0)) lk_Load_95 (ih hl_15 hv hh hr v14.2 (a1 + (1 : Int32)) (a2 + (1 : Int32)) v16 e17) (Nat.ble_eq_true_of_le (Nat.le_refl _)) rfl rfl rfl rfl (Or.inl ⟨3, _, _, rfl, rfl, rfl⟩) rfl rfl (sc_Load_Load_0 hl_15 hv hh hr v14.2) rfl rfl (pc_Load_Load_0 hl_15 hv hh hr v14.2 v16.1 hv hh hr v16.2) ?_
          exact sv_Q.z ⟨True, rfl, trivial, rfl⟩
      · refine sv_Q.s (σ' := (22, [some (.ref 0), some (.ref 5), some (.int a1), some (.int a2), none, none], [], (W_Load (ss hl 6 a2) hv hh hr hc))) 3 rfl ?_
        refine sv_Q.go (fun hl_18 => (22, [some (.ref 0), some (.ref 5), some (.int a1), some (.int a2), none, none], [], (W_Load hl_18 hv hh hr hc))) (fun hl_18 => ?_)
        refine sv_Q.s (σ' := (34, [some (.ref 0), some (.ref 5), some (.int a1), some (.int a2), none, none], [.int (24 : Int32), .int (0 : Int32), .ref 4, .int (0 : Int32), .ref 3], (W_Load hl_18 hv hh hr hc))) 7 rfl ?_
        refine sv_Q.gk (σ' := (37, [some (.ref 0), some (.ref 5), some (.int a1), some (.int a2), none, none], [], (W_Load (sc hl_18 3 4 (0 : Int32) (0 : Int32) (24 : Int32)) hv hh hr hc))) (c := (¬ (0 : Int32) < 0 ∧ ¬ (0 : Int32) < 0 ∧ ¬ (24 : Int32) < 0) ∧ ((0 : Int32)).toNatClampNeg + ((24 : Int32)).toNatClampNeg ≤ 24 ∧ ((0 : Int32)).toNatClampNeg + ((24 : Int32)).toNatClampNeg ≤ 24) rfl (by decide) ?_
        refine sv_Q.go (fun hl_19 => (37, [some (.ref 0), some (.ref 5), some (.int a1), some (.int a2), none, none], [], (W_Load hl_19 hv hh hr hc))) (fun hl_19 => ?_)
        exact sv_Q.z ⟨True, rfl, trivial, rfl⟩
    · exact sv_Q.z ⟨True, rfl, trivial, rfl⟩
def F_Load_search (N : Nat) (a1 : Int32) (hl hh hr hc : Nat → Nat → Int32) : Option ((Nat → Nat → Int32) × (Nat → Nat → Int32)) := (Option.bind (F_Load_listBoxes N hl hc) fun (v1 : (Nat → Nat → Int32)) => (sv_let (ss v1 6 ((v1 0 5) + (1 : Int32))) fun (hl_3 : Nat → Nat → Int32) => (sv_let (ss hl_3 7 (0 : Int32)) fun (hl_4 : Nat → Nat → Int32) => (sv_let (ss hl_4 8 a1) fun (hl_5 : Nat → Nat → Int32) => (Option.bind (F_Load_searchFrom N 27 (0 : Int32) (0 : Int32) hl_5 hh hr hc) fun (v6 : (Nat → Nat → Int32) × (Nat → Nat → Int32)) => (some (v6.1, v6.2)))))))
theorem r_Load_search {X : Nat × (Nat → Int32)} (N : Nat) (hl hv hh hr hc : Nat → Nat → Int32) (a1 : Int32) : ∀ x, (F_Load_search N a1 hl hh hr hc) = some x → sv_R X 33 M_Load_search [.ref 0, .ref 5, .int a1] (W_Load hl hv hh hr hc) none (W_Load x.1 hv hh hr x.2) := by
  refine sv_Q.R (res := (fun (x : (Nat → Nat → Int32) × (Nat → Nat → Int32)) => ((none : Option Value), (W_Load x.1 hv hh hr x.2)))) g_Load_search rfl ?_
  unfold F_Load_search
  refine sv_Q.s (σ' := (2, [some (.ref 0), some (.ref 5), some (.int a1)], [.ref 5, .ref 0], (W_Load hl hv hh hr hc))) 2 rfl ?_
  refine sv_Q.o (fun v1 e2 => ?_)
  refine sv_Q.V (b := 0) (av := [.ref 5]) (ps := [0, 1, 2, 3, 4, 5, 6, 7, 8, 9, 10, 11, 12, 13, 14, 15, 16, 17, 18, 19, 20, 21, 22, 23, 24, 25, 26]) (rest := []) (cs1 := (W_Load hl hv hh hr hc)) (cs2 := (W_Load v1 hv hh hr hc)) (st' := []) (cs' := (W_Load v1 hv hh hr hc)) (q := (2, .null, 0, 0, 0)) lk_Load_73 (r_Load_listBoxes N hl hv hh hr hc v1 e2) rfl rfl rfl rfl rfl (Or.inl ⟨3, _, _, rfl, rfl, rfl⟩) rfl rfl (sc_Load_Load_0 hl hv hh hr hc) rfl rfl (pc_Load_Load_0 hl hv hh hr hc v1 hv hh hr hc) ?_
  refine sv_Q.s (σ' := (15, [some (.ref 0), some (.ref 5), some (.int a1)], [], (W_Load (ss v1 6 ((v1 0 5) + (1 : Int32))) hv hh hr hc))) 6 rfl ?_
  refine sv_Q.go (fun hl_3 => (15, [some (.ref 0), some (.ref 5), some (.int a1)], [], (W_Load hl_3 hv hh hr hc))) (fun hl_3 => ?_)
  refine sv_Q.s (σ' := (20, [some (.ref 0), some (.ref 5), some (.int a1)], [], (W_Load (ss hl_3 7 (0 : Int32)) hv hh hr hc))) 3 rfl ?_
  refine sv_Q.go (fun hl_4 => (20, [some (.ref 0), some (.ref 5), some (.int a1)], [], (W_Load hl_4 hv hh hr hc))) (fun hl_4 => ?_)
  refine sv_Q.s (σ' := (25, [some (.ref 0), some (.ref 5), some (.int a1)], [], (W_Load (ss hl_4 8 a1) hv hh hr hc))) 3 rfl ?_
  refine sv_Q.go (fun hl_5 => (25, [some (.ref 0), some (.ref 5), some (.int a1)], [], (W_Load hl_5 hv hh hr hc))) (fun hl_5 => ?_)
  refine sv_Q.s (σ' := (29, [some (.ref 0), some (.ref 5), some (.int a1)], [.int (0 : Int32), .int (0 : Int32), .ref 5, .ref 0], (W_Load hl_5 hv hh hr hc))) 4 rfl ?_
  refine sv_Q.o (fun v6 e7 => ?_)
  refine sv_Q.V (b := 0) (av := [.ref 5, .int (0 : Int32), .int (0 : Int32)]) (ps := [0, 1, 2, 3, 4, 5, 6, 7, 8, 9, 10, 11, 12, 13, 14, 15, 16, 17, 18, 19, 20, 21, 22, 23, 24, 25, 26]) (rest := []) (cs1 := (W_Load hl_5 hv hh hr hc)) (cs2 := (W_Load v6.1 hv hh hr v6.2)) (st' := []) (cs' := (W_Load v6.1 hv hh hr v6.2)) (q := (29, .null, 0, 0, 0)) lk_Load_95 (r_Load_searchFrom N 27 hl_5 hv hh hr hc (0 : Int32) (0 : Int32) v6 e7) rfl rfl rfl rfl rfl (Or.inl ⟨3, _, _, rfl, rfl, rfl⟩) rfl rfl (sc_Load_Load_0 hl_5 hv hh hr hc) rfl rfl (pc_Load_Load_0 hl_5 hv hh hr hc v6.1 hv hh hr v6.2) ?_
  exact sv_Q.z ⟨True, rfl, trivial, rfl⟩
def L_Load_tellRow_4_11 (N : Nat) : Nat → Int32 → (Nat → Nat → Int32) → Option ((Nat → Nat → Int32))
  | 0, _, _ => none
  | n + 1, x2, hl => (if (hl 0 5) ≤ x2 then (some hl) else (sv_let (sw hl 1 24 (rd 24 (hl 2) x2) (rd 24 (hl 4) x2)) fun (hl_3 : Nat → Nat → Int32) => (L_Load_tellRow_4_11 N n (x2 + (1 : Int32)) hl_3)))
theorem l_Load_tellRow_4_11 {X : Nat × (Nat → Int32)} (N : Nat) : ∀ (n : Nat) (x2 : Int32) (hl hv hh hr hc : Nat → Nat → Int32), sv_Q X 1 M_Load_tellRow (11, [some (.ref 0), some (.ref 4), some (.int x2)], [], (W_Load hl hv hh hr hc)) (L_Load_tellRow_4_11 N n x2 hl) (fun v σ' => σ' = (45, [some (.ref 0), none, none], [], (W_Load v hv hh hr hc))) := by
  intro n
  induction n with
  | zero => intro x2 hl hv hh hr hc; unfold L_Load_tellRow_4_11; exact sv_Q.non
  | succ n ih =>
    intro x2 hl hv hh hr hc
    unfold L_Load_tellRow_4_11
    refine sv_Q.s (σ' := (16, [some (.ref 0), some (.ref 4), some (.int x2)], [.int (hl 0 5), .int x2], (W_Load hl hv hh hr hc))) 3 rfl ?_
    refine sv_Q.b rfl (fun c2 => ?_) (fun c2 => ?_)
    · refine sv_Q.f (lo' := [some (.ref 0), none, none]) ⟨rfl, trivial⟩ ?_
      exact sv_Q.z rfl
    · refine sv_Q.s (σ' := (28, [some (.ref 0), some (.ref 4), some (.int x2)], [.int x2, .ref 2, .ref 1], (W_Load hl hv hh hr hc))) 5 rfl ?_
      refine sv_Q.S (ps := [2]) (rest := [.ref 1]) (st' := [.int (rd 24 (hl 2) x2), .ref 1]) (cs' := (W_Load hl hv hh hr hc)) (q := (28, .null, 0, 0, 0)) lk_Load_41 (t_K_read 24 rfl (hl 2) x2) rfl rfl rfl rfl rfl rfl rfl (su_Load_2 hl hv hh hr hc) rfl rfl (pu_Load_2 hl hv hh hr hc) ?_
      refine sv_Q.s (σ' := (33, [some (.ref 0), some (.ref 4), some (.int x2)], [.int x2, .ref 4, .int (rd 24 (hl 2) x2), .ref 1], (W_Load hl hv hh hr hc))) 2 rfl ?_
      refine sv_Q.S (ps := [4]) (rest := [.int (rd 24 (hl 2) x2), .ref 1]) (st' := [.int (rd 24 (hl 4) x2), .int (rd 24 (hl 2) x2), .ref 1]) (cs' := (W_Load hl hv hh hr hc)) (q := (33, .null, 0, 0, 0)) lk_Load_41 (t_K_read 24 rfl (hl 4) x2) rfl rfl rfl rfl rfl rfl rfl (su_Load_4 hl hv hh hr hc) rfl rfl (pu_Load_4 hl hv hh hr hc) ?_
      refine sv_Q.S (ps := [1]) (rest := []) (st' := []) (cs' := (W_Load (sw hl 1 24 (rd 24 (hl 2) x2) (rd 24 (hl 4) x2)) hv hh hr hc)) (q := (36, .null, 0, 0, 0)) lk_Load_81 (t_K_write 24 rfl (hl 1) (rd 24 (hl 2) x2) (rd 24 (hl 4) x2)) rfl rfl rfl rfl rfl rfl rfl (su_Load_1 hl hv hh hr hc) rfl rfl (pa_Load_1 hl hv hh hr hc (wr 24 (hl 1) (rd 24 (hl 2) x2) (rd 24 (hl 4) x2))) ?_
      refine sv_Q.go (fun hl_3 => (39, [some (.ref 0), some (.ref 4), some (.int x2)], [], (W_Load hl_3 hv hh hr hc))) (fun hl_3 => ?_)
      refine sv_Q.s (σ' := (11, [some (.ref 0), some (.ref 4), some (.int (x2 + (1 : Int32)))], [], (W_Load hl_3 hv hh hr hc))) 2 rfl ?_
      exact ih (x2 + (1 : Int32)) hl_3 hv hh hr hc
def F_Load_tellRow_4 (N : Nat) (hl : Nat → Nat → Int32) : Option ((Nat → Nat → Int32)) := (sv_let (sf hl 1 24 (-6 : Int32)) fun (hl_1 : Nat → Nat → Int32) => (Option.bind (L_Load_tellRow_4_11 N N (0 : Int32) hl_1) fun (v4 : (Nat → Nat → Int32)) => (sv_let (ss v4 0 (1 : Int32)) fun (hl_5 : Nat → Nat → Int32) => (some hl_5))))
theorem r_Load_tellRow_4 {X : Nat × (Nat → Int32)} (N : Nat) (hl hv hh hr hc : Nat → Nat → Int32) : ∀ x, (F_Load_tellRow_4 N hl) = some x → sv_R X 2 M_Load_tellRow [.ref 0, .ref 4] (W_Load hl hv hh hr hc) none (W_Load x hv hh hr hc) := by
  refine sv_Q.R (res := (fun (x : (Nat → Nat → Int32)) => ((none : Option Value), (W_Load x hv hh hr hc)))) g_Load_tellRow rfl ?_
  unfold F_Load_tellRow_4
  refine sv_Q.s (σ' := (6, [some (.ref 0), some (.ref 4), none], [.int (-6 : Int32), .ref 1], (W_Load hl hv hh hr hc))) 3 rfl ?_
  refine sv_Q.S (ps := [1]) (rest := []) (st' := []) (cs' := (W_Load (sf hl 1 24 (-6 : Int32)) hv hh hr hc)) (q := (6, .null, 0, 0, 0)) lk_Load_117 (t_Arr_fill 24 (Nat.le_of_ble_eq_true rfl) (hl 1) (-6 : Int32)) rfl rfl rfl rfl rfl rfl rfl (su_Load_1 hl hv hh hr hc) rfl rfl (pa_Load_1 hl hv hh hr hc (sv_fl 24 (hl 1) (-6 : Int32))) ?_
  refine sv_Q.go (fun hl_1 => (9, [some (.ref 0), some (.ref 4), none], [], (W_Load hl_1 hv hh hr hc))) (fun hl_1 => ?_)
  refine sv_Q.s (σ' := (11, [some (.ref 0), some (.ref 4), some (.int (0 : Int32))], [], (W_Load hl_1 hv hh hr hc))) 2 rfl ?_
  refine sv_Q.lo (fun v4 => (45, [some (.ref 0), none, none], [], (W_Load v4 hv hh hr hc))) (fun v4 => ?_) (l_Load_tellRow_4_11 N N (0 : Int32) hl_1 hv hh hr hc)
  · refine sv_Q.s (σ' := (47, [some (.ref 0), none, none], [.int (1 : Int32), .ref 0], (W_Load v4 hv hh hr hc))) 2 rfl ?_
    refine sv_Q.gk (σ' := (50, [some (.ref 0), none, none], [], (W_Load (ss v4 0 (1 : Int32)) hv hh hr hc))) (c := sv_01 (1 : Int32)) rfl (Or.inr rfl) ?_
    refine sv_Q.go (fun hl_5 => (50, [some (.ref 0), none, none], [], (W_Load hl_5 hv hh hr hc))) (fun hl_5 => ?_)
    exact sv_Q.z ⟨True, rfl, trivial, rfl⟩
def F_Load_loadBest (N : Nat) (a1 : Int32) (hl hh hr hc : Nat → Nat → Int32) : Option (Int32 × (Nat → Nat → Int32) × (Nat → Nat → Int32)) := (Option.bind (F_Load_search N a1 hl hh hr hc) fun (v1 : (Nat → Nat → Int32) × (Nat → Nat → Int32)) => (if (F_Load_isTooLong v1.1) = 0 then (Option.bind (F_Load_tellRow_4 N v1.1) fun (v4 : (Nat → Nat → Int32)) => (some ((v4 0 6), v4, v1.2))) else (some ((-3 : Int32), v1.1, v1.2))))
theorem r_Load_loadBest {X : Nat × (Nat → Int32)} (N : Nat) (hl hv hh hr hc : Nat → Nat → Int32) (a1 : Int32) : ∀ x, (F_Load_loadBest N a1 hl hh hr hc) = some x → sv_R X 34 M_Load_loadBest [.ref 0, .ref 5, .int a1] (W_Load hl hv hh hr hc) (some (.int x.1)) (W_Load x.2.1 hv hh hr x.2.2) := by
  refine sv_Q.R (res := (fun (x : Int32 × (Nat → Nat → Int32) × (Nat → Nat → Int32)) => (some (.int x.1), (W_Load x.2.1 hv hh hr x.2.2)))) g_Load_loadBest rfl ?_
  unfold F_Load_loadBest
  refine sv_Q.s (σ' := (3, [some (.ref 0), some (.ref 5), some (.int a1)], [.int a1, .ref 5, .ref 0], (W_Load hl hv hh hr hc))) 3 rfl ?_
  refine sv_Q.o (fun v1 e2 => ?_)
  refine sv_Q.V (b := 0) (av := [.ref 5, .int a1]) (ps := [0, 1, 2, 3, 4, 5, 6, 7, 8, 9, 10, 11, 12, 13, 14, 15, 16, 17, 18, 19, 20, 21, 22, 23, 24, 25, 26]) (rest := []) (cs1 := (W_Load hl hv hh hr hc)) (cs2 := (W_Load v1.1 hv hh hr v1.2)) (st' := []) (cs' := (W_Load v1.1 hv hh hr v1.2)) (q := (3, .null, 0, 0, 0)) lk_Load_45 (r_Load_search N hl hv hh hr hc a1 v1 e2) rfl rfl rfl rfl rfl (Or.inl ⟨3, _, _, rfl, rfl, rfl⟩) rfl rfl (sc_Load_Load_0 hl hv hh hr hc) rfl rfl (pc_Load_Load_0 hl hv hh hr hc v1.1 hv hh hr v1.2) ?_
  refine sv_Q.s (σ' := (7, [some (.ref 0), some (.ref 5), some (.int a1)], [.ref 0], (W_Load v1.1 hv hh hr v1.2))) 1 rfl ?_
  refine sv_Q.V (b := 0) (av := []) (ps := [0, 1, 2, 3, 4, 5, 6, 7, 8, 9, 10, 11, 12, 13, 14, 15, 16, 17, 18, 19, 20, 21, 22, 23, 24, 25, 26]) (rest := []) (cs1 := (W_Load v1.1 hv hh hr v1.2)) (cs2 := (W_Load v1.1 hv hh hr v1.2)) (st' := [.int (F_Load_isTooLong v1.1)]) (cs' := (W_Load v1.1 hv hh hr v1.2)) (q := (7, .null, 0, 0, 0)) lk_Load_49 (t_Load_isTooLong v1.1 hv hh hr v1.2) rfl rfl rfl rfl rfl (Or.inl ⟨3, _, _, rfl, rfl, rfl⟩) rfl rfl (sc_Load_Load_0 v1.1 hv hh hr v1.2) rfl rfl (pc_Load_Load_0 v1.1 hv hh hr v1.2 v1.1 hv hh hr v1.2) ?_
  refine sv_Q.b rfl (fun c3 => ?_) (fun c3 => ?_)
  · refine sv_Q.s (σ' := (21, [some (.ref 0), some (.ref 5), some (.int a1)], [.ref 4, .ref 0], (W_Load v1.1 hv hh hr v1.2))) 3 rfl ?_
    refine sv_Q.o (fun v4 e5 => ?_)
    refine sv_Q.V (b := 0) (av := [.ref 4]) (ps := [0, 1, 2, 3, 4, 5, 6, 7, 8, 9, 10, 11, 12, 13, 14, 15, 16, 17, 18, 19, 20, 21, 22, 23, 24, 25, 26]) (rest := []) (cs1 := (W_Load v1.1 hv hh hr v1.2)) (cs2 := (W_Load v4 hv hh hr v1.2)) (st' := []) (cs' := (W_Load v4 hv hh hr v1.2)) (q := (21, .null, 0, 0, 0)) lk_Load_53 (r_Load_tellRow_4 N v1.1 hv hh hr v1.2 v4 e5) rfl rfl rfl rfl rfl (Or.inl ⟨3, _, _, rfl, rfl, rfl⟩) rfl rfl (sc_Load_Load_0 v1.1 hv hh hr v1.2) rfl rfl (pc_Load_Load_0 v1.1 hv hh hr v1.2 v4 hv hh hr v1.2) ?_
    refine sv_Q.s (σ' := (28, [some (.ref 0), some (.ref 5), some (.int a1)], [.int (v4 0 6)], (W_Load v4 hv hh hr v1.2))) 2 rfl ?_
    exact sv_Q.z ⟨True, rfl, trivial, rfl⟩
  · refine sv_Q.s (σ' := (15, [some (.ref 0), some (.ref 5), some (.int a1)], [.int (-3 : Int32)], (W_Load v1.1 hv hh hr v1.2))) 1 rfl ?_
    exact sv_Q.z ⟨True, rfl, trivial, rfl⟩
def F_Load_countPuts (N : Nat) (a1 : Int32) (hl hh hr hc : Nat → Nat → Int32) : Option (Int32 × (Nat → Nat → Int32) × (Nat → Nat → Int32)) := (Option.bind (F_Load_search N a1 hl hh hr hc) fun (v1 : (Nat → Nat → Int32) × (Nat → Nat → Int32)) => (if (F_Load_isTooLong v1.1) = 0 then (some ((v1.1 0 7), v1.1, v1.2)) else (some ((-3 : Int32), v1.1, v1.2))))
theorem r_Load_countPuts {X : Nat × (Nat → Int32)} (N : Nat) (hl hv hh hr hc : Nat → Nat → Int32) (a1 : Int32) : ∀ x, (F_Load_countPuts N a1 hl hh hr hc) = some x → sv_R X 34 M_Load_countPuts [.ref 0, .ref 5, .int a1] (W_Load hl hv hh hr hc) (some (.int x.1)) (W_Load x.2.1 hv hh hr x.2.2) := by
  refine sv_Q.R (res := (fun (x : Int32 × (Nat → Nat → Int32) × (Nat → Nat → Int32)) => (some (.int x.1), (W_Load x.2.1 hv hh hr x.2.2)))) g_Load_countPuts rfl ?_
  unfold F_Load_countPuts
  refine sv_Q.s (σ' := (3, [some (.ref 0), some (.ref 5), some (.int a1)], [.int a1, .ref 5, .ref 0], (W_Load hl hv hh hr hc))) 3 rfl ?_
  refine sv_Q.o (fun v1 e2 => ?_)
  refine sv_Q.V (b := 0) (av := [.ref 5, .int a1]) (ps := [0, 1, 2, 3, 4, 5, 6, 7, 8, 9, 10, 11, 12, 13, 14, 15, 16, 17, 18, 19, 20, 21, 22, 23, 24, 25, 26]) (rest := []) (cs1 := (W_Load hl hv hh hr hc)) (cs2 := (W_Load v1.1 hv hh hr v1.2)) (st' := []) (cs' := (W_Load v1.1 hv hh hr v1.2)) (q := (3, .null, 0, 0, 0)) lk_Load_45 (r_Load_search N hl hv hh hr hc a1 v1 e2) rfl rfl rfl rfl rfl (Or.inl ⟨3, _, _, rfl, rfl, rfl⟩) rfl rfl (sc_Load_Load_0 hl hv hh hr hc) rfl rfl (pc_Load_Load_0 hl hv hh hr hc v1.1 hv hh hr v1.2) ?_
  refine sv_Q.s (σ' := (7, [some (.ref 0), some (.ref 5), some (.int a1)], [.ref 0], (W_Load v1.1 hv hh hr v1.2))) 1 rfl ?_
  refine sv_Q.V (b := 0) (av := []) (ps := [0, 1, 2, 3, 4, 5, 6, 7, 8, 9, 10, 11, 12, 13, 14, 15, 16, 17, 18, 19, 20, 21, 22, 23, 24, 25, 26]) (rest := []) (cs1 := (W_Load v1.1 hv hh hr v1.2)) (cs2 := (W_Load v1.1 hv hh hr v1.2)) (st' := [.int (F_Load_isTooLong v1.1)]) (cs' := (W_Load v1.1 hv hh hr v1.2)) (q := (7, .null, 0, 0, 0)) lk_Load_49 (t_Load_isTooLong v1.1 hv hh hr v1.2) rfl rfl rfl rfl rfl (Or.inl ⟨3, _, _, rfl, rfl, rfl⟩) rfl rfl (sc_Load_Load_0 v1.1 hv hh hr v1.2) rfl rfl (pc_Load_Load_0 v1.1 hv hh hr v1.2 v1.1 hv hh hr v1.2) ?_
  refine sv_Q.b rfl (fun c3 => ?_) (fun c3 => ?_)
  · refine sv_Q.s (σ' := (22, [some (.ref 0), some (.ref 5), some (.int a1)], [.int (v1.1 0 7)], (W_Load v1.1 hv hh hr v1.2))) 2 rfl ?_
    exact sv_Q.z ⟨True, rfl, trivial, rfl⟩
  · refine sv_Q.s (σ' := (22, [some (.ref 0), some (.ref 5), some (.int a1)], [.int (-3 : Int32)], (W_Load v1.1 hv hh hr v1.2))) 2 rfl ?_
    exact sv_Q.z ⟨True, rfl, trivial, rfl⟩
def L_Load_doGreedy_9 (N : Nat) : Nat → Int32 → Int32 → (Nat → Nat → Int32) → (Nat → Nat → Int32) → (Nat → Nat → Int32) → (Nat → Nat → Int32) → Option (Int32 × (Nat → Nat → Int32) × (Nat → Nat → Int32))
  | 0, _, _, _, _, _, _ => none
  | n + 1, x2, x3, hl, hh, hr, hc => (if (hl 0 5) ≤ x3 then (some (x2, hl, hc)) else (Option.bind (F_Ves_openPlace N (rd 24 (hl 2) x3) (0 : Int32) hh hr hc) fun (v4 : Int32) => (sv_let (sw hl 3 24 x3 v4) fun (hl_6 : Nat → Nat → Int32) => (if v4 = (-1 : Int32) then (L_Load_doGreedy_9 N n x2 (x3 + (1 : Int32)) hl_6 hh hr hc) else (sv_let (F_Cargo_move (rd 24 (hl 2) x3) v4 hc) fun (hc_8 : Nat → Nat → Int32) => (L_Load_doGreedy_9 N n (x2 + (1 : Int32)) (x3 + (1 : Int32)) hl_6 hh hr hc_8))))))
theorem l_Load_doGreedy_9 {X : Nat × (Nat → Int32)} (N : Nat) : ∀ (n : Nat) (x2 : Int32) (x3 : Int32) (hl hv hh hr hc : Nat → Nat → Int32), sv_Q X 5 M_Load_doGreedy (9, [some (.ref 0), some (.ref 5), some (.int x2), some (.int x3), none, none], [], (W_Load hl hv hh hr hc)) (L_Load_doGreedy_9 N n x2 x3 hl hh hr hc) (fun v σ' => σ' = (72, [none, none, some (.int v.1), none, none, none], [], (W_Load v.2.1 hv hh hr v.2.2))) := by
  intro n
  induction n with
  | zero => intro x2 x3 hl hv hh hr hc; unfold L_Load_doGreedy_9; exact sv_Q.non
  | succ n ih =>
    intro x2 x3 hl hv hh hr hc
    unfold L_Load_doGreedy_9
    refine sv_Q.s (σ' := (14, [some (.ref 0), some (.ref 5), some (.int x2), some (.int x3), none, none], [.int (hl 0 5), .int x3], (W_Load hl hv hh hr hc))) 3 rfl ?_
    refine sv_Q.b rfl (fun c3 => ?_) (fun c3 => ?_)
    · refine sv_Q.f (lo' := [none, none, some (.int x2), none, none, none]) ⟨rfl, trivial⟩ ?_
      exact sv_Q.z rfl
    · refine sv_Q.s (σ' := (22, [some (.ref 0), some (.ref 5), some (.int x2), some (.int x3), none, none], [.int x3, .ref 2], (W_Load hl hv hh hr hc))) 3 rfl ?_
      refine sv_Q.S (ps := [2]) (rest := []) (st' := [.int (rd 24 (hl 2) x3)]) (cs' := (W_Load hl hv hh hr hc)) (q := (22, .null, 0, 0, 0)) lk_Load_41 (t_K_read 24 rfl (hl 2) x3) rfl rfl rfl rfl rfl rfl rfl (su_Load_2 hl hv hh hr hc) rfl rfl (pu_Load_2 hl hv hh hr hc) ?_
      refine sv_Q.s (σ' := (31, [some (.ref 0), some (.ref 5), some (.int x2), some (.int x3), some (.int (rd 24 (hl 2) x3)), none], [.int (0 : Int32), .int (rd 24 (hl 2) x3), .ref 5], (W_Load hl hv hh hr hc))) 4 rfl ?_
      refine sv_Q.o (fun v4 e5 => ?_)
      refine sv_Q.V (b := 0) (av := [.int (rd 24 (hl 2) x3), .int (0 : Int32)]) (ps := [5, 6, 7, 8, 9, 10, 11, 12, 13, 14, 15, 16, 17, 18, 19, 20, 21, 22, 23, 24, 25, 26]) (rest := []) (cs1 := (W_Ves hv hh hr hc)) (cs2 := (W_Ves hv hh hr hc)) (st' := [.int v4]) (cs' := (W_Load hl hv hh hr hc)) (q := (31, .null, 0, 0, 0)) lk_Load_77 (r_Ves_openPlace N hv hh hr hc (rd 24 (hl 2) x3) (0 : Int32) v4 e5) rfl rfl rfl rfl rfl (Or.inl ⟨10, _, _, rfl, rfl, rfl⟩) rfl rfl (sc_Load_Ves_1 hl hv hh hr hc) rfl rfl (pc_Load_Ves_1 hl hv hh hr hc hv hh hr hc) ?_
      refine sv_Q.s (σ' := (43, [some (.ref 0), some (.ref 5), some (.int x2), some (.int x3), some (.int (rd 24 (hl 2) x3)), some (.int v4)], [.int v4, .int x3, .ref 3], (W_Load hl hv hh hr hc))) 5 rfl ?_
      refine sv_Q.S (ps := [3]) (rest := []) (st' := []) (cs' := (W_Load (sw hl 3 24 x3 v4) hv hh hr hc)) (q := (43, .null, 0, 0, 0)) lk_Load_81 (t_K_write 24 rfl (hl 3) x3 v4) rfl rfl rfl rfl rfl rfl rfl (su_Load_3 hl hv hh hr hc) rfl rfl (pa_Load_3 hl hv hh hr hc (wr 24 (hl 3) x3 v4)) ?_
      refine sv_Q.go (fun hl_6 => (46, [some (.ref 0), some (.ref 5), some (.int x2), some (.int x3), some (.int (rd 24 (hl 2) x3)), some (.int v4)], [], (W_Load hl_6 hv hh hr hc))) (fun hl_6 => ?_)
      refine sv_Q.s (σ' := (49, [some (.ref 0), some (.ref 5), some (.int x2), some (.int x3), some (.int (rd 24 (hl 2) x3)), some (.int v4)], [.int (-1 : Int32), .int v4], (W_Load hl_6 hv hh hr hc))) 2 rfl ?_
      refine sv_Q.b rfl (fun c7 => ?_) (fun c7 => ?_)
      · refine sv_Q.s (σ' := (9, [some (.ref 0), some (.ref 5), some (.int x2), some (.int (x3 + (1 : Int32))), some (.int (rd 24 (hl 2) x3)), some (.int v4)], [], (W_Load hl_6 hv hh hr hc))) 2 rfl ?_
        refine sv_Q.f (lo' := [some (.ref 0), some (.ref 5), some (.int x2), some (.int (x3 + (1 : Int32))), none, none]) ⟨rfl, ⟨rfl, ⟨rfl, ⟨rfl, trivial⟩⟩⟩⟩ ?_
        exact ih x2 (x3 + (1 : Int32)) hl_6 hv hh hr hc
      · refine sv_Q.s (σ' := (60, [some (.ref 0), some (.ref 5), some (.int x2), some (.int x3), some (.int (rd 24 (hl 2) x3)), some (.int v4)], [.int v4, .int (rd 24 (hl 2) x3), .ref 21], (W_Load hl_6 hv hh hr hc))) 4 rfl ?_
        refine sv_Q.V (b := 0) (av := [.int (rd 24 (hl 2) x3), .int v4]) (ps := [21, 22, 23, 24, 25, 26]) (rest := []) (cs1 := (W_Cargo hc)) (cs2 := (W_Cargo (F_Cargo_move (rd 24 (hl 2) x3) v4 hc))) (st' := []) (cs' := (W_Load hl_6 hv hh hr (F_Cargo_move (rd 24 (hl 2) x3) v4 hc))) (q := (60, .null, 0, 0, 0)) lk_Load_67 (t_Cargo_move hc (rd 24 (hl 2) x3) v4) rfl rfl rfl rfl rfl (Or.inl ⟨0, _, _, rfl, rfl, rfl⟩) rfl rfl (sc_Load_Cargo_4 hl_6 hv hh hr hc) rfl rfl (pc_Load_Cargo_4 hl_6 hv hh hr hc (F_Cargo_move (rd 24 (hl 2) x3) v4 hc)) ?_
        refine sv_Q.go (fun hc_8 => (63, [some (.ref 0), some (.ref 5), some (.int x2), some (.int x3), some (.int (rd 24 (hl 2) x3)), some (.int v4)], [], (W_Load hl_6 hv hh hr hc_8))) (fun hc_8 => ?_)
        refine sv_Q.s (σ' := (9, [some (.ref 0), some (.ref 5), some (.int (x2 + (1 : Int32))), some (.int (x3 + (1 : Int32))), some (.int (rd 24 (hl 2) x3)), some (.int v4)], [], (W_Load hl_6 hv hh hr hc_8))) 3 rfl ?_
        refine sv_Q.f (lo' := [some (.ref 0), some (.ref 5), some (.int (x2 + (1 : Int32))), some (.int (x3 + (1 : Int32))), none, none]) ⟨rfl, ⟨rfl, ⟨rfl, ⟨rfl, trivial⟩⟩⟩⟩ ?_
        exact ih (x2 + (1 : Int32)) (x3 + (1 : Int32)) hl_6 hv hh hr hc_8
def F_Load_doGreedy (N : Nat) (hl hh hr hc : Nat → Nat → Int32) : Option (Int32 × (Nat → Nat → Int32) × (Nat → Nat → Int32)) := (Option.bind (F_Load_listBoxes N hl hc) fun (v1 : (Nat → Nat → Int32)) => (Option.bind (L_Load_doGreedy_9 N N (0 : Int32) (0 : Int32) v1 hh hr hc) fun (v9 : Int32 × (Nat → Nat → Int32) × (Nat → Nat → Int32)) => (some (v9.1, v9.2.1, v9.2.2))))
theorem r_Load_doGreedy {X : Nat × (Nat → Int32)} (N : Nat) (hl hv hh hr hc : Nat → Nat → Int32) : ∀ x, (F_Load_doGreedy N hl hh hr hc) = some x → sv_R X 6 M_Load_doGreedy [.ref 0, .ref 5] (W_Load hl hv hh hr hc) (some (.int x.1)) (W_Load x.2.1 hv hh hr x.2.2) := by
  refine sv_Q.R (res := (fun (x : Int32 × (Nat → Nat → Int32) × (Nat → Nat → Int32)) => (some (.int x.1), (W_Load x.2.1 hv hh hr x.2.2)))) g_Load_doGreedy rfl ?_
  unfold F_Load_doGreedy
  refine sv_Q.s (σ' := (2, [some (.ref 0), some (.ref 5), none, none, none, none], [.ref 5, .ref 0], (W_Load hl hv hh hr hc))) 2 rfl ?_
  refine sv_Q.o (fun v1 e2 => ?_)
  refine sv_Q.V (b := 0) (av := [.ref 5]) (ps := [0, 1, 2, 3, 4, 5, 6, 7, 8, 9, 10, 11, 12, 13, 14, 15, 16, 17, 18, 19, 20, 21, 22, 23, 24, 25, 26]) (rest := []) (cs1 := (W_Load hl hv hh hr hc)) (cs2 := (W_Load v1 hv hh hr hc)) (st' := []) (cs' := (W_Load v1 hv hh hr hc)) (q := (2, .null, 0, 0, 0)) lk_Load_73 (r_Load_listBoxes N hl hv hh hr hc v1 e2) rfl rfl rfl rfl rfl (Or.inl ⟨3, _, _, rfl, rfl, rfl⟩) rfl rfl (sc_Load_Load_0 hl hv hh hr hc) rfl rfl (pc_Load_Load_0 hl hv hh hr hc v1 hv hh hr hc) ?_
  refine sv_Q.s (σ' := (9, [some (.ref 0), some (.ref 5), some (.int (0 : Int32)), some (.int (0 : Int32)), none, none], [], (W_Load v1 hv hh hr hc))) 4 rfl ?_
  refine sv_Q.lo (fun v9 => (72, [none, none, some (.int v9.1), none, none, none], [], (W_Load v9.2.1 hv hh hr v9.2.2))) (fun v9 => ?_) (l_Load_doGreedy_9 N N (0 : Int32) (0 : Int32) v1 hv hh hr hc)
  · refine sv_Q.s (σ' := (73, [none, none, some (.int v9.1), none, none, none], [.int v9.1], (W_Load v9.2.1 hv hh hr v9.2.2))) 1 rfl ?_
    exact sv_Q.z ⟨True, rfl, trivial, rfl⟩
def L_Load_tellRow_3_11 (N : Nat) : Nat → Int32 → (Nat → Nat → Int32) → Option ((Nat → Nat → Int32))
  | 0, _, _ => none
  | n + 1, x2, hl => (if (hl 0 5) ≤ x2 then (some hl) else (sv_let (sw hl 1 24 (rd 24 (hl 2) x2) (rd 24 (hl 3) x2)) fun (hl_3 : Nat → Nat → Int32) => (L_Load_tellRow_3_11 N n (x2 + (1 : Int32)) hl_3)))
theorem l_Load_tellRow_3_11 {X : Nat × (Nat → Int32)} (N : Nat) : ∀ (n : Nat) (x2 : Int32) (hl hv hh hr hc : Nat → Nat → Int32), sv_Q X 1 M_Load_tellRow (11, [some (.ref 0), some (.ref 3), some (.int x2)], [], (W_Load hl hv hh hr hc)) (L_Load_tellRow_3_11 N n x2 hl) (fun v σ' => σ' = (45, [some (.ref 0), none, none], [], (W_Load v hv hh hr hc))) := by
  intro n
  induction n with
  | zero => intro x2 hl hv hh hr hc; unfold L_Load_tellRow_3_11; exact sv_Q.non
  | succ n ih =>
    intro x2 hl hv hh hr hc
    unfold L_Load_tellRow_3_11
    refine sv_Q.s (σ' := (16, [some (.ref 0), some (.ref 3), some (.int x2)], [.int (hl 0 5), .int x2], (W_Load hl hv hh hr hc))) 3 rfl ?_
    refine sv_Q.b rfl (fun c2 => ?_) (fun c2 => ?_)
    · refine sv_Q.f (lo' := [some (.ref 0), none, none]) ⟨rfl, trivial⟩ ?_
      exact sv_Q.z rfl
    · refine sv_Q.s (σ' := (28, [some (.ref 0), some (.ref 3), some (.int x2)], [.int x2, .ref 2, .ref 1], (W_Load hl hv hh hr hc))) 5 rfl ?_
      refine sv_Q.S (ps := [2]) (rest := [.ref 1]) (st' := [.int (rd 24 (hl 2) x2), .ref 1]) (cs' := (W_Load hl hv hh hr hc)) (q := (28, .null, 0, 0, 0)) lk_Load_41 (t_K_read 24 rfl (hl 2) x2) rfl rfl rfl rfl rfl rfl rfl (su_Load_2 hl hv hh hr hc) rfl rfl (pu_Load_2 hl hv hh hr hc) ?_
      refine sv_Q.s (σ' := (33, [some (.ref 0), some (.ref 3), some (.int x2)], [.int x2, .ref 3, .int (rd 24 (hl 2) x2), .ref 1], (W_Load hl hv hh hr hc))) 2 rfl ?_
      refine sv_Q.S (ps := [3]) (rest := [.int (rd 24 (hl 2) x2), .ref 1]) (st' := [.int (rd 24 (hl 3) x2), .int (rd 24 (hl 2) x2), .ref 1]) (cs' := (W_Load hl hv hh hr hc)) (q := (33, .null, 0, 0, 0)) lk_Load_41 (t_K_read 24 rfl (hl 3) x2) rfl rfl rfl rfl rfl rfl rfl (su_Load_3 hl hv hh hr hc) rfl rfl (pu_Load_3 hl hv hh hr hc) ?_
      refine sv_Q.S (ps := [1]) (rest := []) (st' := []) (cs' := (W_Load (sw hl 1 24 (rd 24 (hl 2) x2) (rd 24 (hl 3) x2)) hv hh hr hc)) (q := (36, .null, 0, 0, 0)) lk_Load_81 (t_K_write 24 rfl (hl 1) (rd 24 (hl 2) x2) (rd 24 (hl 3) x2)) rfl rfl rfl rfl rfl rfl rfl (su_Load_1 hl hv hh hr hc) rfl rfl (pa_Load_1 hl hv hh hr hc (wr 24 (hl 1) (rd 24 (hl 2) x2) (rd 24 (hl 3) x2))) ?_
      refine sv_Q.go (fun hl_3 => (39, [some (.ref 0), some (.ref 3), some (.int x2)], [], (W_Load hl_3 hv hh hr hc))) (fun hl_3 => ?_)
      refine sv_Q.s (σ' := (11, [some (.ref 0), some (.ref 3), some (.int (x2 + (1 : Int32)))], [], (W_Load hl_3 hv hh hr hc))) 2 rfl ?_
      exact ih (x2 + (1 : Int32)) hl_3 hv hh hr hc
def F_Load_tellRow_3 (N : Nat) (hl : Nat → Nat → Int32) : Option ((Nat → Nat → Int32)) := (sv_let (sf hl 1 24 (-6 : Int32)) fun (hl_1 : Nat → Nat → Int32) => (Option.bind (L_Load_tellRow_3_11 N N (0 : Int32) hl_1) fun (v4 : (Nat → Nat → Int32)) => (sv_let (ss v4 0 (1 : Int32)) fun (hl_5 : Nat → Nat → Int32) => (some hl_5))))
theorem r_Load_tellRow_3 {X : Nat × (Nat → Int32)} (N : Nat) (hl hv hh hr hc : Nat → Nat → Int32) : ∀ x, (F_Load_tellRow_3 N hl) = some x → sv_R X 2 M_Load_tellRow [.ref 0, .ref 3] (W_Load hl hv hh hr hc) none (W_Load x hv hh hr hc) := by
  refine sv_Q.R (res := (fun (x : (Nat → Nat → Int32)) => ((none : Option Value), (W_Load x hv hh hr hc)))) g_Load_tellRow rfl ?_
  unfold F_Load_tellRow_3
  refine sv_Q.s (σ' := (6, [some (.ref 0), some (.ref 3), none], [.int (-6 : Int32), .ref 1], (W_Load hl hv hh hr hc))) 3 rfl ?_
  refine sv_Q.S (ps := [1]) (rest := []) (st' := []) (cs' := (W_Load (sf hl 1 24 (-6 : Int32)) hv hh hr hc)) (q := (6, .null, 0, 0, 0)) lk_Load_117 (t_Arr_fill 24 (Nat.le_of_ble_eq_true rfl) (hl 1) (-6 : Int32)) rfl rfl rfl rfl rfl rfl rfl (su_Load_1 hl hv hh hr hc) rfl rfl (pa_Load_1 hl hv hh hr hc (sv_fl 24 (hl 1) (-6 : Int32))) ?_
  refine sv_Q.go (fun hl_1 => (9, [some (.ref 0), some (.ref 3), none], [], (W_Load hl_1 hv hh hr hc))) (fun hl_1 => ?_)
  refine sv_Q.s (σ' := (11, [some (.ref 0), some (.ref 3), some (.int (0 : Int32))], [], (W_Load hl_1 hv hh hr hc))) 2 rfl ?_
  refine sv_Q.lo (fun v4 => (45, [some (.ref 0), none, none], [], (W_Load v4 hv hh hr hc))) (fun v4 => ?_) (l_Load_tellRow_3_11 N N (0 : Int32) hl_1 hv hh hr hc)
  · refine sv_Q.s (σ' := (47, [some (.ref 0), none, none], [.int (1 : Int32), .ref 0], (W_Load v4 hv hh hr hc))) 2 rfl ?_
    refine sv_Q.gk (σ' := (50, [some (.ref 0), none, none], [], (W_Load (ss v4 0 (1 : Int32)) hv hh hr hc))) (c := sv_01 (1 : Int32)) rfl (Or.inr rfl) ?_
    refine sv_Q.go (fun hl_5 => (50, [some (.ref 0), none, none], [], (W_Load hl_5 hv hh hr hc))) (fun hl_5 => ?_)
    exact sv_Q.z ⟨True, rfl, trivial, rfl⟩
def L_Load_planGreedy_8 (N : Nat) : Nat → Int32 → Int32 → (Nat → Nat → Int32) → (Nat → Nat → Int32) → Option ((Nat → Nat → Int32))
  | 0, _, _, _, _ => none
  | n + 1, x2, x3, hl, hc => (if (hl 0 5) ≤ x3 then (some hc) else (sv_let (F_Cargo_move (rd 24 (hl 2) x3) (-1 : Int32) hc) fun (hc_4 : Nat → Nat → Int32) => (L_Load_planGreedy_8 N n x2 (x3 + (1 : Int32)) hl hc_4)))
theorem l_Load_planGreedy_8 {X : Nat × (Nat → Int32)} (N : Nat) : ∀ (n : Nat) (x2 : Int32) (x3 : Int32) (hl hv hh hr hc : Nat → Nat → Int32), sv_Q X 6 M_Load_planGreedy (8, [some (.ref 0), some (.ref 5), some (.int x2), some (.int x3)], [], (W_Load hl hv hh hr hc)) (L_Load_planGreedy_8 N n x2 x3 hl hc) (fun v σ' => σ' = (38, [some (.ref 0), none, some (.int x2), none], [], (W_Load hl hv hh hr v))) := by
  intro n
  induction n with
  | zero => intro x2 x3 hl hv hh hr hc; unfold L_Load_planGreedy_8; exact sv_Q.non
  | succ n ih =>
    intro x2 x3 hl hv hh hr hc
    unfold L_Load_planGreedy_8
    refine sv_Q.s (σ' := (13, [some (.ref 0), some (.ref 5), some (.int x2), some (.int x3)], [.int (hl 0 5), .int x3], (W_Load hl hv hh hr hc))) 3 rfl ?_
    refine sv_Q.b rfl (fun c3 => ?_) (fun c3 => ?_)
    · refine sv_Q.f (lo' := [some (.ref 0), none, some (.int x2), none]) ⟨rfl, ⟨rfl, trivial⟩⟩ ?_
      exact sv_Q.z rfl
    · refine sv_Q.s (σ' := (25, [some (.ref 0), some (.ref 5), some (.int x2), some (.int x3)], [.int x3, .ref 2, .ref 21], (W_Load hl hv hh hr hc))) 5 rfl ?_
      refine sv_Q.S (ps := [2]) (rest := [.ref 21]) (st' := [.int (rd 24 (hl 2) x3), .ref 21]) (cs' := (W_Load hl hv hh hr hc)) (q := (25, .null, 0, 0, 0)) lk_Load_41 (t_K_read 24 rfl (hl 2) x3) rfl rfl rfl rfl rfl rfl rfl (su_Load_2 hl hv hh hr hc) rfl rfl (pu_Load_2 hl hv hh hr hc) ?_
      refine sv_Q.s (σ' := (29, [some (.ref 0), some (.ref 5), some (.int x2), some (.int x3)], [.int (-1 : Int32), .int (rd 24 (hl 2) x3), .ref 21], (W_Load hl hv hh hr hc))) 1 rfl ?_
      refine sv_Q.V (b := 0) (av := [.int (rd 24 (hl 2) x3), .int (-1 : Int32)]) (ps := [21, 22, 23, 24, 25, 26]) (rest := []) (cs1 := (W_Cargo hc)) (cs2 := (W_Cargo (F_Cargo_move (rd 24 (hl 2) x3) (-1 : Int32) hc))) (st' := []) (cs' := (W_Load hl hv hh hr (F_Cargo_move (rd 24 (hl 2) x3) (-1 : Int32) hc))) (q := (29, .null, 0, 0, 0)) lk_Load_67 (t_Cargo_move hc (rd 24 (hl 2) x3) (-1 : Int32)) rfl rfl rfl rfl rfl (Or.inl ⟨0, _, _, rfl, rfl, rfl⟩) rfl rfl (sc_Load_Cargo_4 hl hv hh hr hc) rfl rfl (pc_Load_Cargo_4 hl hv hh hr hc (F_Cargo_move (rd 24 (hl 2) x3) (-1 : Int32) hc)) ?_
      refine sv_Q.go (fun hc_4 => (32, [some (.ref 0), some (.ref 5), some (.int x2), some (.int x3)], [], (W_Load hl hv hh hr hc_4))) (fun hc_4 => ?_)
      refine sv_Q.s (σ' := (8, [some (.ref 0), some (.ref 5), some (.int x2), some (.int (x3 + (1 : Int32)))], [], (W_Load hl hv hh hr hc_4))) 2 rfl ?_
      exact ih x2 (x3 + (1 : Int32)) hl hv hh hr hc_4
def F_Load_planGreedy (N : Nat) (hl hh hr hc : Nat → Nat → Int32) : Option (Int32 × (Nat → Nat → Int32) × (Nat → Nat → Int32)) := (Option.bind (F_Load_doGreedy N hl hh hr hc) fun (v1 : Int32 × (Nat → Nat → Int32) × (Nat → Nat → Int32)) => (Option.bind (L_Load_planGreedy_8 N N v1.1 (0 : Int32) v1.2.1 v1.2.2) fun (v5 : (Nat → Nat → Int32)) => (Option.bind (F_Load_tellRow_3 N v1.2.1) fun (v6 : (Nat → Nat → Int32)) => (some (((v6 0 5) - v1.1), v6, v5)))))
theorem r_Load_planGreedy {X : Nat × (Nat → Int32)} (N : Nat) (hl hv hh hr hc : Nat → Nat → Int32) : ∀ x, (F_Load_planGreedy N hl hh hr hc) = some x → sv_R X 7 M_Load_planGreedy [.ref 0, .ref 5] (W_Load hl hv hh hr hc) (some (.int x.1)) (W_Load x.2.1 hv hh hr x.2.2) := by
  refine sv_Q.R (res := (fun (x : Int32 × (Nat → Nat → Int32) × (Nat → Nat → Int32)) => (some (.int x.1), (W_Load x.2.1 hv hh hr x.2.2)))) g_Load_planGreedy rfl ?_
  unfold F_Load_planGreedy
  refine sv_Q.s (σ' := (2, [some (.ref 0), some (.ref 5), none, none], [.ref 5, .ref 0], (W_Load hl hv hh hr hc))) 2 rfl ?_
  refine sv_Q.o (fun v1 e2 => ?_)
  refine sv_Q.V (b := 0) (av := [.ref 5]) (ps := [0, 1, 2, 3, 4, 5, 6, 7, 8, 9, 10, 11, 12, 13, 14, 15, 16, 17, 18, 19, 20, 21, 22, 23, 24, 25, 26]) (rest := []) (cs1 := (W_Load hl hv hh hr hc)) (cs2 := (W_Load v1.2.1 hv hh hr v1.2.2)) (st' := [.int v1.1]) (cs' := (W_Load v1.2.1 hv hh hr v1.2.2)) (q := (2, .null, 0, 0, 0)) lk_Load_57 (r_Load_doGreedy N hl hv hh hr hc v1 e2) rfl rfl rfl rfl rfl (Or.inl ⟨3, _, _, rfl, rfl, rfl⟩) rfl rfl (sc_Load_Load_0 hl hv hh hr hc) rfl rfl (pc_Load_Load_0 hl hv hh hr hc v1.2.1 hv hh hr v1.2.2) ?_
  refine sv_Q.s (σ' := (8, [some (.ref 0), some (.ref 5), some (.int v1.1), some (.int (0 : Int32))], [], (W_Load v1.2.1 hv hh hr v1.2.2))) 3 rfl ?_
  refine sv_Q.lo (fun v5 => (38, [some (.ref 0), none, some (.int v1.1), none], [], (W_Load v1.2.1 hv hh hr v5))) (fun v5 => ?_) (l_Load_planGreedy_8 N N v1.1 (0 : Int32) v1.2.1 hv hh hr v1.2.2)
  · refine sv_Q.s (σ' := (43, [some (.ref 0), none, some (.int v1.1), none], [.ref 3, .ref 0], (W_Load v1.2.1 hv hh hr v5))) 3 rfl ?_
    refine sv_Q.o (fun v6 e7 => ?_)
    refine sv_Q.V (b := 0) (av := [.ref 3]) (ps := [0, 1, 2, 3, 4, 5, 6, 7, 8, 9, 10, 11, 12, 13, 14, 15, 16, 17, 18, 19, 20, 21, 22, 23, 24, 25, 26]) (rest := []) (cs1 := (W_Load v1.2.1 hv hh hr v5)) (cs2 := (W_Load v6 hv hh hr v5)) (st' := []) (cs' := (W_Load v6 hv hh hr v5)) (q := (43, .null, 0, 0, 0)) lk_Load_53 (r_Load_tellRow_3 N v1.2.1 hv hh hr v5 v6 e7) rfl rfl rfl rfl rfl (Or.inl ⟨3, _, _, rfl, rfl, rfl⟩) rfl rfl (sc_Load_Load_0 v1.2.1 hv hh hr v5) rfl rfl (pc_Load_Load_0 v1.2.1 hv hh hr v5 v6 hv hh hr v5) ?_
    refine sv_Q.s (σ' := (52, [some (.ref 0), none, some (.int v1.1), none], [.int ((v6 0 5) - v1.1)], (W_Load v6 hv hh hr v5))) 4 rfl ?_
    exact sv_Q.z ⟨True, rfl, trivial, rfl⟩
def L_Load_doTold_4 (N : Nat) : Nat → Int32 → Int32 → (Nat → Nat → Int32) → (Nat → Nat → Int32) → (Nat → Nat → Int32) → (Nat → Nat → Int32) → Option (Int32 × (Nat → Nat → Int32))
  | 0, _, _, _, _, _, _ => none
  | n + 1, x2, x3, hl, hh, hr, hc => (if (hc 0 0) ≤ x3 then (some (x2, hc)) else (if (rd 24 (hl 1) x3) < 0 then (L_Load_doTold_4 N n x2 (x3 + (1 : Int32)) hl hh hr hc) else (if ¬ (F_Cargo_lies x3 hc) = 0 then (L_Load_doTold_4 N n x2 (x3 + (1 : Int32)) hl hh hr hc) else (Option.bind (F_Ves_whyNot N x3 (rd 24 (hl 1) x3) hh hr hc) fun (v4 : Int32) => (if ¬ v4 = 0 then (L_Load_doTold_4 N n x2 (x3 + (1 : Int32)) hl hh hr hc) else (sv_let (F_Cargo_move x3 (rd 24 (hl 1) x3) hc) fun (hc_7 : Nat → Nat → Int32) => (L_Load_doTold_4 N n (x2 + (1 : Int32)) (x3 + (1 : Int32)) hl hh hr hc_7)))))))
theorem l_Load_doTold_4 {X : Nat × (Nat → Int32)} (N : Nat) : ∀ (n : Nat) (x2 : Int32) (x3 : Int32) (hl hv hh hr hc : Nat → Nat → Int32), sv_Q X 4 M_Load_doTold (4, [some (.ref 0), some (.ref 5), some (.int x2), some (.int x3), none], [], (W_Load hl hv hh hr hc)) (L_Load_doTold_4 N n x2 x3 hl hh hr hc) (fun v σ' => σ' = (70, [none, none, some (.int v.1), none, none], [], (W_Load hl hv hh hr v.2))) := by
  intro n
  induction n with
  | zero => intro x2 x3 hl hv hh hr hc; unfold L_Load_doTold_4; exact sv_Q.non
  | succ n ih =>
    intro x2 x3 hl hv hh hr hc
    unfold L_Load_doTold_4
    refine sv_Q.s (σ' := (12, [some (.ref 0), some (.ref 5), some (.int x2), some (.int x3), none], [.int (hc 0 0), .int x3], (W_Load hl hv hh hr hc))) 4 rfl ?_
    refine sv_Q.b rfl (fun c1 => ?_) (fun c1 => ?_)
    · refine sv_Q.f (lo' := [none, none, some (.int x2), none, none]) ⟨rfl, trivial⟩ ?_
      exact sv_Q.z rfl
    · refine sv_Q.s (σ' := (20, [some (.ref 0), some (.ref 5), some (.int x2), some (.int x3), none], [.int x3, .ref 1], (W_Load hl hv hh hr hc))) 3 rfl ?_
      refine sv_Q.S (ps := [1]) (rest := []) (st' := [.int (rd 24 (hl 1) x3)]) (cs' := (W_Load hl hv hh hr hc)) (q := (20, .null, 0, 0, 0)) lk_Load_41 (t_K_read 24 rfl (hl 1) x3) rfl rfl rfl rfl rfl rfl rfl (su_Load_1 hl hv hh hr hc) rfl rfl (pu_Load_1 hl hv hh hr hc) ?_
      refine sv_Q.s (σ' := (27, [some (.ref 0), some (.ref 5), some (.int x2), some (.int x3), some (.int (rd 24 (hl 1) x3))], [.int (rd 24 (hl 1) x3)], (W_Load hl hv hh hr hc))) 2 rfl ?_
      refine sv_Q.b rfl (fun c2 => ?_) (fun c2 => ?_)
      · refine sv_Q.s (σ' := (4, [some (.ref 0), some (.ref 5), some (.int x2), some (.int (x3 + (1 : Int32))), some (.int (rd 24 (hl 1) x3))], [], (W_Load hl hv hh hr hc))) 2 rfl ?_
        refine sv_Q.f (lo' := [some (.ref 0), some (.ref 5), some (.int x2), some (.int (x3 + (1 : Int32))), none]) ⟨rfl, ⟨rfl, ⟨rfl, ⟨rfl, trivial⟩⟩⟩⟩ ?_
        exact ih x2 (x3 + (1 : Int32)) hl hv hh hr hc
      · refine sv_Q.s (σ' := (35, [some (.ref 0), some (.ref 5), some (.int x2), some (.int x3), some (.int (rd 24 (hl 1) x3))], [.int x3, .ref 21], (W_Load hl hv hh hr hc))) 3 rfl ?_
        refine sv_Q.V (b := 0) (av := [.int x3]) (ps := [21, 22, 23, 24, 25, 26]) (rest := []) (cs1 := (W_Cargo hc)) (cs2 := (W_Cargo hc)) (st' := [.int (F_Cargo_lies x3 hc)]) (cs' := (W_Load hl hv hh hr hc)) (q := (35, .null, 0, 0, 0)) lk_Load_88 (t_Cargo_lies hc x3) rfl rfl rfl rfl rfl (Or.inl ⟨0, _, _, rfl, rfl, rfl⟩) rfl rfl (sc_Load_Cargo_4 hl hv hh hr hc) rfl rfl (pc_Load_Cargo_4 hl hv hh hr hc hc) ?_
        refine sv_Q.b rfl (fun c3 => ?_) (fun c3 => ?_)
        · refine sv_Q.s (σ' := (4, [some (.ref 0), some (.ref 5), some (.int x2), some (.int (x3 + (1 : Int32))), some (.int (rd 24 (hl 1) x3))], [], (W_Load hl hv hh hr hc))) 2 rfl ?_
          refine sv_Q.f (lo' := [some (.ref 0), some (.ref 5), some (.int x2), some (.int (x3 + (1 : Int32))), none]) ⟨rfl, ⟨rfl, ⟨rfl, ⟨rfl, trivial⟩⟩⟩⟩ ?_
          exact ih x2 (x3 + (1 : Int32)) hl hv hh hr hc
        · refine sv_Q.s (σ' := (45, [some (.ref 0), some (.ref 5), some (.int x2), some (.int x3), some (.int (rd 24 (hl 1) x3))], [.int (rd 24 (hl 1) x3), .int x3, .ref 5], (W_Load hl hv hh hr hc))) 3 rfl ?_
          refine sv_Q.o (fun v4 e5 => ?_)
          refine sv_Q.V (b := 0) (av := [.int x3, .int (rd 24 (hl 1) x3)]) (ps := [5, 6, 7, 8, 9, 10, 11, 12, 13, 14, 15, 16, 17, 18, 19, 20, 21, 22, 23, 24, 25, 26]) (rest := []) (cs1 := (W_Ves hv hh hr hc)) (cs2 := (W_Ves hv hh hr hc)) (st' := [.int v4]) (cs' := (W_Load hl hv hh hr hc)) (q := (45, .null, 0, 0, 0)) lk_Load_92 (r_Ves_whyNot N hv hh hr hc x3 (rd 24 (hl 1) x3) v4 e5) rfl rfl rfl rfl rfl (Or.inl ⟨10, _, _, rfl, rfl, rfl⟩) rfl rfl (sc_Load_Ves_1 hl hv hh hr hc) rfl rfl (pc_Load_Ves_1 hl hv hh hr hc hv hh hr hc) ?_
          refine sv_Q.b rfl (fun c6 => ?_) (fun c6 => ?_)
          · refine sv_Q.s (σ' := (4, [some (.ref 0), some (.ref 5), some (.int x2), some (.int (x3 + (1 : Int32))), some (.int (rd 24 (hl 1) x3))], [], (W_Load hl hv hh hr hc))) 2 rfl ?_
            refine sv_Q.f (lo' := [some (.ref 0), some (.ref 5), some (.int x2), some (.int (x3 + (1 : Int32))), none]) ⟨rfl, ⟨rfl, ⟨rfl, ⟨rfl, trivial⟩⟩⟩⟩ ?_
            exact ih x2 (x3 + (1 : Int32)) hl hv hh hr hc
          · refine sv_Q.s (σ' := (58, [some (.ref 0), some (.ref 5), some (.int x2), some (.int x3), some (.int (rd 24 (hl 1) x3))], [.int (rd 24 (hl 1) x3), .int x3, .ref 21], (W_Load hl hv hh hr hc))) 4 rfl ?_
            refine sv_Q.V (b := 0) (av := [.int x3, .int (rd 24 (hl 1) x3)]) (ps := [21, 22, 23, 24, 25, 26]) (rest := []) (cs1 := (W_Cargo hc)) (cs2 := (W_Cargo (F_Cargo_move x3 (rd 24 (hl 1) x3) hc))) (st' := []) (cs' := (W_Load hl hv hh hr (F_Cargo_move x3 (rd 24 (hl 1) x3) hc))) (q := (58, .null, 0, 0, 0)) lk_Load_67 (t_Cargo_move hc x3 (rd 24 (hl 1) x3)) rfl rfl rfl rfl rfl (Or.inl ⟨0, _, _, rfl, rfl, rfl⟩) rfl rfl (sc_Load_Cargo_4 hl hv hh hr hc) rfl rfl (pc_Load_Cargo_4 hl hv hh hr hc (F_Cargo_move x3 (rd 24 (hl 1) x3) hc)) ?_
            refine sv_Q.go (fun hc_7 => (61, [some (.ref 0), some (.ref 5), some (.int x2), some (.int x3), some (.int (rd 24 (hl 1) x3))], [], (W_Load hl hv hh hr hc_7))) (fun hc_7 => ?_)
            refine sv_Q.s (σ' := (4, [some (.ref 0), some (.ref 5), some (.int (x2 + (1 : Int32))), some (.int (x3 + (1 : Int32))), some (.int (rd 24 (hl 1) x3))], [], (W_Load hl hv hh hr hc_7))) 3 rfl ?_
            refine sv_Q.f (lo' := [some (.ref 0), some (.ref 5), some (.int (x2 + (1 : Int32))), some (.int (x3 + (1 : Int32))), none]) ⟨rfl, ⟨rfl, ⟨rfl, ⟨rfl, trivial⟩⟩⟩⟩ ?_
            exact ih (x2 + (1 : Int32)) (x3 + (1 : Int32)) hl hv hh hr hc_7
def F_Load_doTold (N : Nat) (hl hh hr hc : Nat → Nat → Int32) : Option (Int32 × (Nat → Nat → Int32)) := (Option.bind (L_Load_doTold_4 N N (0 : Int32) (0 : Int32) hl hh hr hc) fun (v8 : Int32 × (Nat → Nat → Int32)) => (some (v8.1, v8.2)))
theorem r_Load_doTold {X : Nat × (Nat → Int32)} (N : Nat) (hl hv hh hr hc : Nat → Nat → Int32) : ∀ x, (F_Load_doTold N hl hh hr hc) = some x → sv_R X 5 M_Load_doTold [.ref 0, .ref 5] (W_Load hl hv hh hr hc) (some (.int x.1)) (W_Load hl hv hh hr x.2) := by
  refine sv_Q.R (res := (fun (x : Int32 × (Nat → Nat → Int32)) => (some (.int x.1), (W_Load hl hv hh hr x.2)))) g_Load_doTold rfl ?_
  unfold F_Load_doTold
  refine sv_Q.s (σ' := (4, [some (.ref 0), some (.ref 5), some (.int (0 : Int32)), some (.int (0 : Int32)), none], [], (W_Load hl hv hh hr hc))) 4 rfl ?_
  refine sv_Q.lo (fun v8 => (70, [none, none, some (.int v8.1), none, none], [], (W_Load hl hv hh hr v8.2))) (fun v8 => ?_) (l_Load_doTold_4 N N (0 : Int32) (0 : Int32) hl hv hh hr hc)
  · refine sv_Q.s (σ' := (71, [none, none, some (.int v8.1), none, none], [.int v8.1], (W_Load hl hv hh hr v8.2))) 1 rfl ?_
    exact sv_Q.z ⟨True, rfl, trivial, rfl⟩
def F_Shif_forget (hs : Nat → Nat → Int32) : (Nat → Nat → Int32) := (sv_let (ss hs 0 (-1 : Int32)) fun (hs_1 : Nat → Nat → Int32) => (sv_let (ss hs_1 1 (-1 : Int32)) fun (hs_2 : Nat → Nat → Int32) => hs_2))
theorem r_Shif_forget {X : Nat × (Nat → Int32)} (hs hv hh hr hc : Nat → Nat → Int32) : ∀ x, some (F_Shif_forget hs) = some x → sv_R X 1 M_Shif_forget [.ref 0] (W_Shif hs hv hh hr hc) none (W_Shif x hv hh hr hc) := by
  refine sv_Q.R (res := (fun (x : (Nat → Nat → Int32)) => ((none : Option Value), (W_Shif x hv hh hr hc)))) g_Shif_forget rfl ?_
  unfold F_Shif_forget
  refine sv_Q.s (σ' := (5, [some (.ref 0)], [], (W_Shif (ss hs 0 (-1 : Int32)) hv hh hr hc))) 3 rfl ?_
  refine sv_Q.gs (fun hs_1 => (5, [some (.ref 0)], [], (W_Shif hs_1 hv hh hr hc))) (fun hs_1 => ?_)
  refine sv_Q.s (σ' := (10, [some (.ref 0)], [], (W_Shif (ss hs_1 1 (-1 : Int32)) hv hh hr hc))) 3 rfl ?_
  refine sv_Q.gs (fun hs_2 => (10, [some (.ref 0)], [], (W_Shif hs_2 hv hh hr hc))) (fun hs_2 => ?_)
  exact sv_Q.z ⟨True, rfl, trivial, rfl⟩
theorem t_Shif_forget {X : Nat × (Nat → Int32)} (hs hv hh hr hc : Nat → Nat → Int32) : sv_R X 1 M_Shif_forget [.ref 0] (W_Shif hs hv hh hr hc) none (W_Shif (F_Shif_forget hs) hv hh hr hc) := r_Shif_forget hs hv hh hr hc _ rfl
def F_Shif_boxShown (a0 : Int32) (hs : Nat → Nat → Int32) : Int32 := (if (hs 0 0) ≤ a0 then (-1 : Int32) else (rd 2 (hs 1) a0))
theorem r_Shif_boxShown {X : Nat × (Nat → Int32)} (hs hv hh hr hc : Nat → Nat → Int32) (a0 : Int32) : ∀ x, some (F_Shif_boxShown a0 hs) = some x → sv_R X 2 M_Shif_boxShown [.ref 0, .int a0] (W_Shif hs hv hh hr hc) (some (.int x)) (W_Shif hs hv hh hr hc) := by
  refine sv_Q.R (res := (fun (x : Int32) => (some (.int x), (W_Shif hs hv hh hr hc)))) g_Shif_boxShown rfl ?_
  unfold F_Shif_boxShown
  refine sv_Q.s (σ' := (5, [some (.ref 0), some (.int a0)], [.int (hs 0 0), .int a0], (W_Shif hs hv hh hr hc))) 3 rfl ?_
  refine sv_Q.sb rfl (fun c1 => ?_) (fun c1 => ?_)
  · refine sv_Q.s (σ' := (20, [some (.ref 0), some (.int a0)], [.int (-1 : Int32)], (W_Shif hs hv hh hr hc))) 1 rfl ?_
    exact sv_Q.z ⟨True, rfl, trivial, rfl⟩
  · refine sv_Q.s (σ' := (13, [some (.ref 0), some (.int a0)], [.int a0, .ref 1], (W_Shif hs hv hh hr hc))) 3 rfl ?_
    refine sv_Q.S (ps := [1]) (rest := []) (st' := [.int (rd 2 (hs 1) a0)]) (cs' := (W_Shif hs hv hh hr hc)) (q := (13, .null, 0, 0, 0)) lk_Shif_40 (t_K_read 2 rfl (hs 1) a0) rfl rfl rfl rfl rfl rfl rfl (su_Shif_1 hs hv hh hr hc) rfl rfl (pu_Shif_1 hs hv hh hr hc) ?_
    refine sv_Q.s (σ' := (20, [some (.ref 0), some (.int a0)], [.int (rd 2 (hs 1) a0)], (W_Shif hs hv hh hr hc))) 1 rfl ?_
    exact sv_Q.z ⟨True, rfl, trivial, rfl⟩
theorem t_Shif_boxShown {X : Nat × (Nat → Int32)} (hs hv hh hr hc : Nat → Nat → Int32) (a0 : Int32) : sv_R X 2 M_Shif_boxShown [.ref 0, .int a0] (W_Shif hs hv hh hr hc) (some (.int (F_Shif_boxShown a0 hs))) (W_Shif hs hv hh hr hc) := r_Shif_boxShown hs hv hh hr hc a0 _ rfl
def F_Shif_placeShown (a0 : Int32) (hs : Nat → Nat → Int32) : Int32 := (if (hs 0 0) ≤ a0 then (-1 : Int32) else (rd 2 (hs 2) a0))
theorem r_Shif_placeShown {X : Nat × (Nat → Int32)} (hs hv hh hr hc : Nat → Nat → Int32) (a0 : Int32) : ∀ x, some (F_Shif_placeShown a0 hs) = some x → sv_R X 2 M_Shif_placeShown [.ref 0, .int a0] (W_Shif hs hv hh hr hc) (some (.int x)) (W_Shif hs hv hh hr hc) := by
  refine sv_Q.R (res := (fun (x : Int32) => (some (.int x), (W_Shif hs hv hh hr hc)))) g_Shif_placeShown rfl ?_
  unfold F_Shif_placeShown
  refine sv_Q.s (σ' := (5, [some (.ref 0), some (.int a0)], [.int (hs 0 0), .int a0], (W_Shif hs hv hh hr hc))) 3 rfl ?_
  refine sv_Q.sb rfl (fun c1 => ?_) (fun c1 => ?_)
  · refine sv_Q.s (σ' := (20, [some (.ref 0), some (.int a0)], [.int (-1 : Int32)], (W_Shif hs hv hh hr hc))) 1 rfl ?_
    exact sv_Q.z ⟨True, rfl, trivial, rfl⟩
  · refine sv_Q.s (σ' := (13, [some (.ref 0), some (.int a0)], [.int a0, .ref 2], (W_Shif hs hv hh hr hc))) 3 rfl ?_
    refine sv_Q.S (ps := [2]) (rest := []) (st' := [.int (rd 2 (hs 2) a0)]) (cs' := (W_Shif hs hv hh hr hc)) (q := (13, .null, 0, 0, 0)) lk_Shif_40 (t_K_read 2 rfl (hs 2) a0) rfl rfl rfl rfl rfl rfl rfl (su_Shif_2 hs hv hh hr hc) rfl rfl (pu_Shif_2 hs hv hh hr hc) ?_
    refine sv_Q.s (σ' := (20, [some (.ref 0), some (.int a0)], [.int (rd 2 (hs 2) a0)], (W_Shif hs hv hh hr hc))) 1 rfl ?_
    exact sv_Q.z ⟨True, rfl, trivial, rfl⟩
theorem t_Shif_placeShown {X : Nat × (Nat → Int32)} (hs hv hh hr hc : Nat → Nat → Int32) (a0 : Int32) : sv_R X 2 M_Shif_placeShown [.ref 0, .int a0] (W_Shif hs hv hh hr hc) (some (.int (F_Shif_placeShown a0 hs))) (W_Shif hs hv hh hr hc) := r_Shif_placeShown hs hv hh hr hc a0 _ rfl
def F_Shif_lateShown (hs : Nat → Nat → Int32) : Int32 := (hs 0 1)
theorem r_Shif_lateShown {X : Nat × (Nat → Int32)} (hs hv hh hr hc : Nat → Nat → Int32) : ∀ x, some (F_Shif_lateShown hs) = some x → sv_R X 1 M_Shif_lateShown [.ref 0] (W_Shif hs hv hh hr hc) (some (.int x)) (W_Shif hs hv hh hr hc) := by
  refine sv_Q.R (res := (fun (x : Int32) => (some (.int x), (W_Shif hs hv hh hr hc)))) g_Shif_lateShown rfl ?_
  unfold F_Shif_lateShown
  refine sv_Q.s (σ' := (4, [some (.ref 0)], [.int (hs 0 1)], (W_Shif hs hv hh hr hc))) 2 rfl ?_
  exact sv_Q.z ⟨True, rfl, trivial, rfl⟩
theorem t_Shif_lateShown {X : Nat × (Nat → Int32)} (hs hv hh hr hc : Nat → Nat → Int32) : sv_R X 1 M_Shif_lateShown [.ref 0] (W_Shif hs hv hh hr hc) (some (.int (F_Shif_lateShown hs))) (W_Shif hs hv hh hr hc) := r_Shif_lateShown hs hv hh hr hc _ rfl
def L_Shif_isShifted_2 (N : Nat) : Nat → Int32 → Int32 → Int32 → (Nat → Nat → Int32) → Option ((Unit) ⊕ (Int32))
  | 0, _, _, _, _ => none
  | n + 1, x1, x2, x3, hs => (if x2 ≤ x3 then (some (.inl ())) else (if ¬ (rd 2 (hs 3) x3) = x1 then (L_Shif_isShifted_2 N n x1 x2 (x3 + (1 : Int32)) hs) else (some (.inr (1 : Int32)))))
theorem l_Shif_isShifted_2 {X : Nat × (Nat → Int32)} (N : Nat) : ∀ (n : Nat) (x1 : Int32) (x2 : Int32) (x3 : Int32) (hs hv hh hr hc : Nat → Nat → Int32), sv_Q X 1 M_Shif_isShifted (2, [some (.ref 0), some (.int x1), some (.int x2), some (.int x3)], [], (W_Shif hs hv hh hr hc)) (L_Shif_isShifted_2 N n x1 x2 x3 hs) (sv_K2 (fun (v : Unit) => (27, [none, none, none, none], [], (W_Shif hs hv hh hr hc))) (sv_KR M_Shif_isShifted (fun (x : Int32) => (some (.int x), (W_Shif hs hv hh hr hc))))) := by
  intro n
  induction n with
  | zero => intro x1 x2 x3 hs hv hh hr hc; unfold L_Shif_isShifted_2; exact sv_Q.non
  | succ n ih =>
    intro x1 x2 x3 hs hv hh hr hc
    unfold L_Shif_isShifted_2
    refine sv_Q.s (σ' := (4, [some (.ref 0), some (.int x1), some (.int x2), some (.int x3)], [.int x2, .int x3], (W_Shif hs hv hh hr hc))) 2 rfl ?_
    refine sv_Q.b rfl (fun c1 => ?_) (fun c1 => ?_)
    · refine sv_Q.f (lo' := [none, none, none, none]) trivial ?_
      exact sv_Q.z rfl
    · refine sv_Q.s (σ' := (12, [some (.ref 0), some (.int x1), some (.int x2), some (.int x3)], [.int x3, .ref 3], (W_Shif hs hv hh hr hc))) 3 rfl ?_
      refine sv_Q.S (ps := [3]) (rest := []) (st' := [.int (rd 2 (hs 3) x3)]) (cs' := (W_Shif hs hv hh hr hc)) (q := (12, .null, 0, 0, 0)) lk_Shif_40 (t_K_read 2 rfl (hs 3) x3) rfl rfl rfl rfl rfl rfl rfl (su_Shif_3 hs hv hh hr hc) rfl rfl (pu_Shif_3 hs hv hh hr hc) ?_
      refine sv_Q.s (σ' := (16, [some (.ref 0), some (.int x1), some (.int x2), some (.int x3)], [.int x1, .int (rd 2 (hs 3) x3)], (W_Shif hs hv hh hr hc))) 1 rfl ?_
      refine sv_Q.b rfl (fun c2 => ?_) (fun c2 => ?_)
      · refine sv_Q.s (σ' := (2, [some (.ref 0), some (.int x1), some (.int x2), some (.int (x3 + (1 : Int32)))], [], (W_Shif hs hv hh hr hc))) 2 rfl ?_
        exact ih x1 x2 (x3 + (1 : Int32)) hs hv hh hr hc
      · refine sv_Q.s (σ' := (20, [some (.ref 0), some (.int x1), some (.int x2), some (.int x3)], [.int (1 : Int32)], (W_Shif hs hv hh hr hc))) 1 rfl ?_
        exact sv_Q.z ⟨sv_01 (1 : Int32), rfl, Or.inr rfl, rfl⟩
def F_Shif_isShifted (N : Nat) (a0 : Int32) (a1 : Int32) (hs : Nat → Nat → Int32) : Option (Int32) := (sv_bs (L_Shif_isShifted_2 N N a0 a1 (0 : Int32) hs) id fun (v3 : Unit) => (some (0 : Int32)))
theorem r_Shif_isShifted {X : Nat × (Nat → Int32)} (N : Nat) (hs hv hh hr hc : Nat → Nat → Int32) (a0 : Int32) (a1 : Int32) : ∀ x, (F_Shif_isShifted N a0 a1 hs) = some x → sv_R X 2 M_Shif_isShifted [.ref 0, .int a0, .int a1] (W_Shif hs hv hh hr hc) (some (.int x)) (W_Shif hs hv hh hr hc) := by
  refine sv_Q.R (res := (fun (x : Int32) => (some (.int x), (W_Shif hs hv hh hr hc)))) g_Shif_isShifted rfl ?_
  unfold F_Shif_isShifted
  refine sv_Q.s (σ' := (2, [some (.ref 0), some (.int a0), some (.int a1), some (.int (0 : Int32))], [], (W_Shif hs hv hh hr hc))) 2 rfl ?_
  refine sv_Q.bs (l_Shif_isShifted_2 N N a0 a1 (0 : Int32) hs hv hh hr hc) (fun v3 => ?_) (fun r σ' h => h)
  · refine sv_Q.s (σ' := (28, [none, none, none, none], [.int (0 : Int32)], (W_Shif hs hv hh hr hc))) 1 rfl ?_
    exact sv_Q.z ⟨sv_01 (0 : Int32), rfl, Or.inl rfl, rfl⟩
def L_Shif_findShifts_88 (N : Nat) (rec : Int32 → Int32 → (Nat → Nat → Int32) → (Nat → Nat → Int32) → (Nat → Nat → Int32) → (Nat → Nat → Int32) → Option (Int32 × (Nat → Nat → Int32) × (Nat → Nat → Int32))) : Nat → Int32 → Int32 → Int32 → Int32 → Int32 → Int32 → Int32 → (Nat → Nat → Int32) → (Nat → Nat → Int32) → (Nat → Nat → Int32) → (Nat → Nat → Int32) → Option ((Int32 × (Nat → Nat → Int32) × (Nat → Nat → Int32)) ⊕ (Int32 × (Nat → Nat → Int32) × (Nat → Nat → Int32)))
  | 0, _, _, _, _, _, _, _, _, _, _, _ => none
  | n + 1, x2, x3, x4, x5, x6, x7, x8, hs, hh, hr, hc => (if x6 = 0 then (some (.inl (x4, hs, hc))) else (if (hh 0 4) ≤ x8 then (some (.inl (x4, hs, hc))) else (Option.bind (F_Ves_whyNot N x5 x8 hh hr hc) fun (v10 : Int32) => (Option.bind (if ¬ v10 = 0 then some (x4, hs, hc) else (sv_let (ss hs 7 ((hs 0 7) + (1 : Int32))) fun (hs_13 : Nat → Nat → Int32) => (sv_let (sw hs_13 3 2 x2 x5) fun (hs_14 : Nat → Nat → Int32) => (sv_let (sw hs_14 4 2 x2 x8) fun (hs_15 : Nat → Nat → Int32) => (sv_let (F_Cargo_move x5 x8 hc) fun (hc_16 : Nat → Nat → Int32) => (Option.bind (if (hs_15 0 8) < (hs_15 0 7) then some ((0 : Int32), hs_15, hc_16) else (Option.bind (rec (x2 + (1 : Int32)) x3 hs_15 hh hr hc_16) fun (v18 : Int32 × (Nat → Nat → Int32) × (Nat → Nat → Int32)) => (if v18.1 = 0 then some ((0 : Int32), v18.2.1, v18.2.2) else some ((1 : Int32), v18.2.1, v18.2.2)))) fun (v21 : Int32 × (Nat → Nat → Int32) × (Nat → Nat → Int32)) => (sv_let (F_Cargo_move x5 x7 v21.2.2) fun (hc_22 : Nat → Nat → Int32) => some (v21.1, v21.2.1, hc_22)))))))) fun (v23 : Int32 × (Nat → Nat → Int32) × (Nat → Nat → Int32)) => (if ¬ v23.1 = 0 then (if v23.1 = 0 ∨ v23.1 = 1 then some (.inr (v23.1, v23.2.1, v23.2.2)) else none) else (if (v23.2.1 0 7) ≤ (v23.2.1 0 8) then (L_Shif_findShifts_88 N rec n x2 x3 v23.1 x5 x6 x7 (x8 + (1 : Int32)) v23.2.1 hh hr v23.2.2) else (if v23.1 = 0 ∨ v23.1 = 1 then some (.inr (v23.1, v23.2.1, v23.2.2)) else none)))))))
theorem l_Shif_findShifts_88 {X : Nat × (Nat → Int32)} (N : Nat) (dd : Nat) (rec : Int32 → Int32 → (Nat → Nat → Int32) → (Nat → Nat → Int32) → (Nat → Nat → Int32) → (Nat → Nat → Int32) → Option (Int32 × (Nat → Nat → Int32) × (Nat → Nat → Int32))) (hrec : ∀ (hs hv hh hr hc : Nat → Nat → Int32) (a1 : Int32) (a2 : Int32) x, rec a1 a2 hs hh hr hc = some x → sv_R X (dd + 6) M_Shif_findShifts [.ref 0, .ref 5, .int a1, .int a2] (W_Shif hs hv hh hr hc) (some (.int x.1)) (W_Shif x.2.1 hv hh hr x.2.2)) : ∀ (n : Nat) (x2 : Int32) (x3 : Int32) (x4 : Int32) (x5 : Int32) (x6 : Int32) (x7 : Int32) (x8 : Int32) (hs hv hh hr hc : Nat → Nat → Int32), sv_Q X (dd + 6) M_Shif_findShifts (88, [some (.ref 0), some (.ref 5), some (.int x2), some (.int x3), some (.int x4), some (.int x5), some (.int x6), some (.int x7), some (.int x8)], [], (W_Shif hs hv hh hr hc)) (L_Shif_findShifts_88 N rec n x2 x3 x4 x5 x6 x7 x8 hs hh hr hc) (sv_K2 (fun (v : Int32 × (Nat → Nat → Int32) × (Nat → Nat → Int32)) => (223, [some (.ref 0), some (.ref 5), some (.int x2), some (.int x3), some (.int v.1), some (.int x5), none, none, none], [], (W_Shif v.2.1 hv hh hr v.2.2))) (sv_KR M_Shif_findShifts (fun (x : Int32 × (Nat → Nat → Int32) × (Nat → Nat → Int32)) => (some (.int x.1), (W_Shif x.2.1 hv hh hr x.2.2))))) := by
  intro n
  induction n with
  | zero => intro x2 x3 x4 x5 x6 x7 x8 hs hv hh hr hc; unfold L_Shif_findShifts_88; exact sv_Q.non
  | succ n ih =>
    intro x2 x3 x4 x5 x6 x7 x8 hs hv hh hr hc
    unfold L_Shif_findShifts_88
    refine sv_Q.s (σ' := (90, [some (.ref 0), some (.ref 5), some (.int x2), some (.int x3), some (.int x4), some (.int x5), some (.int x6), some (.int x7), some (.int x8)], [.int x6], (W_Shif hs hv hh hr hc))) 1 rfl ?_
    refine sv_Q.b rfl (fun c8 => ?_) (fun c8 => ?_)
    · refine sv_Q.f (lo' := [some (.ref 0), some (.ref 5), some (.int x2), some (.int x3), some (.int x4), some (.int x5), none, none, none]) ⟨rfl, ⟨rfl, ⟨rfl, ⟨rfl, ⟨rfl, ⟨rfl, trivial⟩⟩⟩⟩⟩⟩ ?_
      exact sv_Q.z rfl
    · refine sv_Q.s (σ' := (102, [some (.ref 0), some (.ref 5), some (.int x2), some (.int x3), some (.int x4), some (.int x5), some (.int x6), some (.int x7), some (.int x8)], [.int (hh 0 4), .int x8], (W_Shif hs hv hh hr hc))) 4 rfl ?_
      refine sv_Q.b rfl (fun c9 => ?_) (fun c9 => ?_)
      · refine sv_Q.f (lo' := [some (.ref 0), some (.ref 5), some (.int x2), some (.int x3), some (.int x4), some (.int x5), none, none, none]) ⟨rfl, ⟨rfl, ⟨rfl, ⟨rfl, ⟨rfl, ⟨rfl, trivial⟩⟩⟩⟩⟩⟩ ?_
        exact sv_Q.z rfl
      · refine sv_Q.s (σ' := (110, [some (.ref 0), some (.ref 5), some (.int x2), some (.int x3), some (.int x4), some (.int x5), some (.int x6), some (.int x7), some (.int x8)], [.int x8, .int x5, .ref 5], (W_Shif hs hv hh hr hc))) 3 rfl ?_
        refine sv_Q.o (fun v10 e11 => ?_)
        refine sv_Q.V (b := 0) (av := [.int x5, .int x8]) (ps := [5, 6, 7, 8, 9, 10, 11, 12, 13, 14, 15, 16, 17, 18, 19, 20, 21, 22, 23, 24, 25, 26]) (rest := []) (cs1 := (W_Ves hv hh hr hc)) (cs2 := (W_Ves hv hh hr hc)) (st' := [.int v10]) (cs' := (W_Shif hs hv hh hr hc)) (q := (110, .null, 0, 0, 0)) lk_Shif_95 (r_Ves_whyNot N hv hh hr hc x5 x8 v10 e11) rfl rfl rfl rfl rfl (Or.inl ⟨10, _, _, rfl, rfl, rfl⟩) rfl rfl (sc_Shif_Ves_1 hs hv hh hr hc) rfl rfl (pc_Shif_Ves_1 hs hv hh hr hc hv hh hr hc) ?_
        refine sv_Q.lo (fun v23 => (198, [some (.ref 0), some (.ref 5), some (.int x2), some (.int x3), some (.int v23.1), some (.int x5), some (.int x6), some (.int x7), some (.int x8)], [], (W_Shif v23.2.1 hv hh hr v23.2.2))) (fun v23 => ?_) ?_
        · refine sv_Q.s (σ' := (200, [some (.ref 0), some (.ref 5), some (.int x2), some (.int x3), some (.int v23.1), some (.int x5), some (.int x6), some (.int x7), some (.int x8)], [.int v23.1], (W_Shif v23.2.1 hv hh hr v23.2.2))) 1 rfl ?_
          refine sv_Q.b rfl (fun c24 => ?_) (fun c24 => ?_)
          · refine sv_Q.s (σ' := (216, [some (.ref 0), some (.ref 5), some (.int x2), some (.int x3), some (.int v23.1), some (.int x5), some (.int x6), some (.int x7), some (.int x8)], [.int v23.1], (W_Shif v23.2.1 hv hh hr v23.2.2))) 1 rfl ?_
            refine sv_Q.ite (fun c25 => ?_) (fun c25 => sv_Q.non)
            exact sv_Q.z ⟨sv_01 v23.1, rfl, c25, rfl⟩
          · refine sv_Q.s (σ' := (211, [some (.ref 0), some (.ref 5), some (.int x2), some (.int x3), some (.int v23.1), some (.int x5), some (.int x6), some (.int x7), some (.int x8)], [.int (v23.2.1 0 8), .int (v23.2.1 0 7)], (W_Shif v23.2.1 hv hh hr v23.2.2))) 4 rfl ?_
            refine sv_Q.b rfl (fun c26 => ?_) (fun c26 => ?_)
            · refine sv_Q.s (σ' := (88, [some (.ref 0), some (.ref 5), some (.int x2), some (.int x3), some (.int v23.1), some (.int x5), some (.int x6), some (.int x7), some (.int (x8 + (1 : Int32)))], [], (W_Shif v23.2.1 hv hh hr v23.2.2))) 2 rfl ?_
              exact ih x2 x3 v23.1 x5 x6 x7 (x8 + (1 : Int32)) v23.2.1 hv hh hr v23.2.2
            · refine sv_Q.s (σ' := (216, [some (.ref 0), some (.ref 5), some (.int x2), some (.int x3), some (.int v23.1), some (.int x5), some (.int x6), some (.int x7), some (.int x8)], [.int v23.1], (W_Shif v23.2.1 hv hh hr v23.2.2))) 1 rfl ?_
              refine sv_Q.ite (fun c27 => ?_) (fun c27 => sv_Q.non)
              exact sv_Q.z ⟨sv_01 v23.1, rfl, c27, rfl⟩
        · refine sv_Q.b rfl (fun c12 => ?_) (fun c12 => ?_)
          · exact sv_Q.z rfl
          · refine sv_Q.s (σ' := (126, [some (.ref 0), some (.ref 5), some (.int x2), some (.int x3), some (.int x4), some (.int x5), some (.int x6), some (.int x7), some (.int x8)], [], (W_Shif (ss hs 7 ((hs 0 7) + (1 : Int32))) hv hh hr hc))) 6 rfl ?_
            refine sv_Q.go (fun hs_13 => (126, [some (.ref 0), some (.ref 5), some (.int x2), some (.int x3), some (.int x4), some (.int x5), some (.int x6), some (.int x7), some (.int x8)], [], (W_Shif hs_13 hv hh hr hc))) (fun hs_13 => ?_)
            refine sv_Q.s (σ' := (133, [some (.ref 0), some (.ref 5), some (.int x2), some (.int x3), some (.int x4), some (.int x5), some (.int x6), some (.int x7), some (.int x8)], [.int x5, .int x2, .ref 3], (W_Shif hs_13 hv hh hr hc))) 4 rfl ?_
            refine sv_Q.S (ps := [3]) (rest := []) (st' := []) (cs' := (W_Shif (sw hs_13 3 2 x2 x5) hv hh hr hc)) (q := (133, .null, 0, 0, 0)) lk_Shif_98 (t_K_write 2 rfl (hs_13 3) x2 x5) rfl rfl rfl rfl rfl rfl rfl (su_Shif_3 hs_13 hv hh hr hc) rfl rfl (pa_Shif_3 hs_13 hv hh hr hc (wr 2 (hs_13 3) x2 x5)) ?_
            refine sv_Q.go (fun hs_14 => (136, [some (.ref 0), some (.ref 5), some (.int x2), some (.int x3), some (.int x4), some (.int x5), some (.int x6), some (.int x7), some (.int x8)], [], (W_Shif hs_14 hv hh hr hc))) (fun hs_14 => ?_)
            refine sv_Q.s (σ' := (143, [some (.ref 0), some (.ref 5), some (.int x2), some (.int x3), some (.int x4), some (.int x5), some (.int x6), some (.int x7), some (.int x8)], [.int x8, .int x2, .ref 4], (W_Shif hs_14 hv hh hr hc))) 4 rfl ?_
            refine sv_Q.S (ps := [4]) (rest := []) (st' := []) (cs' := (W_Shif (sw hs_14 4 2 x2 x8) hv hh hr hc)) (q := (143, .null, 0, 0, 0)) lk_Shif_98 (t_K_write 2 rfl (hs_14 4) x2 x8) rfl rfl rfl rfl rfl rfl rfl (su_Shif_4 hs_14 hv hh hr hc) rfl rfl (pa_Shif_4 hs_14 hv hh hr hc (wr 2 (hs_14 4) x2 x8)) ?_
            refine sv_Q.go (fun hs_15 => (146, [some (.ref 0), some (.ref 5), some (.int x2), some (.int x3), some (.int x4), some (.int x5), some (.int x6), some (.int x7), some (.int x8)], [], (W_Shif hs_15 hv hh hr hc))) (fun hs_15 => ?_)
            refine sv_Q.s (σ' := (154, [some (.ref 0), some (.ref 5), some (.int x2), some (.int x3), some (.int x4), some (.int x5), some (.int x6), some (.int x7), some (.int x8)], [.int x8, .int x5, .ref 21], (W_Shif hs_15 hv hh hr hc))) 4 rfl ?_
            refine sv_Q.V (b := 0) (av := [.int x5, .int x8]) (ps := [21, 22, 23, 24, 25, 26]) (rest := []) (cs1 := (W_Cargo hc)) (cs2 := (W_Cargo (F_Cargo_move x5 x8 hc))) (st' := []) (cs' := (W_Shif hs_15 hv hh hr (F_Cargo_move x5 x8 hc))) (q := (154, .null, 0, 0, 0)) lk_Shif_102 (t_Cargo_move hc x5 x8) rfl rfl rfl rfl rfl (Or.inl ⟨0, _, _, rfl, rfl, rfl⟩) rfl rfl (sc_Shif_Cargo_4 hs_15 hv hh hr hc) rfl rfl (pc_Shif_Cargo_4 hs_15 hv hh hr hc (F_Cargo_move x5 x8 hc)) ?_
            refine sv_Q.go (fun hc_16 => (157, [some (.ref 0), some (.ref 5), some (.int x2), some (.int x3), some (.int x4), some (.int x5), some (.int x6), some (.int x7), some (.int x8)], [], (W_Shif hs_15 hv hh hr hc_16))) (fun hc_16 => ?_)
            refine sv_Q.s (σ' := (165, [some (.ref 0), some (.ref 5), some (.int x2), some (.int x3), some (.int x4), some (.int x5), some (.int x6), some (.int x7), some (.int x8)], [.int (hs_15 0 8), .int (hs_15 0 7)], (W_Shif hs_15 hv hh hr hc_16))) 4 rfl ?_
            refine sv_Q.lo (fun v21 => (185, [some (.ref 0), some (.ref 5), some (.int x2), some (.int x3), none, some (.int x5), some (.int x6), some (.int x7), some (.int x8)], [.int v21.1], (W_Shif v21.2.1 hv hh hr v21.2.2))) (fun v21 => ?_) ?_
            · refine sv_Q.s (σ' := (195, [some (.ref 0), some (.ref 5), some (.int x2), some (.int x3), some (.int v21.1), some (.int x5), some (.int x6), some (.int x7), some (.int x8)], [.int x7, .int x5, .ref 21], (W_Shif v21.2.1 hv hh hr v21.2.2))) 5 rfl ?_
              refine sv_Q.V (b := 0) (av := [.int x5, .int x7]) (ps := [21, 22, 23, 24, 25, 26]) (rest := []) (cs1 := (W_Cargo v21.2.2)) (cs2 := (W_Cargo (F_Cargo_move x5 x7 v21.2.2))) (st' := []) (cs' := (W_Shif v21.2.1 hv hh hr (F_Cargo_move x5 x7 v21.2.2))) (q := (195, .null, 0, 0, 0)) lk_Shif_102 (t_Cargo_move v21.2.2 x5 x7) rfl rfl rfl rfl rfl (Or.inl ⟨0, _, _, rfl, rfl, rfl⟩) rfl rfl (sc_Shif_Cargo_4 v21.2.1 hv hh hr v21.2.2) rfl rfl (pc_Shif_Cargo_4 v21.2.1 hv hh hr v21.2.2 (F_Cargo_move x5 x7 v21.2.2)) ?_
              refine sv_Q.go (fun hc_22 => (198, [some (.ref 0), some (.ref 5), some (.int x2), some (.int x3), some (.int v21.1), some (.int x5), some (.int x6), some (.int x7), some (.int x8)], [], (W_Shif v21.2.1 hv hh hr hc_22))) (fun hc_22 => ?_)
              exact sv_Q.z rfl
            · refine sv_Q.b rfl (fun c17 => ?_) (fun c17 => ?_)
              · refine sv_Q.s (σ' := (185, [some (.ref 0), some (.ref 5), some (.int x2), some (.int x3), some (.int x4), some (.int x5), some (.int x6), some (.int x7), some (.int x8)], [.int (0 : Int32)], (W_Shif hs_15 hv hh hr hc_16))) 1 rfl ?_
                refine sv_Q.f (lo' := [some (.ref 0), some (.ref 5), some (.int x2), some (.int x3), none, some (.int x5), some (.int x6), some (.int x7), some (.int x8)]) ⟨rfl, ⟨rfl, ⟨rfl, ⟨rfl, ⟨rfl, ⟨rfl, ⟨rfl, ⟨rfl, trivial⟩⟩⟩⟩⟩⟩⟩⟩ ?_
                exact sv_Q.z rfl
              · refine sv_Q.s (σ' := (174, [some (.ref 0), some (.ref 5), some (.int x2), some (.int x3), some (.int x4), some (.int x5), some (.int x6), some (.int x7), some (.int x8)], [.int x3, .int (x2 + (1 : Int32)), .ref 5, .ref 0], (W_Shif hs_15 hv hh hr hc_16))) 6 rfl ?_
                refine sv_Q.o (fun v18 e19 => ?_)
                refine sv_Q.V (b := 0) (av := [.ref 5, .int (x2 + (1 : Int32)), .int x3]) (ps := [0, 1, 2, 3, 4, 5, 6, 7, 8, 9, 10, 11, 12, 13, 14, 15, 16, 17, 18, 19, 20, 21, 22, 23, 24, 25, 26]) (rest := []) (cs1 := (W_Shif hs_15 hv hh hr hc_16)) (cs2 := (W_Shif v18.2.1 hv hh hr v18.2.2)) (st' := [.int v18.1]) (cs' := (W_Shif v18.2.1 hv hh hr v18.2.2)) (q := (174, .null, 0, 0, 0)) lk_Shif_44 (hrec hs_15 hv hh hr hc_16 (x2 + (1 : Int32)) x3 v18 e19) (Nat.ble_eq_true_of_le (Nat.le_refl _)) rfl rfl rfl rfl (Or.inl ⟨7, _, _, rfl, rfl, rfl⟩) rfl rfl (sc_Shif_Shif_0 hs_15 hv hh hr hc_16) rfl rfl (pc_Shif_Shif_0 hs_15 hv hh hr hc_16 v18.2.1 hv hh hr v18.2.2) ?_
                refine sv_Q.b rfl (fun c20 => ?_) (fun c20 => ?_)
                · refine sv_Q.s (σ' := (185, [some (.ref 0), some (.ref 5), some (.int x2), some (.int x3), some (.int x4), some (.int x5), some (.int x6), some (.int x7), some (.int x8)], [.int (0 : Int32)], (W_Shif v18.2.1 hv hh hr v18.2.2))) 1 rfl ?_
                  refine sv_Q.f (lo' := [some (.ref 0), some (.ref 5), some (.int x2), some (.int x3), none, some (.int x5), some (.int x6), some (.int x7), some (.int x8)]) ⟨rfl, ⟨rfl, ⟨rfl, ⟨rfl, ⟨rfl, ⟨rfl, ⟨rfl, ⟨rfl, trivial⟩⟩⟩⟩⟩⟩⟩⟩ ?_
                  exact sv_Q.z rfl
                · refine sv_Q.s (σ' := (185, [some (.ref 0), some (.ref 5), some (.int x2), some (.int x3), some (.int x4), some (.int x5), some (.int x6), some (.int x7), some (.int x8)], [.int (1 : Int32)], (W_Shif v18.2.1 hv hh hr v18.2.2))) 2 rfl ?_
                  refine sv_Q.f (lo' := [some (.ref 0), some (.ref 5), some (.int x2), some (.int x3), none, some (.int x5), some (.int x6), some (.int x7), some (.int x8)]) ⟨rfl, ⟨rfl, ⟨rfl, ⟨rfl, ⟨rfl, ⟨rfl, ⟨rfl, ⟨rfl, trivial⟩⟩⟩⟩⟩⟩⟩⟩ ?_
                  exact sv_Q.z rfl
def L_Shif_findShifts_36 (N : Nat) (rec : Int32 → Int32 → (Nat → Nat → Int32) → (Nat → Nat → Int32) → (Nat → Nat → Int32) → (Nat → Nat → Int32) → Option (Int32 × (Nat → Nat → Int32) × (Nat → Nat → Int32))) : Nat → Int32 → Int32 → Int32 → Int32 → (Nat → Nat → Int32) → (Nat → Nat → Int32) → (Nat → Nat → Int32) → (Nat → Nat → Int32) → Option (((Nat → Nat → Int32) × (Nat → Nat → Int32)) ⊕ (Int32 × (Nat → Nat → Int32) × (Nat → Nat → Int32)))
  | 0, _, _, _, _, _, _, _, _ => none
  | n + 1, x2, x3, x4, x5, hs, hh, hr, hc => (if (hc 0 0) ≤ x5 then (some (.inl (hs, hc))) else (Option.bind (if (F_Ves_canLift x5 hh hc) = 0 then some (0 : Int32) else (Option.bind (F_Shif_isShifted N x5 x2 hs) fun (v4 : Int32) => (if ¬ v4 = 0 then some (0 : Int32) else some (1 : Int32)))) fun (v7 : Int32) => (sv_bs (L_Shif_findShifts_88 N rec N x2 x3 x4 x5 v7 (F_Cargo_placeOf x5 hc) (0 : Int32) hs hh hr hc) Sum.inr fun (v28 : Int32 × (Nat → Nat → Int32) × (Nat → Nat → Int32)) => (L_Shif_findShifts_36 N rec n x2 x3 v28.1 (x5 + (1 : Int32)) v28.2.1 hh hr v28.2.2))))
theorem l_Shif_findShifts_36 {X : Nat × (Nat → Int32)} (N : Nat) (dd : Nat) (rec : Int32 → Int32 → (Nat → Nat → Int32) → (Nat → Nat → Int32) → (Nat → Nat → Int32) → (Nat → Nat → Int32) → Option (Int32 × (Nat → Nat → Int32) × (Nat → Nat → Int32))) (hrec : ∀ (hs hv hh hr hc : Nat → Nat → Int32) (a1 : Int32) (a2 : Int32) x, rec a1 a2 hs hh hr hc = some x → sv_R X (dd + 6) M_Shif_findShifts [.ref 0, .ref 5, .int a1, .int a2] (W_Shif hs hv hh hr hc) (some (.int x.1)) (W_Shif x.2.1 hv hh hr x.2.2)) : ∀ (n : Nat) (x2 : Int32) (x3 : Int32) (x4 : Int32) (x5 : Int32) (hs hv hh hr hc : Nat → Nat → Int32), sv_Q X (dd + 6) M_Shif_findShifts (36, [some (.ref 0), some (.ref 5), some (.int x2), some (.int x3), some (.int x4), some (.int x5), none, none, none], [], (W_Shif hs hv hh hr hc)) (L_Shif_findShifts_36 N rec n x2 x3 x4 x5 hs hh hr hc) (sv_K2 (fun (v : (Nat → Nat → Int32) × (Nat → Nat → Int32)) => (229, [none, none, none, none, none, none, none, none, none], [], (W_Shif v.1 hv hh hr v.2))) (sv_KR M_Shif_findShifts (fun (x : Int32 × (Nat → Nat → Int32) × (Nat → Nat → Int32)) => (some (.int x.1), (W_Shif x.2.1 hv hh hr x.2.2))))) := by
  intro n
  induction n with
  | zero => intro x2 x3 x4 x5 hs hv hh hr hc; unfold L_Shif_findShifts_36; exact sv_Q.non
  | succ n ih =>
    intro x2 x3 x4 x5 hs hv hh hr hc
    unfold L_Shif_findShifts_36
    refine sv_Q.s (σ' := (45, [some (.ref 0), some (.ref 5), some (.int x2), some (.int x3), some (.int x4), some (.int x5), none, none, none], [.int (hc 0 0), .int x5], (W_Shif hs hv hh hr hc))) 4 rfl ?_
    refine sv_Q.b rfl (fun c2 => ?_) (fun c2 => ?_)
    · refine sv_Q.f (lo' := [none, none, none, none, none, none, none, none, none]) trivial ?_
      exact sv_Q.z rfl
    · refine sv_Q.s (σ' := (51, [some (.ref 0), some (.ref 5), some (.int x2), some (.int x3), some (.int x4), some (.int x5), none, none, none], [.int x5, .ref 5], (W_Shif hs hv hh hr hc))) 2 rfl ?_
      refine sv_Q.V (b := 0) (av := [.int x5]) (ps := [5, 6, 7, 8, 9, 10, 11, 12, 13, 14, 15, 16, 17, 18, 19, 20, 21, 22, 23, 24, 25, 26]) (rest := []) (cs1 := (W_Ves hv hh hr hc)) (cs2 := (W_Ves hv hh hr hc)) (st' := [.int (F_Ves_canLift x5 hh hc)]) (cs' := (W_Shif hs hv hh hr hc)) (q := (51, .null, 0, 0, 0)) lk_Shif_75 (t_Ves_canLift hv hh hr hc x5) rfl rfl rfl rfl rfl (Or.inl ⟨10, _, _, rfl, rfl, rfl⟩) rfl rfl (sc_Shif_Ves_1 hs hv hh hr hc) rfl rfl (pc_Shif_Ves_1 hs hv hh hr hc hv hh hr hc) ?_
      refine sv_Q.lo (fun v7 => (72, [some (.ref 0), some (.ref 5), some (.int x2), some (.int x3), some (.int x4), some (.int x5), none, none, none], [.int v7], (W_Shif hs hv hh hr hc))) (fun v7 => ?_) ?_
      · refine sv_Q.s (σ' := (80, [some (.ref 0), some (.ref 5), some (.int x2), some (.int x3), some (.int x4), some (.int x5), some (.int v7), none, none], [.int x5, .ref 21], (W_Shif hs hv hh hr hc))) 4 rfl ?_
        refine sv_Q.V (b := 0) (av := [.int x5]) (ps := [21, 22, 23, 24, 25, 26]) (rest := []) (cs1 := (W_Cargo hc)) (cs2 := (W_Cargo hc)) (st' := [.int (F_Cargo_placeOf x5 hc)]) (cs' := (W_Shif hs hv hh hr hc)) (q := (80, .null, 0, 0, 0)) lk_Shif_83 (t_Cargo_placeOf hc x5) rfl rfl rfl rfl rfl (Or.inl ⟨0, _, _, rfl, rfl, rfl⟩) rfl rfl (sc_Shif_Cargo_4 hs hv hh hr hc) rfl rfl (pc_Shif_Cargo_4 hs hv hh hr hc hc) ?_
        refine sv_Q.s (σ' := (88, [some (.ref 0), some (.ref 5), some (.int x2), some (.int x3), some (.int x4), some (.int x5), some (.int v7), some (.int (F_Cargo_placeOf x5 hc)), some (.int (0 : Int32))], [], (W_Shif hs hv hh hr hc))) 3 rfl ?_
        refine sv_Q.bs (l_Shif_findShifts_88 N dd rec hrec N x2 x3 x4 x5 v7 (F_Cargo_placeOf x5 hc) (0 : Int32) hs hv hh hr hc) (fun v28 => ?_) (fun r σ' h => h)
        · refine sv_Q.s (σ' := (36, [some (.ref 0), some (.ref 5), some (.int x2), some (.int x3), some (.int v28.1), some (.int (x5 + (1 : Int32))), none, none, none], [], (W_Shif v28.2.1 hv hh hr v28.2.2))) 2 rfl ?_
          exact ih x2 x3 v28.1 (x5 + (1 : Int32)) v28.2.1 hv hh hr v28.2.2
      · refine sv_Q.b rfl (fun c3 => ?_) (fun c3 => ?_)
        · refine sv_Q.s (σ' := (72, [some (.ref 0), some (.ref 5), some (.int x2), some (.int x3), some (.int x4), some (.int x5), none, none, none], [.int (0 : Int32)], (W_Shif hs hv hh hr hc))) 1 rfl ?_
          exact sv_Q.z rfl
        · refine sv_Q.s (σ' := (61, [some (.ref 0), some (.ref 5), some (.int x2), some (.int x3), some (.int x4), some (.int x5), none, none, none], [.int x2, .int x5, .ref 0], (W_Shif hs hv hh hr hc))) 3 rfl ?_
          refine sv_Q.o (fun v4 e5 => ?_)
          refine sv_Q.V (b := 0) (av := [.int x5, .int x2]) (ps := [0, 1, 2, 3, 4, 5, 6, 7, 8, 9, 10, 11, 12, 13, 14, 15, 16, 17, 18, 19, 20, 21, 22, 23, 24, 25, 26]) (rest := []) (cs1 := (W_Shif hs hv hh hr hc)) (cs2 := (W_Shif hs hv hh hr hc)) (st' := [.int v4]) (cs' := (W_Shif hs hv hh hr hc)) (q := (61, .null, 0, 0, 0)) lk_Shif_79 (r_Shif_isShifted N hs hv hh hr hc x5 x2 v4 e5) rfl rfl rfl rfl rfl (Or.inl ⟨7, _, _, rfl, rfl, rfl⟩) rfl rfl (sc_Shif_Shif_0 hs hv hh hr hc) rfl rfl (pc_Shif_Shif_0 hs hv hh hr hc hs hv hh hr hc) ?_
          refine sv_Q.b rfl (fun c6 => ?_) (fun c6 => ?_)
          · refine sv_Q.s (σ' := (72, [some (.ref 0), some (.ref 5), some (.int x2), some (.int x3), some (.int x4), some (.int x5), none, none, none], [.int (0 : Int32)], (W_Shif hs hv hh hr hc))) 1 rfl ?_
            exact sv_Q.z rfl
          · refine sv_Q.s (σ' := (72, [some (.ref 0), some (.ref 5), some (.int x2), some (.int x3), some (.int x4), some (.int x5), none, none, none], [.int (1 : Int32)], (W_Shif hs hv hh hr hc))) 2 rfl ?_
            exact sv_Q.z rfl
def F_Shif_findShifts (N : Nat) : Nat → Int32 → Int32 → (Nat → Nat → Int32) → (Nat → Nat → Int32) → (Nat → Nat → Int32) → (Nat → Nat → Int32) → Option (Int32 × (Nat → Nat → Int32) × (Nat → Nat → Int32))
  | 0, _, _, _, _, _, _ => none
  | dd + 1, a1, a2, hs, hh, hr, hc => (if a1 < a2 then (sv_bs (L_Shif_findShifts_36 N (F_Shif_findShifts N dd) N a1 a2 (0 : Int32) (0 : Int32) hs hh hr hc) id fun (v29 : (Nat → Nat → Int32) × (Nat → Nat → Int32)) => (some ((0 : Int32), v29.1, v29.2))) else (Option.bind (F_Ves_openPlace N (24 : Int32) (0 : Int32) hh hr hc) fun (v30 : Int32) => (sv_let (ss hs 6 v30) fun (hs_32 : Nat → Nat → Int32) => (if (hs_32 0 6) = (-1 : Int32) then (some ((0 : Int32), hs_32, hc)) else (some ((1 : Int32), hs_32, hc))))))
theorem r_Shif_findShifts {X : Nat × (Nat → Int32)} (N : Nat) : ∀ (dd : Nat) (hs hv hh hr hc : Nat → Nat → Int32) (a1 : Int32) (a2 : Int32) x, F_Shif_findShifts N dd a1 a2 hs hh hr hc = some x → sv_R X (dd + 6) M_Shif_findShifts [.ref 0, .ref 5, .int a1, .int a2] (W_Shif hs hv hh hr hc) (some (.int x.1)) (W_Shif x.2.1 hv hh hr x.2.2) := by
  intro dd
  induction dd with
  | zero => intro hs hv hh hr hc a1 a2 x hx; unfold F_Shif_findShifts at hx; cases hx
  | succ dd ih =>
    intro hs hv hh hr hc a1 a2
    show ∀ x, _ → sv_R X (dd + 6 + 1) _ _ _ _ _
    refine sv_Q.R (res := (fun (x : Int32 × (Nat → Nat → Int32) × (Nat → Nat → Int32)) => (some (.int x.1), (W_Shif x.2.1 hv hh hr x.2.2)))) g_Shif_findShifts rfl ?_
    unfold F_Shif_findShifts
    refine sv_Q.s (σ' := (2, [some (.ref 0), some (.ref 5), some (.int a1), some (.int a2), none, none, none, none, none], [.int a2, .int a1], (W_Shif hs hv hh hr hc))) 2 rfl ?_
    refine sv_Q.b rfl (fun c1 => ?_) (fun c1 => ?_)
    · refine sv_Q.s (σ' := (36, [some (.ref 0), some (.ref 5), some (.int a1), some (.int a2), some (.int (0 : Int32)), some (.int (0 : Int32)), none, none, none], [], (W_Shif hs hv hh hr hc))) 4 rfl ?_
      refine sv_Q.bs (l_Shif_findShifts_36 N dd (F_Shif_findShifts N dd) ih N a1 a2 (0 : Int32) (0 : Int32) hs hv hh hr hc) (fun v29 => ?_) (fun r σ' h => h)
      · refine sv_Q.s (σ' := (230, [none, none, none, none, none, none, none, none, none], [.int (0 : Int32)], (W_Shif v29.1 hv hh hr v29.2))) 1 rfl ?_
        exact sv_Q.z ⟨sv_01 (0 : Int32), rfl, Or.inl rfl, rfl⟩
    · refine sv_Q.s (σ' := (10, [some (.ref 0), some (.ref 5), some (.int a1), some (.int a2), none, none, none, none, none], [.int (0 : Int32), .int (24 : Int32), .ref 5, .ref 0], (W_Shif hs hv hh hr hc))) 4 rfl ?_
      refine sv_Q.o (fun v30 e31 => ?_)
      refine sv_Q.V (b := 0) (av := [.int (24 : Int32), .int (0 : Int32)]) (ps := [5, 6, 7, 8, 9, 10, 11, 12, 13, 14, 15, 16, 17, 18, 19, 20, 21, 22, 23, 24, 25, 26]) (rest := [.ref 0]) (cs1 := (W_Ves hv hh hr hc)) (cs2 := (W_Ves hv hh hr hc)) (st' := [.int v30, .ref 0]) (cs' := (W_Shif hs hv hh hr hc)) (q := (10, .null, 0, 0, 0)) lk_Shif_61 (r_Ves_openPlace N hv hh hr hc (24 : Int32) (0 : Int32) v30 e31) rfl rfl rfl rfl rfl (Or.inl ⟨10, _, _, rfl, rfl, rfl⟩) rfl rfl (sc_Shif_Ves_1 hs hv hh hr hc) rfl rfl (pc_Shif_Ves_1 hs hv hh hr hc hv hh hr hc) ?_
      refine sv_Q.s (σ' := (16, [some (.ref 0), some (.ref 5), some (.int a1), some (.int a2), none, none, none, none, none], [], (W_Shif (ss hs 6 v30) hv hh hr hc))) 1 rfl ?_
      refine sv_Q.go (fun hs_32 => (16, [some (.ref 0), some (.ref 5), some (.int a1), some (.int a2), none, none, none, none, none], [], (W_Shif hs_32 hv hh hr hc))) (fun hs_32 => ?_)
      refine sv_Q.s (σ' := (21, [some (.ref 0), some (.ref 5), some (.int a1), some (.int a2), none, none, none, none, none], [.int (-1 : Int32), .int (hs_32 0 6)], (W_Shif hs_32 hv hh hr hc))) 3 rfl ?_
      refine sv_Q.b rfl (fun c33 => ?_) (fun c33 => ?_)
      · refine sv_Q.s (σ' := (29, [some (.ref 0), some (.ref 5), some (.int a1), some (.int a2), none, none, none, none, none], [.int (0 : Int32)], (W_Shif hs_32 hv hh hr hc))) 1 rfl ?_
        exact sv_Q.z ⟨sv_01 (0 : Int32), rfl, Or.inl rfl, rfl⟩
      · refine sv_Q.s (σ' := (29, [some (.ref 0), some (.ref 5), some (.int a1), some (.int a2), none, none, none, none, none], [.int (1 : Int32)], (W_Shif hs_32 hv hh hr hc))) 2 rfl ?_
        exact sv_Q.z ⟨sv_01 (1 : Int32), rfl, Or.inr rfl, rfl⟩
def F_Shif_show (a0 : Int32) (hs : Nat → Nat → Int32) : (Nat → Nat → Int32) := (sv_let (ss hs 0 a0) fun (hs_1 : Nat → Nat → Int32) => (sv_let (ss hs_1 1 (hs_1 0 6)) fun (hs_2 : Nat → Nat → Int32) => (sv_let (sc hs_2 3 1 (0 : Int32) (0 : Int32) (2 : Int32)) fun (hs_3 : Nat → Nat → Int32) => (sv_let (sc hs_3 4 2 (0 : Int32) (0 : Int32) (2 : Int32)) fun (hs_4 : Nat → Nat → Int32) => hs_4))))
theorem r_Shif_show {X : Nat × (Nat → Int32)} (hs hv hh hr hc : Nat → Nat → Int32) (a0 : Int32) : ∀ x, some (F_Shif_show a0 hs) = some x → sv_R X 1 M_Shif_show [.ref 0, .int a0] (W_Shif hs hv hh hr hc) none (W_Shif x hv hh hr hc) := by
  refine sv_Q.R (res := (fun (x : (Nat → Nat → Int32)) => ((none : Option Value), (W_Shif x hv hh hr hc)))) g_Shif_show rfl ?_
  unfold F_Shif_show
  refine sv_Q.s (σ' := (5, [some (.ref 0), some (.int a0)], [], (W_Shif (ss hs 0 a0) hv hh hr hc))) 3 rfl ?_
  refine sv_Q.gs (fun hs_1 => (5, [some (.ref 0), some (.int a0)], [], (W_Shif hs_1 hv hh hr hc))) (fun hs_1 => ?_)
  refine sv_Q.s (σ' := (13, [some (.ref 0), some (.int a0)], [], (W_Shif (ss hs_1 1 (hs_1 0 6)) hv hh hr hc))) 4 rfl ?_
  refine sv_Q.gs (fun hs_2 => (13, [some (.ref 0), some (.int a0)], [], (W_Shif hs_2 hv hh hr hc))) (fun hs_2 => ?_)
  refine sv_Q.s (σ' := (24, [some (.ref 0), some (.int a0)], [.int (2 : Int32), .int (0 : Int32), .ref 1, .int (0 : Int32), .ref 3], (W_Shif hs_2 hv hh hr hc))) 7 rfl ?_
  refine sv_Q.gk (σ' := (27, [some (.ref 0), some (.int a0)], [], (W_Shif (sc hs_2 3 1 (0 : Int32) (0 : Int32) (2 : Int32)) hv hh hr hc))) (c := (¬ (0 : Int32) < 0 ∧ ¬ (0 : Int32) < 0 ∧ ¬ (2 : Int32) < 0) ∧ ((0 : Int32)).toNatClampNeg + ((2 : Int32)).toNatClampNeg ≤ 2 ∧ ((0 : Int32)).toNatClampNeg + ((2 : Int32)).toNatClampNeg ≤ 2) rfl (by decide) ?_
  refine sv_Q.gs (fun hs_3 => (27, [some (.ref 0), some (.int a0)], [], (W_Shif hs_3 hv hh hr hc))) (fun hs_3 => ?_)
  refine sv_Q.s (σ' := (38, [some (.ref 0), some (.int a0)], [.int (2 : Int32), .int (0 : Int32), .ref 2, .int (0 : Int32), .ref 4], (W_Shif hs_3 hv hh hr hc))) 7 rfl ?_
  refine sv_Q.gk (σ' := (41, [some (.ref 0), some (.int a0)], [], (W_Shif (sc hs_3 4 2 (0 : Int32) (0 : Int32) (2 : Int32)) hv hh hr hc))) (c := (¬ (0 : Int32) < 0 ∧ ¬ (0 : Int32) < 0 ∧ ¬ (2 : Int32) < 0) ∧ ((0 : Int32)).toNatClampNeg + ((2 : Int32)).toNatClampNeg ≤ 2 ∧ ((0 : Int32)).toNatClampNeg + ((2 : Int32)).toNatClampNeg ≤ 2) rfl (by decide) ?_
  refine sv_Q.gs (fun hs_4 => (41, [some (.ref 0), some (.int a0)], [], (W_Shif hs_4 hv hh hr hc))) (fun hs_4 => ?_)
  exact sv_Q.z ⟨True, rfl, trivial, rfl⟩
theorem t_Shif_show {X : Nat × (Nat → Int32)} (hs hv hh hr hc : Nat → Nat → Int32) (a0 : Int32) : sv_R X 1 M_Shif_show [.ref 0, .int a0] (W_Shif hs hv hh hr hc) none (W_Shif (F_Shif_show a0 hs) hv hh hr hc) := r_Shif_show hs hv hh hr hc a0 _ rfl
def L_Shif_findFewest_12 (N : Nat) : Nat → Int32 → (Nat → Nat → Int32) → (Nat → Nat → Int32) → (Nat → Nat → Int32) → (Nat → Nat → Int32) → Option (((Nat → Nat → Int32) × (Nat → Nat → Int32)) ⊕ (Int32 × (Nat → Nat → Int32) × (Nat → Nat → Int32)))
  | 0, _, _, _, _, _ => none
  | n + 1, x3, hs, hh, hr, hc => (if (2 : Int32) < x3 then (some (.inl (hs, hc))) else (Option.bind (F_Shif_findShifts N 4 (0 : Int32) x3 hs hh hr hc) fun (v4 : Int32 × (Nat → Nat → Int32) × (Nat → Nat → Int32)) => (if v4.1 = 0 then (if (v4.2.1 0 7) ≤ (v4.2.1 0 8) then (L_Shif_findFewest_12 N n (x3 + (1 : Int32)) v4.2.1 hh hr v4.2.2) else (some (.inr ((-3 : Int32), v4.2.1, v4.2.2)))) else (sv_let (F_Shif_show x3 v4.2.1) fun (hs_8 : Nat → Nat → Int32) => (some (.inr (x3, hs_8, v4.2.2)))))))
theorem l_Shif_findFewest_12 {X : Nat × (Nat → Int32)} (N : Nat) : ∀ (n : Nat) (x3 : Int32) (hs hv hh hr hc : Nat → Nat → Int32), sv_Q X 10 M_Shif_findFewest (12, [some (.ref 0), some (.ref 5), none, some (.int x3)], [], (W_Shif hs hv hh hr hc)) (L_Shif_findFewest_12 N n x3 hs hh hr hc) (sv_K2 (fun (v : (Nat → Nat → Int32) × (Nat → Nat → Int32)) => (54, [some (.ref 0), none, none, none], [], (W_Shif v.1 hv hh hr v.2))) (sv_KR M_Shif_findFewest (fun (x : Int32 × (Nat → Nat → Int32) × (Nat → Nat → Int32)) => (some (.int x.1), (W_Shif x.2.1 hv hh hr x.2.2))))) := by
  intro n
  induction n with
  | zero => intro x3 hs hv hh hr hc; unfold L_Shif_findFewest_12; exact sv_Q.non
  | succ n ih =>
    intro x3 hs hv hh hr hc
    unfold L_Shif_findFewest_12
    refine sv_Q.s (σ' := (14, [some (.ref 0), some (.ref 5), none, some (.int x3)], [.int (2 : Int32), .int x3], (W_Shif hs hv hh hr hc))) 2 rfl ?_
    refine sv_Q.b rfl (fun c3 => ?_) (fun c3 => ?_)
    · refine sv_Q.f (lo' := [some (.ref 0), none, none, none]) ⟨rfl, trivial⟩ ?_
      exact sv_Q.z rfl
    · refine sv_Q.s (σ' := (21, [some (.ref 0), some (.ref 5), none, some (.int x3)], [.int x3, .int (0 : Int32), .ref 5, .ref 0], (W_Shif hs hv hh hr hc))) 4 rfl ?_
      refine sv_Q.o (fun v4 e5 => ?_)
      refine sv_Q.V (b := 0) (av := [.ref 5, .int (0 : Int32), .int x3]) (ps := [0, 1, 2, 3, 4, 5, 6, 7, 8, 9, 10, 11, 12, 13, 14, 15, 16, 17, 18, 19, 20, 21, 22, 23, 24, 25, 26]) (rest := []) (cs1 := (W_Shif hs hv hh hr hc)) (cs2 := (W_Shif v4.2.1 hv hh hr v4.2.2)) (st' := [.int v4.1]) (cs' := (W_Shif v4.2.1 hv hh hr v4.2.2)) (q := (21, .null, 0, 0, 0)) lk_Shif_44 (r_Shif_findShifts N 4 hs hv hh hr hc (0 : Int32) x3 v4 e5) rfl rfl rfl rfl rfl (Or.inl ⟨7, _, _, rfl, rfl, rfl⟩) rfl rfl (sc_Shif_Shif_0 hs hv hh hr hc) rfl rfl (pc_Shif_Shif_0 hs hv hh hr hc v4.2.1 hv hh hr v4.2.2) ?_
      refine sv_Q.b rfl (fun c6 => ?_) (fun c6 => ?_)
      · refine sv_Q.s (σ' := (42, [some (.ref 0), some (.ref 5), none, some (.int x3)], [.int (v4.2.1 0 8), .int (v4.2.1 0 7)], (W_Shif v4.2.1 hv hh hr v4.2.2))) 4 rfl ?_
        refine sv_Q.b rfl (fun c7 => ?_) (fun c7 => ?_)
        · refine sv_Q.s (σ' := (12, [some (.ref 0), some (.ref 5), none, some (.int (x3 + (1 : Int32)))], [], (W_Shif v4.2.1 hv hh hr v4.2.2))) 2 rfl ?_
          exact ih (x3 + (1 : Int32)) v4.2.1 hv hh hr v4.2.2
        · refine sv_Q.s (σ' := (47, [some (.ref 0), some (.ref 5), none, some (.int x3)], [.int (-3 : Int32)], (W_Shif v4.2.1 hv hh hr v4.2.2))) 1 rfl ?_
          exact sv_Q.z ⟨True, rfl, trivial, rfl⟩
      · refine sv_Q.s (σ' := (29, [some (.ref 0), some (.ref 5), none, some (.int x3)], [.int x3, .ref 0], (W_Shif v4.2.1 hv hh hr v4.2.2))) 2 rfl ?_
        refine sv_Q.V (b := 0) (av := [.int x3]) (ps := [0, 1, 2, 3, 4, 5, 6, 7, 8, 9, 10, 11, 12, 13, 14, 15, 16, 17, 18, 19, 20, 21, 22, 23, 24, 25, 26]) (rest := []) (cs1 := (W_Shif v4.2.1 hv hh hr v4.2.2)) (cs2 := (W_Shif (F_Shif_show x3 v4.2.1) hv hh hr v4.2.2)) (st' := []) (cs' := (W_Shif (F_Shif_show x3 v4.2.1) hv hh hr v4.2.2)) (q := (29, .null, 0, 0, 0)) lk_Shif_48 (t_Shif_show v4.2.1 hv hh hr v4.2.2 x3) rfl rfl rfl rfl rfl (Or.inl ⟨7, _, _, rfl, rfl, rfl⟩) rfl rfl (sc_Shif_Shif_0 v4.2.1 hv hh hr v4.2.2) rfl rfl (pc_Shif_Shif_0 v4.2.1 hv hh hr v4.2.2 (F_Shif_show x3 v4.2.1) hv hh hr v4.2.2) ?_
        refine sv_Q.go (fun hs_8 => (32, [some (.ref 0), some (.ref 5), none, some (.int x3)], [], (W_Shif hs_8 hv hh hr v4.2.2))) (fun hs_8 => ?_)
        refine sv_Q.s (σ' := (33, [some (.ref 0), some (.ref 5), none, some (.int x3)], [.int x3], (W_Shif hs_8 hv hh hr v4.2.2))) 1 rfl ?_
        exact sv_Q.z ⟨True, rfl, trivial, rfl⟩
def F_Shif_findFewest (N : Nat) (a1 : Int32) (hs hh hr hc : Nat → Nat → Int32) : Option (Int32 × (Nat → Nat → Int32) × (Nat → Nat → Int32)) := (sv_let (ss hs 7 (0 : Int32)) fun (hs_1 : Nat → Nat → Int32) => (sv_let (ss hs_1 8 a1) fun (hs_2 : Nat → Nat → Int32) => (sv_bs (L_Shif_findFewest_12 N N (0 : Int32) hs_2 hh hr hc) id fun (v9 : (Nat → Nat → Int32) × (Nat → Nat → Int32)) => (sv_let (F_Shif_forget v9.1) fun (hs_10 : Nat → Nat → Int32) => (some ((-1 : Int32), hs_10, v9.2))))))
theorem r_Shif_findFewest {X : Nat × (Nat → Int32)} (N : Nat) (hs hv hh hr hc : Nat → Nat → Int32) (a1 : Int32) : ∀ x, (F_Shif_findFewest N a1 hs hh hr hc) = some x → sv_R X 11 M_Shif_findFewest [.ref 0, .ref 5, .int a1] (W_Shif hs hv hh hr hc) (some (.int x.1)) (W_Shif x.2.1 hv hh hr x.2.2) := by
  refine sv_Q.R (res := (fun (x : Int32 × (Nat → Nat → Int32) × (Nat → Nat → Int32)) => (some (.int x.1), (W_Shif x.2.1 hv hh hr x.2.2)))) g_Shif_findFewest rfl ?_
  unfold F_Shif_findFewest
  refine sv_Q.s (σ' := (5, [some (.ref 0), some (.ref 5), some (.int a1), none], [], (W_Shif (ss hs 7 (0 : Int32)) hv hh hr hc))) 3 rfl ?_
  refine sv_Q.go (fun hs_1 => (5, [some (.ref 0), some (.ref 5), some (.int a1), none], [], (W_Shif hs_1 hv hh hr hc))) (fun hs_1 => ?_)
  refine sv_Q.s (σ' := (10, [some (.ref 0), some (.ref 5), some (.int a1), none], [], (W_Shif (ss hs_1 8 a1) hv hh hr hc))) 3 rfl ?_
  refine sv_Q.go (fun hs_2 => (10, [some (.ref 0), some (.ref 5), some (.int a1), none], [], (W_Shif hs_2 hv hh hr hc))) (fun hs_2 => ?_)
  refine sv_Q.s (σ' := (12, [some (.ref 0), some (.ref 5), some (.int a1), some (.int (0 : Int32))], [], (W_Shif hs_2 hv hh hr hc))) 2 rfl ?_
  refine sv_Q.f (lo' := [some (.ref 0), some (.ref 5), none, some (.int (0 : Int32))]) ⟨rfl, ⟨rfl, ⟨rfl, trivial⟩⟩⟩ ?_
  refine sv_Q.bs (l_Shif_findFewest_12 N N (0 : Int32) hs_2 hv hh hr hc) (fun v9 => ?_) (fun r σ' h => h)
  · refine sv_Q.s (σ' := (55, [some (.ref 0), none, none, none], [.ref 0], (W_Shif v9.1 hv hh hr v9.2))) 1 rfl ?_
    refine sv_Q.V (b := 0) (av := []) (ps := [0, 1, 2, 3, 4, 5, 6, 7, 8, 9, 10, 11, 12, 13, 14, 15, 16, 17, 18, 19, 20, 21, 22, 23, 24, 25, 26]) (rest := []) (cs1 := (W_Shif v9.1 hv hh hr v9.2)) (cs2 := (W_Shif (F_Shif_forget v9.1) hv hh hr v9.2)) (st' := []) (cs' := (W_Shif (F_Shif_forget v9.1) hv hh hr v9.2)) (q := (55, .null, 0, 0, 0)) lk_Shif_52 (t_Shif_forget v9.1 hv hh hr v9.2) rfl rfl rfl rfl rfl (Or.inl ⟨7, _, _, rfl, rfl, rfl⟩) rfl rfl (sc_Shif_Shif_0 v9.1 hv hh hr v9.2) rfl rfl (pc_Shif_Shif_0 v9.1 hv hh hr v9.2 (F_Shif_forget v9.1) hv hh hr v9.2) ?_
    refine sv_Q.go (fun hs_10 => (58, [some (.ref 0), none, none, none], [], (W_Shif hs_10 hv hh hr v9.2))) (fun hs_10 => ?_)
    refine sv_Q.s (σ' := (59, [some (.ref 0), none, none, none], [.int (-1 : Int32)], (W_Shif hs_10 hv hh hr v9.2))) 1 rfl ?_
    exact sv_Q.z ⟨True, rfl, trivial, rfl⟩
