/-! page and history, by program out of the listing -/
theorem pa_Page_1 (hp hv hh hr hc : Nat → Nat → Int32) (g : Nat → Int32) : sv_pt [1] (([.inl (0, 64, g)] : List sv_C).map (sv_r (sv_pi [1]))) 0 (W_Page hp hv hh hr hc) = W_Page (sr hp 1 g) hv hh hr hc := rfl
theorem su_Page_1 (hp hv hh hr hc : Nat → Nat → Int32) : sv_sub [1] (W_Page hp hv hh hr hc) [.inl (0, 64, hp 1)] := rfl
theorem pu_Page_1 (hp hv hh hr hc : Nat → Nat → Int32) : sv_pt [1] (([.inl (0, 64, hp 1)] : List sv_C).map (sv_r (sv_pi [1]))) 0 (W_Page hp hv hh hr hc) = W_Page hp hv hh hr hc := rfl
theorem pc_Page_Page_0 (hp hv hh hr hc n0 n1 n2 n3 n4 : Nat → Nat → Int32) : sv_pt [0, 1, 2, 3, 4, 5, 6, 7, 8, 9, 10, 11, 12, 13, 14, 15, 16, 17, 18, 19, 20, 21, 22, 23] ((W_Page n0 n1 n2 n3 n4).map (sv_r (sv_pi [0, 1, 2, 3, 4, 5, 6, 7, 8, 9, 10, 11, 12, 13, 14, 15, 16, 17, 18, 19, 20, 21, 22, 23]))) 0 (W_Page hp hv hh hr hc) = W_Page n0 n1 n2 n3 n4 := rfl
theorem sc_Page_Page_0 (hp hv hh hr hc : Nat → Nat → Int32) : sv_sub [0, 1, 2, 3, 4, 5, 6, 7, 8, 9, 10, 11, 12, 13, 14, 15, 16, 17, 18, 19, 20, 21, 22, 23] (W_Page hp hv hh hr hc) (W_Page hp hv hh hr hc) := rfl
theorem pc_Page_Hull_2 (hp hv hh hr hc n0 : Nat → Nat → Int32) : sv_pt [4, 5, 6, 7, 8, 9] ((W_Hull n0).map (sv_r (sv_pi [4, 5, 6, 7, 8, 9]))) 0 (W_Page hp hv hh hr hc) = W_Page hp hv n0 hr hc := rfl
theorem sc_Page_Hull_2 (hp hv hh hr hc : Nat → Nat → Int32) : sv_sub [4, 5, 6, 7, 8, 9] (W_Page hp hv hh hr hc) (W_Hull hh) := rfl
theorem pc_Page_Cargo_4 (hp hv hh hr hc n0 : Nat → Nat → Int32) : sv_pt [18, 19, 20, 21, 22, 23] ((W_Cargo n0).map (sv_r (sv_pi [18, 19, 20, 21, 22, 23]))) 0 (W_Page hp hv hh hr hc) = W_Page hp hv hh hr n0 := rfl
theorem sc_Page_Cargo_4 (hp hv hh hr hc : Nat → Nat → Int32) : sv_sub [18, 19, 20, 21, 22, 23] (W_Page hp hv hh hr hc) (W_Cargo hc) := rfl
theorem pa_Hist_1 (hy hv hh hr hc : Nat → Nat → Int32) (g : Nat → Int32) : sv_pt [1] (([.inl (0, 403, g)] : List sv_C).map (sv_r (sv_pi [1]))) 0 (W_Hist hy hv hh hr hc) = W_Hist (sr hy 1 g) hv hh hr hc := rfl
theorem su_Hist_1 (hy hv hh hr hc : Nat → Nat → Int32) : sv_sub [1] (W_Hist hy hv hh hr hc) [.inl (0, 403, hy 1)] := rfl
theorem pu_Hist_1 (hy hv hh hr hc : Nat → Nat → Int32) : sv_pt [1] (([.inl (0, 403, hy 1)] : List sv_C).map (sv_r (sv_pi [1]))) 0 (W_Hist hy hv hh hr hc) = W_Hist hy hv hh hr hc := rfl
theorem pc_Hist_Hull_2 (hy hv hh hr hc n0 : Nat → Nat → Int32) : sv_pt [4, 5, 6, 7, 8, 9] ((W_Hull n0).map (sv_r (sv_pi [4, 5, 6, 7, 8, 9]))) 0 (W_Hist hy hv hh hr hc) = W_Hist hy hv n0 hr hc := rfl
theorem sc_Hist_Hull_2 (hy hv hh hr hc : Nat → Nat → Int32) : sv_sub [4, 5, 6, 7, 8, 9] (W_Hist hy hv hh hr hc) (W_Hull hh) := rfl
theorem pc_Hist_Cargo_4 (hy hv hh hr hc n0 : Nat → Nat → Int32) : sv_pt [18, 19, 20, 21, 22, 23] ((W_Cargo n0).map (sv_r (sv_pi [18, 19, 20, 21, 22, 23]))) 0 (W_Hist hy hv hh hr hc) = W_Hist hy hv hh hr n0 := rfl
theorem sc_Hist_Cargo_4 (hy hv hh hr hc : Nat → Nat → Int32) : sv_sub [18, 19, 20, 21, 22, 23] (W_Hist hy hv hh hr hc) (W_Cargo hc) := rfl
def F_Page_byteAt (a0 : Int32) (hp : Nat → Nat → Int32) : Int32 := (if (F_K_within a0 (0 : Int32) ((hp 0 0) - (1 : Int32))) = 0 then (-1 : Int32) else (rd 64 (hp 1) a0))
theorem r_Page_byteAt {X : Nat × (Nat → Int32)} (hp hv hh hr hc : Nat → Nat → Int32) (a0 : Int32) : ∀ x, some (F_Page_byteAt a0 hp) = some x → sv_R X 2 M_Page_byteAt [.ref 0, .int a0] (W_Page hp hv hh hr hc) (some (.int x)) (W_Page hp hv hh hr hc) := by
  refine sv_Q.R (res := (fun (x : Int32) => (some (.int x), (W_Page hp hv hh hr hc)))) g_Page_byteAt rfl ?_
  unfold F_Page_byteAt
  refine sv_Q.s (σ' := (8, [some (.ref 0), some (.int a0)], [.int ((hp 0 0) - (1 : Int32)), .int (0 : Int32), .int a0], (W_Page hp hv hh hr hc))) 6 rfl ?_
  refine sv_Q.S (ps := []) (rest := []) (cs1 := []) (cs2 := []) (st' := [.int (F_K_within a0 (0 : Int32) ((hp 0 0) - (1 : Int32)))]) (cs' := (W_Page hp hv hh hr hc)) (q := (8, .null, 0, 0, 0)) lk_Page_19 (t_K_within a0 (0 : Int32) ((hp 0 0) - (1 : Int32))) rfl rfl rfl rfl rfl rfl rfl rfl rfl rfl (sv_pt_nil _ _) ?_
  refine sv_Q.sb rfl (fun c1 => ?_) (fun c1 => ?_)
  · refine sv_Q.s (σ' := (26, [some (.ref 0), some (.int a0)], [.int (-1 : Int32)], (W_Page hp hv hh hr hc))) 1 rfl ?_
    exact sv_Q.z ⟨True, rfl, trivial, rfl⟩
  · refine sv_Q.s (σ' := (19, [some (.ref 0), some (.int a0)], [.int a0, .ref 1], (W_Page hp hv hh hr hc))) 3 rfl ?_
    refine sv_Q.S (ps := [1]) (rest := []) (st' := [.int (rd 64 (hp 1) a0)]) (cs' := (W_Page hp hv hh hr hc)) (q := (19, .null, 0, 0, 0)) lk_Page_23 (t_K_read 64 rfl (hp 1) a0) rfl rfl rfl rfl rfl rfl rfl (su_Page_1 hp hv hh hr hc) rfl rfl (pu_Page_1 hp hv hh hr hc) ?_
    refine sv_Q.s (σ' := (26, [some (.ref 0), some (.int a0)], [.int (rd 64 (hp 1) a0)], (W_Page hp hv hh hr hc))) 1 rfl ?_
    exact sv_Q.z ⟨True, rfl, trivial, rfl⟩
theorem t_Page_byteAt {X : Nat × (Nat → Int32)} (hp hv hh hr hc : Nat → Nat → Int32) (a0 : Int32) : sv_R X 2 M_Page_byteAt [.ref 0, .int a0] (W_Page hp hv hh hr hc) (some (.int (F_Page_byteAt a0 hp))) (W_Page hp hv hh hr hc) := r_Page_byteAt hp hv hh hr hc a0 _ rfl
def F_Page_append (a0 : Int32) (hp : Nat → Nat → Int32) : (Nat → Nat → Int32) := (sv_let (sw hp 1 64 (hp 0 0) a0) fun (hp_1 : Nat → Nat → Int32) => (sv_let (ss hp_1 0 ((hp_1 0 0) + (1 : Int32))) fun (hp_2 : Nat → Nat → Int32) => hp_2))
theorem r_Page_append {X : Nat × (Nat → Int32)} (hp hv hh hr hc : Nat → Nat → Int32) (a0 : Int32) : ∀ x, some (F_Page_append a0 hp) = some x → sv_R X 2 M_Page_append [.ref 0, .int a0] (W_Page hp hv hh hr hc) none (W_Page x hv hh hr hc) := by
  refine sv_Q.R (res := (fun (x : (Nat → Nat → Int32)) => ((none : Option Value), (W_Page x hv hh hr hc)))) g_Page_append rfl ?_
  unfold F_Page_append
  refine sv_Q.s (σ' := (9, [some (.ref 0), some (.int a0)], [.int a0, .int (hp 0 0), .ref 1], (W_Page hp hv hh hr hc))) 5 rfl ?_
  refine sv_Q.S (ps := [1]) (rest := []) (st' := []) (cs' := (W_Page (sw hp 1 64 (hp 0 0) a0) hv hh hr hc)) (q := (9, .null, 0, 0, 0)) lk_Page_85 (t_K_write 64 rfl (hp 1) (hp 0 0) a0) rfl rfl rfl rfl rfl rfl rfl (su_Page_1 hp hv hh hr hc) rfl rfl (pa_Page_1 hp hv hh hr hc (wr 64 (hp 1) (hp 0 0) a0)) ?_
  refine sv_Q.gs (fun hp_1 => (12, [some (.ref 0), some (.int a0)], [], (W_Page hp_1 hv hh hr hc))) (fun hp_1 => ?_)
  refine sv_Q.s (σ' := (22, [some (.ref 0), some (.int a0)], [], (W_Page (ss hp_1 0 ((hp_1 0 0) + (1 : Int32))) hv hh hr hc))) 6 rfl ?_
  refine sv_Q.gs (fun hp_2 => (22, [some (.ref 0), some (.int a0)], [], (W_Page hp_2 hv hh hr hc))) (fun hp_2 => ?_)
  exact sv_Q.z ⟨True, rfl, trivial, rfl⟩
theorem t_Page_append {X : Nat × (Nat → Int32)} (hp hv hh hr hc : Nat → Nat → Int32) (a0 : Int32) : sv_R X 2 M_Page_append [.ref 0, .int a0] (W_Page hp hv hh hr hc) none (W_Page (F_Page_append a0 hp) hv hh hr hc) := r_Page_append hp hv hh hr hc a0 _ rfl
def L_Page_drawHatch_2 (N : Nat) : Nat → Int32 → (Nat → Nat → Int32) → (Nat → Nat → Int32) → Option ((Nat → Nat → Int32))
  | 0, _, _, _ => none
  | n + 1, x2, hp, hh => (if (hh 0 1) ≤ x2 then (some hp) else (sv_let (F_Page_append (61 : Int32) hp) fun (hp_2 : Nat → Nat → Int32) => (L_Page_drawHatch_2 N n (x2 + (1 : Int32)) hp_2 hh)))
theorem l_Page_drawHatch_2 {X : Nat × (Nat → Int32)} (N : Nat) : ∀ (n : Nat) (x2 : Int32) (hp hv hh hr hc : Nat → Nat → Int32), sv_Q X 2 M_Page_drawHatch (2, [some (.ref 0), some (.ref 4), some (.int x2)], [], (W_Page hp hv hh hr hc)) (L_Page_drawHatch_2 N n x2 hp hh) (fun v σ' => σ' = (22, [some (.ref 0), none, none], [], (W_Page v hv hh hr hc))) := by
  intro n
  induction n with
  | zero => intro x2 hp hv hh hr hc; unfold L_Page_drawHatch_2; exact sv_Q.non
  | succ n ih =>
    intro x2 hp hv hh hr hc
    unfold L_Page_drawHatch_2
    refine sv_Q.s (σ' := (7, [some (.ref 0), some (.ref 4), some (.int x2)], [.int (hh 0 1), .int x2], (W_Page hp hv hh hr hc))) 3 rfl ?_
    refine sv_Q.b rfl (fun c1 => ?_) (fun c1 => ?_)
    · refine sv_Q.f (lo' := [some (.ref 0), none, none]) ⟨rfl, trivial⟩ ?_
      exact sv_Q.z rfl
    · refine sv_Q.s (σ' := (13, [some (.ref 0), some (.ref 4), some (.int x2)], [.int (61 : Int32), .ref 0], (W_Page hp hv hh hr hc))) 2 rfl ?_
      refine sv_Q.V (b := 0) (av := [.int (61 : Int32)]) (ps := [0, 1, 2, 3, 4, 5, 6, 7, 8, 9, 10, 11, 12, 13, 14, 15, 16, 17, 18, 19, 20, 21, 22, 23]) (rest := []) (cs1 := (W_Page hp hv hh hr hc)) (cs2 := (W_Page (F_Page_append (61 : Int32) hp) hv hh hr hc)) (st' := []) (cs' := (W_Page (F_Page_append (61 : Int32) hp) hv hh hr hc)) (q := (13, .null, 0, 0, 0)) lk_Page_62 (t_Page_append hp hv hh hr hc (61 : Int32)) rfl rfl rfl rfl rfl (Or.inl ⟨4, _, _, rfl, rfl, rfl⟩) rfl rfl (sc_Page_Page_0 hp hv hh hr hc) rfl rfl (pc_Page_Page_0 hp hv hh hr hc (F_Page_append (61 : Int32) hp) hv hh hr hc) ?_
      refine sv_Q.go (fun hp_2 => (16, [some (.ref 0), some (.ref 4), some (.int x2)], [], (W_Page hp_2 hv hh hr hc))) (fun hp_2 => ?_)
      refine sv_Q.s (σ' := (2, [some (.ref 0), some (.ref 4), some (.int (x2 + (1 : Int32)))], [], (W_Page hp_2 hv hh hr hc))) 2 rfl ?_
      exact ih (x2 + (1 : Int32)) hp_2 hv hh hr hc
def F_Page_drawHatch (N : Nat) (hp hh : Nat → Nat → Int32) : Option ((Nat → Nat → Int32)) := (Option.bind (L_Page_drawHatch_2 N N (0 : Int32) hp hh) fun (v3 : (Nat → Nat → Int32)) => (sv_let (F_Page_append (10 : Int32) v3) fun (hp_4 : Nat → Nat → Int32) => (some hp_4)))
theorem r_Page_drawHatch {X : Nat × (Nat → Int32)} (N : Nat) (hp hv hh hr hc : Nat → Nat → Int32) : ∀ x, (F_Page_drawHatch N hp hh) = some x → sv_R X 3 M_Page_drawHatch [.ref 0, .ref 4] (W_Page hp hv hh hr hc) none (W_Page x hv hh hr hc) := by
  refine sv_Q.R (res := (fun (x : (Nat → Nat → Int32)) => ((none : Option Value), (W_Page x hv hh hr hc)))) g_Page_drawHatch rfl ?_
  unfold F_Page_drawHatch
  refine sv_Q.s (σ' := (2, [some (.ref 0), some (.ref 4), some (.int (0 : Int32))], [], (W_Page hp hv hh hr hc))) 2 rfl ?_
  refine sv_Q.lo (fun v3 => (22, [some (.ref 0), none, none], [], (W_Page v3 hv hh hr hc))) (fun v3 => ?_) (l_Page_drawHatch_2 N N (0 : Int32) hp hv hh hr hc)
  · refine sv_Q.s (σ' := (25, [some (.ref 0), none, none], [.int (10 : Int32), .ref 0], (W_Page v3 hv hh hr hc))) 2 rfl ?_
    refine sv_Q.V (b := 0) (av := [.int (10 : Int32)]) (ps := [0, 1, 2, 3, 4, 5, 6, 7, 8, 9, 10, 11, 12, 13, 14, 15, 16, 17, 18, 19, 20, 21, 22, 23]) (rest := []) (cs1 := (W_Page v3 hv hh hr hc)) (cs2 := (W_Page (F_Page_append (10 : Int32) v3) hv hh hr hc)) (st' := []) (cs' := (W_Page (F_Page_append (10 : Int32) v3) hv hh hr hc)) (q := (25, .null, 0, 0, 0)) lk_Page_62 (t_Page_append v3 hv hh hr hc (10 : Int32)) rfl rfl rfl rfl rfl (Or.inl ⟨4, _, _, rfl, rfl, rfl⟩) rfl rfl (sc_Page_Page_0 v3 hv hh hr hc) rfl rfl (pc_Page_Page_0 v3 hv hh hr hc (F_Page_append (10 : Int32) v3) hv hh hr hc) ?_
    refine sv_Q.go (fun hp_4 => (28, [some (.ref 0), none, none], [], (W_Page hp_4 hv hh hr hc))) (fun hp_4 => ?_)
    exact sv_Q.z ⟨True, rfl, trivial, rfl⟩
def L_Page_drawBay_54 (N : Nat) : Nat → Int32 → Int32 → Int32 → (Nat → Nat → Int32) → (Nat → Nat → Int32) → (Nat → Nat → Int32) → Option ((Nat → Nat → Int32))
  | 0, _, _, _, _, _, _ => none
  | n + 1, x2, x4, x5, hp, hh, hc => (if (hh 0 1) ≤ x5 then (some hp) else (sv_let (if ¬ (F_Cargo_boxAt ((F_Hull_lowestOf x2 x5 (0 : Int32) hh) + x4) hc) = (-1 : Int32) then ((97 : Int32) + (F_Cargo_boxAt ((F_Hull_lowestOf x2 x5 (0 : Int32) hh) + x4) hc)) else (46 : Int32)) fun (v10 : Int32) => (sv_let (F_Page_append v10 hp) fun (hp_11 : Nat → Nat → Int32) => (L_Page_drawBay_54 N n x2 x4 (x5 + (1 : Int32)) hp_11 hh hc))))
theorem l_Page_drawBay_54 {X : Nat × (Nat → Int32)} (N : Nat) : ∀ (n : Nat) (x2 : Int32) (x4 : Int32) (x5 : Int32) (hp hv hh hr hc : Nat → Nat → Int32), sv_Q X 3 M_Page_drawBay (54, [some (.ref 0), some (.ref 2), some (.int x2), some (.ref 4), some (.int x4), some (.int x5), none], [], (W_Page hp hv hh hr hc)) (L_Page_drawBay_54 N n x2 x4 x5 hp hh hc) (fun v σ' => σ' = (109, [some (.ref 0), some (.ref 2), some (.int x2), some (.ref 4), some (.int x4), none, none], [], (W_Page v hv hh hr hc))) := by
  intro n
  induction n with
  | zero => intro x2 x4 x5 hp hv hh hr hc; unfold L_Page_drawBay_54; exact sv_Q.non
  | succ n ih =>
    intro x2 x4 x5 hp hv hh hr hc
    unfold L_Page_drawBay_54
    refine sv_Q.s (σ' := (60, [some (.ref 0), some (.ref 2), some (.int x2), some (.ref 4), some (.int x4), some (.int x5), none], [.int (hh 0 1), .int x5], (W_Page hp hv hh hr hc))) 3 rfl ?_
    refine sv_Q.b rfl (fun c8 => ?_) (fun c8 => ?_)
    · refine sv_Q.f (lo' := [some (.ref 0), some (.ref 2), some (.int x2), some (.ref 4), some (.int x4), none, none]) ⟨rfl, ⟨rfl, ⟨rfl, ⟨rfl, ⟨rfl, trivial⟩⟩⟩⟩⟩ ?_
      exact sv_Q.z rfl
    · refine sv_Q.s (σ' := (72, [some (.ref 0), some (.ref 2), some (.int x2), some (.ref 4), some (.int x4), some (.int x5), none], [.int (0 : Int32), .int x5, .int x2, .ref 4, .ref 18], (W_Page hp hv hh hr hc))) 6 rfl ?_
      refine sv_Q.V (b := 0) (av := [.int x2, .int x5, .int (0 : Int32)]) (ps := [4, 5, 6, 7, 8, 9]) (rest := [.ref 18]) (cs1 := (W_Hull hh)) (cs2 := (W_Hull hh)) (st' := [.int (F_Hull_lowestOf x2 x5 (0 : Int32) hh), .ref 18]) (cs' := (W_Page hp hv hh hr hc)) (q := (72, .null, 0, 0, 0)) lk_Page_52 (t_Hull_lowestOf hh x2 x5 (0 : Int32)) rfl rfl rfl rfl rfl (Or.inl ⟨2, _, _, rfl, rfl, rfl⟩) rfl rfl (sc_Page_Hull_2 hp hv hh hr hc) rfl rfl (pc_Page_Hull_2 hp hv hh hr hc hh) ?_
      refine sv_Q.s (σ' := (78, [some (.ref 0), some (.ref 2), some (.int x2), some (.ref 4), some (.int x4), some (.int x5), none], [.int ((F_Hull_lowestOf x2 x5 (0 : Int32) hh) + x4), .ref 18], (W_Page hp hv hh hr hc))) 2 rfl ?_
      refine sv_Q.V (b := 0) (av := [.int ((F_Hull_lowestOf x2 x5 (0 : Int32) hh) + x4)]) (ps := [18, 19, 20, 21, 22, 23]) (rest := []) (cs1 := (W_Cargo hc)) (cs2 := (W_Cargo hc)) (st' := [.int (F_Cargo_boxAt ((F_Hull_lowestOf x2 x5 (0 : Int32) hh) + x4) hc)]) (cs' := (W_Page hp hv hh hr hc)) (q := (78, .null, 0, 0, 0)) lk_Page_56 (t_Cargo_boxAt hc ((F_Hull_lowestOf x2 x5 (0 : Int32) hh) + x4)) rfl rfl rfl rfl rfl (Or.inl ⟨0, _, _, rfl, rfl, rfl⟩) rfl rfl (sc_Page_Cargo_4 hp hv hh hr hc) rfl rfl (pc_Page_Cargo_4 hp hv hh hr hc hc) ?_
      refine sv_Q.s (σ' := (87, [some (.ref 0), some (.ref 2), some (.int x2), some (.ref 4), some (.int x4), some (.int x5), some (.int (F_Cargo_boxAt ((F_Hull_lowestOf x2 x5 (0 : Int32) hh) + x4) hc))], [.int (-1 : Int32), .int (F_Cargo_boxAt ((F_Hull_lowestOf x2 x5 (0 : Int32) hh) + x4) hc), .ref 0], (W_Page hp hv hh hr hc))) 4 rfl ?_
      refine sv_Q.l (fun v10 => (100, [some (.ref 0), some (.ref 2), some (.int x2), some (.ref 4), some (.int x4), some (.int x5), none], [.int v10, .ref 0], (W_Page hp hv hh hr hc))) (fun v10 => ?_) ?_
      · refine sv_Q.V (b := 0) (av := [.int v10]) (ps := [0, 1, 2, 3, 4, 5, 6, 7, 8, 9, 10, 11, 12, 13, 14, 15, 16, 17, 18, 19, 20, 21, 22, 23]) (rest := []) (cs1 := (W_Page hp hv hh hr hc)) (cs2 := (W_Page (F_Page_append v10 hp) hv hh hr hc)) (st' := []) (cs' := (W_Page (F_Page_append v10 hp) hv hh hr hc)) (q := (100, .null, 0, 0, 0)) lk_Page_62 (t_Page_append hp hv hh hr hc v10) rfl rfl rfl rfl rfl (Or.inl ⟨4, _, _, rfl, rfl, rfl⟩) rfl rfl (sc_Page_Page_0 hp hv hh hr hc) rfl rfl (pc_Page_Page_0 hp hv hh hr hc (F_Page_append v10 hp) hv hh hr hc) ?_
        refine sv_Q.go (fun hp_11 => (103, [some (.ref 0), some (.ref 2), some (.int x2), some (.ref 4), some (.int x4), some (.int x5), none], [], (W_Page hp_11 hv hh hr hc))) (fun hp_11 => ?_)
        refine sv_Q.s (σ' := (54, [some (.ref 0), some (.ref 2), some (.int x2), some (.ref 4), some (.int x4), some (.int (x5 + (1 : Int32))), none], [], (W_Page hp_11 hv hh hr hc))) 2 rfl ?_
        exact ih x2 x4 (x5 + (1 : Int32)) hp_11 hv hh hr hc
      · refine sv_Q.sb rfl (fun c9 => ?_) (fun c9 => ?_)
        · refine sv_Q.s (σ' := (100, [some (.ref 0), some (.ref 2), some (.int x2), some (.ref 4), some (.int x4), some (.int x5), some (.int (F_Cargo_boxAt ((F_Hull_lowestOf x2 x5 (0 : Int32) hh) + x4) hc))], [.int ((97 : Int32) + (F_Cargo_boxAt ((F_Hull_lowestOf x2 x5 (0 : Int32) hh) + x4) hc)), .ref 0], (W_Page hp hv hh hr hc))) 3 rfl ?_
          refine sv_Q.f (lo' := [some (.ref 0), some (.ref 2), some (.int x2), some (.ref 4), some (.int x4), some (.int x5), none]) ⟨rfl, ⟨rfl, ⟨rfl, ⟨rfl, ⟨rfl, ⟨rfl, trivial⟩⟩⟩⟩⟩⟩ ?_
          exact sv_Q.z rfl
        · refine sv_Q.s (σ' := (100, [some (.ref 0), some (.ref 2), some (.int x2), some (.ref 4), some (.int x4), some (.int x5), some (.int (F_Cargo_boxAt ((F_Hull_lowestOf x2 x5 (0 : Int32) hh) + x4) hc))], [.int (46 : Int32), .ref 0], (W_Page hp hv hh hr hc))) 2 rfl ?_
          refine sv_Q.f (lo' := [some (.ref 0), some (.ref 2), some (.int x2), some (.ref 4), some (.int x4), some (.int x5), none]) ⟨rfl, ⟨rfl, ⟨rfl, ⟨rfl, ⟨rfl, ⟨rfl, trivial⟩⟩⟩⟩⟩⟩ ?_
          exact sv_Q.z rfl
def L_Page_drawBay_23 (N : Nat) : Nat → Int32 → Int32 → (Nat → Nat → Int32) → (Nat → Nat → Int32) → (Nat → Nat → Int32) → Option ((Nat → Nat → Int32))
  | 0, _, _, _, _, _ => none
  | n + 1, x2, x4, hp, hh, hc => (if x4 < 0 then (some hp) else (Option.bind (if ¬ x4 = ((hh 0 2) - (1 : Int32)) then some hp else (if (hh 0 3) ≤ 0 then some hp else (Option.bind (F_Page_drawHatch N hp hh) fun (v5 : (Nat → Nat → Int32)) => some v5))) fun (v7 : (Nat → Nat → Int32)) => (Option.bind (L_Page_drawBay_54 N N x2 x4 (0 : Int32) v7 hh hc) fun (v12 : (Nat → Nat → Int32)) => (sv_let (F_Page_append (10 : Int32) v12) fun (hp_13 : Nat → Nat → Int32) => (L_Page_drawBay_23 N n x2 (x4 + (-1 : Int32)) hp_13 hh hc)))))
theorem l_Page_drawBay_23 {X : Nat × (Nat → Int32)} (N : Nat) : ∀ (n : Nat) (x2 : Int32) (x4 : Int32) (hp hv hh hr hc : Nat → Nat → Int32), sv_Q X 3 M_Page_drawBay (23, [some (.ref 0), some (.ref 2), some (.int x2), some (.ref 4), some (.int x4), none, none], [], (W_Page hp hv hh hr hc)) (L_Page_drawBay_23 N n x2 x4 hp hh hc) (fun v σ' => σ' = (121, [none, none, none, none, none, none, none], [], (W_Page v hv hh hr hc))) := by
  intro n
  induction n with
  | zero => intro x2 x4 hp hv hh hr hc; unfold L_Page_drawBay_23; exact sv_Q.non
  | succ n ih =>
    intro x2 x4 hp hv hh hr hc
    unfold L_Page_drawBay_23
    refine sv_Q.s (σ' := (25, [some (.ref 0), some (.ref 2), some (.int x2), some (.ref 4), some (.int x4), none, none], [.int x4], (W_Page hp hv hh hr hc))) 1 rfl ?_
    refine sv_Q.b rfl (fun c2 => ?_) (fun c2 => ?_)
    · refine sv_Q.f (lo' := [none, none, none, none, none, none, none]) trivial ?_
      exact sv_Q.z rfl
    · refine sv_Q.s (σ' := (36, [some (.ref 0), some (.ref 2), some (.int x2), some (.ref 4), some (.int x4), none, none], [.int ((hh 0 2) - (1 : Int32)), .int x4], (W_Page hp hv hh hr hc))) 5 rfl ?_
      refine sv_Q.lo (fun v7 => (51, [some (.ref 0), some (.ref 2), some (.int x2), some (.ref 4), some (.int x4), none, none], [], (W_Page v7 hv hh hr hc))) (fun v7 => ?_) ?_
      · refine sv_Q.s (σ' := (54, [some (.ref 0), some (.ref 2), some (.int x2), some (.ref 4), some (.int x4), some (.int (0 : Int32)), none], [], (W_Page v7 hv hh hr hc))) 2 rfl ?_
        refine sv_Q.lo (fun v12 => (109, [some (.ref 0), some (.ref 2), some (.int x2), some (.ref 4), some (.int x4), none, none], [], (W_Page v12 hv hh hr hc))) (fun v12 => ?_) (l_Page_drawBay_54 N N x2 x4 (0 : Int32) v7 hv hh hr hc)
        · refine sv_Q.s (σ' := (112, [some (.ref 0), some (.ref 2), some (.int x2), some (.ref 4), some (.int x4), none, none], [.int (10 : Int32), .ref 0], (W_Page v12 hv hh hr hc))) 2 rfl ?_
          refine sv_Q.V (b := 0) (av := [.int (10 : Int32)]) (ps := [0, 1, 2, 3, 4, 5, 6, 7, 8, 9, 10, 11, 12, 13, 14, 15, 16, 17, 18, 19, 20, 21, 22, 23]) (rest := []) (cs1 := (W_Page v12 hv hh hr hc)) (cs2 := (W_Page (F_Page_append (10 : Int32) v12) hv hh hr hc)) (st' := []) (cs' := (W_Page (F_Page_append (10 : Int32) v12) hv hh hr hc)) (q := (112, .null, 0, 0, 0)) lk_Page_62 (t_Page_append v12 hv hh hr hc (10 : Int32)) rfl rfl rfl rfl rfl (Or.inl ⟨4, _, _, rfl, rfl, rfl⟩) rfl rfl (sc_Page_Page_0 v12 hv hh hr hc) rfl rfl (pc_Page_Page_0 v12 hv hh hr hc (F_Page_append (10 : Int32) v12) hv hh hr hc) ?_
          refine sv_Q.go (fun hp_13 => (115, [some (.ref 0), some (.ref 2), some (.int x2), some (.ref 4), some (.int x4), none, none], [], (W_Page hp_13 hv hh hr hc))) (fun hp_13 => ?_)
          refine sv_Q.s (σ' := (23, [some (.ref 0), some (.ref 2), some (.int x2), some (.ref 4), some (.int (x4 + (-1 : Int32))), none, none], [], (W_Page hp_13 hv hh hr hc))) 2 rfl ?_
          exact ih x2 (x4 + (-1 : Int32)) hp_13 hv hh hr hc
      · refine sv_Q.b rfl (fun c3 => ?_) (fun c3 => ?_)
        · exact sv_Q.z rfl
        · refine sv_Q.s (σ' := (43, [some (.ref 0), some (.ref 2), some (.int x2), some (.ref 4), some (.int x4), none, none], [.int (hh 0 3)], (W_Page hp hv hh hr hc))) 2 rfl ?_
          refine sv_Q.b rfl (fun c4 => ?_) (fun c4 => ?_)
          · exact sv_Q.z rfl
          · refine sv_Q.s (σ' := (48, [some (.ref 0), some (.ref 2), some (.int x2), some (.ref 4), some (.int x4), none, none], [.ref 4, .ref 0], (W_Page hp hv hh hr hc))) 2 rfl ?_
            refine sv_Q.o (fun v5 e6 => ?_)
            refine sv_Q.V (b := 0) (av := [.ref 4]) (ps := [0, 1, 2, 3, 4, 5, 6, 7, 8, 9, 10, 11, 12, 13, 14, 15, 16, 17, 18, 19, 20, 21, 22, 23]) (rest := []) (cs1 := (W_Page hp hv hh hr hc)) (cs2 := (W_Page v5 hv hh hr hc)) (st' := []) (cs' := (W_Page v5 hv hh hr hc)) (q := (48, .null, 0, 0, 0)) lk_Page_41 (r_Page_drawHatch N hp hv hh hr hc v5 e6) rfl rfl rfl rfl rfl (Or.inl ⟨4, _, _, rfl, rfl, rfl⟩) rfl rfl (sc_Page_Page_0 hp hv hh hr hc) rfl rfl (pc_Page_Page_0 hp hv hh hr hc v5 hv hh hr hc) ?_
            exact sv_Q.z rfl
def F_Page_drawBay (N : Nat) (a1 : Int32) (hp hh hc : Nat → Nat → Int32) : Option ((Nat → Nat → Int32)) := (sv_let (ss hp 0 (0 : Int32)) fun (hp_1 : Nat → Nat → Int32) => (Option.bind (L_Page_drawBay_23 N N a1 (((hh 0 2) + (hh 0 3)) - (1 : Int32)) hp_1 hh hc) fun (v14 : (Nat → Nat → Int32)) => (some v14)))
theorem r_Page_drawBay {X : Nat × (Nat → Int32)} (N : Nat) (hp hv hh hr hc : Nat → Nat → Int32) (a1 : Int32) : ∀ x, (F_Page_drawBay N a1 hp hh hc) = some x → sv_R X 4 M_Page_drawBay [.ref 0, .ref 2, .int a1] (W_Page hp hv hh hr hc) none (W_Page x hv hh hr hc) := by
  refine sv_Q.R (res := (fun (x : (Nat → Nat → Int32)) => ((none : Option Value), (W_Page x hv hh hr hc)))) g_Page_drawBay rfl ?_
  unfold F_Page_drawBay
  refine sv_Q.s (σ' := (10, [some (.ref 0), some (.ref 2), some (.int a1), some (.ref 4), none, none, none], [], (W_Page (ss hp 0 (0 : Int32)) hv hh hr hc))) 6 rfl ?_
  refine sv_Q.go (fun hp_1 => (10, [some (.ref 0), some (.ref 2), some (.int a1), some (.ref 4), none, none, none], [], (W_Page hp_1 hv hh hr hc))) (fun hp_1 => ?_)
  refine sv_Q.s (σ' := (23, [some (.ref 0), some (.ref 2), some (.int a1), some (.ref 4), some (.int (((hh 0 2) + (hh 0 3)) - (1 : Int32))), none, none], [], (W_Page hp_1 hv hh hr hc))) 8 rfl ?_
  refine sv_Q.lo (fun v14 => (121, [none, none, none, none, none, none, none], [], (W_Page v14 hv hh hr hc))) (fun v14 => ?_) (l_Page_drawBay_23 N N a1 (((hh 0 2) + (hh 0 3)) - (1 : Int32)) hp_1 hv hh hr hc)
  · exact sv_Q.z ⟨True, rfl, trivial, rfl⟩
def F_Page_appendNumber (a0 : Int32) (hp : Nat → Nat → Int32) : (Nat → Nat → Int32) := (sv_let (if a0 < (100 : Int32) then hp else (sv_let (F_Page_append ((48 : Int32) + (a0 / (100 : Int32))) hp) fun (hp_2 : Nat → Nat → Int32) => hp_2)) fun (v3 : (Nat → Nat → Int32)) => (sv_let (if a0 < (10 : Int32) then v3 else (sv_let (F_Page_append ((48 : Int32) + ((a0 / (10 : Int32)) - (a0 / (10 : Int32)) / (10 : Int32) * (10 : Int32))) v3) fun (hp_5 : Nat → Nat → Int32) => hp_5)) fun (v6 : (Nat → Nat → Int32)) => (sv_let (F_Page_append ((48 : Int32) + (a0 - a0 / (10 : Int32) * (10 : Int32))) v6) fun (hp_7 : Nat → Nat → Int32) => hp_7)))
theorem r_Page_appendNumber {X : Nat × (Nat → Int32)} (hp hv hh hr hc : Nat → Nat → Int32) (a0 : Int32) : ∀ x, some (F_Page_appendNumber a0 hp) = some x → sv_R X 3 M_Page_appendNumber [.ref 0, .int a0] (W_Page hp hv hh hr hc) none (W_Page x hv hh hr hc) := by
  refine sv_Q.R (res := (fun (x : (Nat → Nat → Int32)) => ((none : Option Value), (W_Page x hv hh hr hc)))) g_Page_appendNumber rfl ?_
  unfold F_Page_appendNumber
  refine sv_Q.s (σ' := (3, [some (.ref 0), some (.int a0)], [.int (100 : Int32), .int a0], (W_Page hp hv hh hr hc))) 2 rfl ?_
  refine sv_Q.sl (fun v3 => (17, [some (.ref 0), some (.int a0)], [], (W_Page v3 hv hh hr hc))) (fun v3 => ?_) ?_
  · refine sv_Q.s (σ' := (20, [some (.ref 0), some (.int a0)], [.int (10 : Int32), .int a0], (W_Page v3 hv hh hr hc))) 2 rfl ?_
    refine sv_Q.sl (fun v6 => (37, [some (.ref 0), some (.int a0)], [], (W_Page v6 hv hh hr hc))) (fun v6 => ?_) ?_
    · refine sv_Q.s (σ' := (43, [some (.ref 0), some (.int a0)], [.int (10 : Int32), .int a0, .int (48 : Int32), .ref 0], (W_Page v6 hv hh hr hc))) 4 rfl ?_
      refine sv_Q.gk (σ' := (44, [some (.ref 0), some (.int a0)], [.int (a0 - a0 / (10 : Int32) * (10 : Int32)), .int (48 : Int32), .ref 0], (W_Page v6 hv hh hr hc))) (c := ¬ (10 : Int32) = 0) rfl (by decide) ?_
      refine sv_Q.s (σ' := (45, [some (.ref 0), some (.int a0)], [.int ((48 : Int32) + (a0 - a0 / (10 : Int32) * (10 : Int32))), .ref 0], (W_Page v6 hv hh hr hc))) 1 rfl ?_
      refine sv_Q.V (b := 0) (av := [.int ((48 : Int32) + (a0 - a0 / (10 : Int32) * (10 : Int32)))]) (ps := [0, 1, 2, 3, 4, 5, 6, 7, 8, 9, 10, 11, 12, 13, 14, 15, 16, 17, 18, 19, 20, 21, 22, 23]) (rest := []) (cs1 := (W_Page v6 hv hh hr hc)) (cs2 := (W_Page (F_Page_append ((48 : Int32) + (a0 - a0 / (10 : Int32) * (10 : Int32))) v6) hv hh hr hc)) (st' := []) (cs' := (W_Page (F_Page_append ((48 : Int32) + (a0 - a0 / (10 : Int32) * (10 : Int32))) v6) hv hh hr hc)) (q := (45, .null, 0, 0, 0)) lk_Page_62 (t_Page_append v6 hv hh hr hc ((48 : Int32) + (a0 - a0 / (10 : Int32) * (10 : Int32)))) rfl rfl rfl rfl rfl (Or.inl ⟨4, _, _, rfl, rfl, rfl⟩) rfl rfl (sc_Page_Page_0 v6 hv hh hr hc) rfl rfl (pc_Page_Page_0 v6 hv hh hr hc (F_Page_append ((48 : Int32) + (a0 - a0 / (10 : Int32) * (10 : Int32))) v6) hv hh hr hc) ?_
      refine sv_Q.gs (fun hp_7 => (48, [some (.ref 0), some (.int a0)], [], (W_Page hp_7 hv hh hr hc))) (fun hp_7 => ?_)
      exact sv_Q.z ⟨True, rfl, trivial, rfl⟩
    · refine sv_Q.sb rfl (fun c4 => ?_) (fun c4 => ?_)
      · exact sv_Q.z rfl
      · refine sv_Q.s (σ' := (29, [some (.ref 0), some (.int a0)], [.int (10 : Int32), .int a0, .int (48 : Int32), .ref 0], (W_Page v3 hv hh hr hc))) 4 rfl ?_
        refine sv_Q.gk (σ' := (30, [some (.ref 0), some (.int a0)], [.int (a0 / (10 : Int32)), .int (48 : Int32), .ref 0], (W_Page v3 hv hh hr hc))) (c := ¬ (10 : Int32) = 0) rfl (by decide) ?_
        refine sv_Q.s (σ' := (32, [some (.ref 0), some (.int a0)], [.int (10 : Int32), .int (a0 / (10 : Int32)), .int (48 : Int32), .ref 0], (W_Page v3 hv hh hr hc))) 1 rfl ?_
        refine sv_Q.gk (σ' := (33, [some (.ref 0), some (.int a0)], [.int ((a0 / (10 : Int32)) - (a0 / (10 : Int32)) / (10 : Int32) * (10 : Int32)), .int (48 : Int32), .ref 0], (W_Page v3 hv hh hr hc))) (c := ¬ (10 : Int32) = 0) rfl (by decide) ?_
        refine sv_Q.s (σ' := (34, [some (.ref 0), some (.int a0)], [.int ((48 : Int32) + ((a0 / (10 : Int32)) - (a0 / (10 : Int32)) / (10 : Int32) * (10 : Int32))), .ref 0], (W_Page v3 hv hh hr hc))) 1 rfl ?_
        refine sv_Q.V (b := 0) (av := [.int ((48 : Int32) + ((a0 / (10 : Int32)) - (a0 / (10 : Int32)) / (10 : Int32) * (10 : Int32)))]) (ps := [0, 1, 2, 3, 4, 5, 6, 7, 8, 9, 10, 11, 12, 13, 14, 15, 16, 17, 18, 19, 20, 21, 22, 23]) (rest := []) (cs1 := (W_Page v3 hv hh hr hc)) (cs2 := (W_Page (F_Page_append ((48 : Int32) + ((a0 / (10 : Int32)) - (a0 / (10 : Int32)) / (10 : Int32) * (10 : Int32))) v3) hv hh hr hc)) (st' := []) (cs' := (W_Page (F_Page_append ((48 : Int32) + ((a0 / (10 : Int32)) - (a0 / (10 : Int32)) / (10 : Int32) * (10 : Int32))) v3) hv hh hr hc)) (q := (34, .null, 0, 0, 0)) lk_Page_62 (t_Page_append v3 hv hh hr hc ((48 : Int32) + ((a0 / (10 : Int32)) - (a0 / (10 : Int32)) / (10 : Int32) * (10 : Int32)))) rfl rfl rfl rfl rfl (Or.inl ⟨4, _, _, rfl, rfl, rfl⟩) rfl rfl (sc_Page_Page_0 v3 hv hh hr hc) rfl rfl (pc_Page_Page_0 v3 hv hh hr hc (F_Page_append ((48 : Int32) + ((a0 / (10 : Int32)) - (a0 / (10 : Int32)) / (10 : Int32) * (10 : Int32))) v3) hv hh hr hc) ?_
        refine sv_Q.gs (fun hp_5 => (37, [some (.ref 0), some (.int a0)], [], (W_Page hp_5 hv hh hr hc))) (fun hp_5 => ?_)
        exact sv_Q.z rfl
  · refine sv_Q.sb rfl (fun c1 => ?_) (fun c1 => ?_)
    · exact sv_Q.z rfl
    · refine sv_Q.s (σ' := (12, [some (.ref 0), some (.int a0)], [.int (100 : Int32), .int a0, .int (48 : Int32), .ref 0], (W_Page hp hv hh hr hc))) 4 rfl ?_
      refine sv_Q.gk (σ' := (13, [some (.ref 0), some (.int a0)], [.int (a0 / (100 : Int32)), .int (48 : Int32), .ref 0], (W_Page hp hv hh hr hc))) (c := ¬ (100 : Int32) = 0) rfl (by decide) ?_
      refine sv_Q.s (σ' := (14, [some (.ref 0), some (.int a0)], [.int ((48 : Int32) + (a0 / (100 : Int32))), .ref 0], (W_Page hp hv hh hr hc))) 1 rfl ?_
      refine sv_Q.V (b := 0) (av := [.int ((48 : Int32) + (a0 / (100 : Int32)))]) (ps := [0, 1, 2, 3, 4, 5, 6, 7, 8, 9, 10, 11, 12, 13, 14, 15, 16, 17, 18, 19, 20, 21, 22, 23]) (rest := []) (cs1 := (W_Page hp hv hh hr hc)) (cs2 := (W_Page (F_Page_append ((48 : Int32) + (a0 / (100 : Int32))) hp) hv hh hr hc)) (st' := []) (cs' := (W_Page (F_Page_append ((48 : Int32) + (a0 / (100 : Int32))) hp) hv hh hr hc)) (q := (14, .null, 0, 0, 0)) lk_Page_62 (t_Page_append hp hv hh hr hc ((48 : Int32) + (a0 / (100 : Int32)))) rfl rfl rfl rfl rfl (Or.inl ⟨4, _, _, rfl, rfl, rfl⟩) rfl rfl (sc_Page_Page_0 hp hv hh hr hc) rfl rfl (pc_Page_Page_0 hp hv hh hr hc (F_Page_append ((48 : Int32) + (a0 / (100 : Int32))) hp) hv hh hr hc) ?_
      refine sv_Q.gs (fun hp_2 => (17, [some (.ref 0), some (.int a0)], [], (W_Page hp_2 hv hh hr hc))) (fun hp_2 => ?_)
      exact sv_Q.z rfl
theorem t_Page_appendNumber {X : Nat × (Nat → Int32)} (hp hv hh hr hc : Nat → Nat → Int32) (a0 : Int32) : sv_R X 3 M_Page_appendNumber [.ref 0, .int a0] (W_Page hp hv hh hr hc) none (W_Page (F_Page_appendNumber a0 hp) hv hh hr hc) := r_Page_appendNumber hp hv hh hr hc a0 _ rfl
def F_Page_writeBox (a1 : Int32) (hp hc : Nat → Nat → Int32) : (Nat → Nat → Int32) := (sv_let (ss hp 0 (0 : Int32)) fun (hp_1 : Nat → Nat → Int32) => (sv_let (F_Page_append ((97 : Int32) + a1) hp_1) fun (hp_2 : Nat → Nat → Int32) => (sv_let (F_Page_append (32 : Int32) hp_2) fun (hp_3 : Nat → Nat → Int32) => (sv_let (F_Page_appendNumber (F_Cargo_kindOf a1 hc) hp_3) fun (hp_4 : Nat → Nat → Int32) => (sv_let (F_Page_append (32 : Int32) hp_4) fun (hp_5 : Nat → Nat → Int32) => (sv_let (F_Page_appendNumber (F_Cargo_weightOf a1 hc) hp_5) fun (hp_6 : Nat → Nat → Int32) => (sv_let (F_Page_append (32 : Int32) hp_6) fun (hp_7 : Nat → Nat → Int32) => (sv_let (F_Page_appendNumber (F_Cargo_portOf a1 hc) hp_7) fun (hp_8 : Nat → Nat → Int32) => (sv_let (F_Page_append (32 : Int32) hp_8) fun (hp_9 : Nat → Nat → Int32) => (if (F_Cargo_lies a1 hc) = 0 then (sv_let (F_Page_append (45 : Int32) hp_9) fun (hp_11 : Nat → Nat → Int32) => hp_11) else (sv_let (F_Page_appendNumber (F_Cargo_placeOf a1 hc) hp_9) fun (hp_12 : Nat → Nat → Int32) => hp_12)))))))))))
theorem r_Page_writeBox {X : Nat × (Nat → Int32)} (hp hv hh hr hc : Nat → Nat → Int32) (a1 : Int32) : ∀ x, some (F_Page_writeBox a1 hp hc) = some x → sv_R X 4 M_Page_writeBox [.ref 0, .ref 18, .int a1] (W_Page hp hv hh hr hc) none (W_Page x hv hh hr hc) := by
  refine sv_Q.R (res := (fun (x : (Nat → Nat → Int32)) => ((none : Option Value), (W_Page x hv hh hr hc)))) g_Page_writeBox rfl ?_
  unfold F_Page_writeBox
  refine sv_Q.s (σ' := (5, [some (.ref 0), some (.ref 18), some (.int a1)], [], (W_Page (ss hp 0 (0 : Int32)) hv hh hr hc))) 3 rfl ?_
  refine sv_Q.gs (fun hp_1 => (5, [some (.ref 0), some (.ref 18), some (.int a1)], [], (W_Page hp_1 hv hh hr hc))) (fun hp_1 => ?_)
  refine sv_Q.s (σ' := (10, [some (.ref 0), some (.ref 18), some (.int a1)], [.int ((97 : Int32) + a1), .ref 0], (W_Page hp_1 hv hh hr hc))) 4 rfl ?_
  refine sv_Q.V (b := 0) (av := [.int ((97 : Int32) + a1)]) (ps := [0, 1, 2, 3, 4, 5, 6, 7, 8, 9, 10, 11, 12, 13, 14, 15, 16, 17, 18, 19, 20, 21, 22, 23]) (rest := []) (cs1 := (W_Page hp_1 hv hh hr hc)) (cs2 := (W_Page (F_Page_append ((97 : Int32) + a1) hp_1) hv hh hr hc)) (st' := []) (cs' := (W_Page (F_Page_append ((97 : Int32) + a1) hp_1) hv hh hr hc)) (q := (10, .null, 0, 0, 0)) lk_Page_62 (t_Page_append hp_1 hv hh hr hc ((97 : Int32) + a1)) rfl rfl rfl rfl rfl (Or.inl ⟨4, _, _, rfl, rfl, rfl⟩) rfl rfl (sc_Page_Page_0 hp_1 hv hh hr hc) rfl rfl (pc_Page_Page_0 hp_1 hv hh hr hc (F_Page_append ((97 : Int32) + a1) hp_1) hv hh hr hc) ?_
  refine sv_Q.gs (fun hp_2 => (13, [some (.ref 0), some (.ref 18), some (.int a1)], [], (W_Page hp_2 hv hh hr hc))) (fun hp_2 => ?_)
  refine sv_Q.s (σ' := (16, [some (.ref 0), some (.ref 18), some (.int a1)], [.int (32 : Int32), .ref 0], (W_Page hp_2 hv hh hr hc))) 2 rfl ?_
  refine sv_Q.V (b := 0) (av := [.int (32 : Int32)]) (ps := [0, 1, 2, 3, 4, 5, 6, 7, 8, 9, 10, 11, 12, 13, 14, 15, 16, 17, 18, 19, 20, 21, 22, 23]) (rest := []) (cs1 := (W_Page hp_2 hv hh hr hc)) (cs2 := (W_Page (F_Page_append (32 : Int32) hp_2) hv hh hr hc)) (st' := []) (cs' := (W_Page (F_Page_append (32 : Int32) hp_2) hv hh hr hc)) (q := (16, .null, 0, 0, 0)) lk_Page_62 (t_Page_append hp_2 hv hh hr hc (32 : Int32)) rfl rfl rfl rfl rfl (Or.inl ⟨4, _, _, rfl, rfl, rfl⟩) rfl rfl (sc_Page_Page_0 hp_2 hv hh hr hc) rfl rfl (pc_Page_Page_0 hp_2 hv hh hr hc (F_Page_append (32 : Int32) hp_2) hv hh hr hc) ?_
  refine sv_Q.gs (fun hp_3 => (19, [some (.ref 0), some (.ref 18), some (.int a1)], [], (W_Page hp_3 hv hh hr hc))) (fun hp_3 => ?_)
  refine sv_Q.s (σ' := (22, [some (.ref 0), some (.ref 18), some (.int a1)], [.int a1, .ref 18, .ref 0], (W_Page hp_3 hv hh hr hc))) 3 rfl ?_
  refine sv_Q.V (b := 0) (av := [.int a1]) (ps := [18, 19, 20, 21, 22, 23]) (rest := [.ref 0]) (cs1 := (W_Cargo hc)) (cs2 := (W_Cargo hc)) (st' := [.int (F_Cargo_kindOf a1 hc), .ref 0]) (cs' := (W_Page hp_3 hv hh hr hc)) (q := (22, .null, 0, 0, 0)) lk_Page_66 (t_Cargo_kindOf hc a1) rfl rfl rfl rfl rfl (Or.inl ⟨0, _, _, rfl, rfl, rfl⟩) rfl rfl (sc_Page_Cargo_4 hp_3 hv hh hr hc) rfl rfl (pc_Page_Cargo_4 hp_3 hv hh hr hc hc) ?_
  refine sv_Q.V (b := 0) (av := [.int (F_Cargo_kindOf a1 hc)]) (ps := [0, 1, 2, 3, 4, 5, 6, 7, 8, 9, 10, 11, 12, 13, 14, 15, 16, 17, 18, 19, 20, 21, 22, 23]) (rest := []) (cs1 := (W_Page hp_3 hv hh hr hc)) (cs2 := (W_Page (F_Page_appendNumber (F_Cargo_kindOf a1 hc) hp_3) hv hh hr hc)) (st' := []) (cs' := (W_Page (F_Page_appendNumber (F_Cargo_kindOf a1 hc) hp_3) hv hh hr hc)) (q := (25, .null, 0, 0, 0)) lk_Page_69 (t_Page_appendNumber hp_3 hv hh hr hc (F_Cargo_kindOf a1 hc)) rfl rfl rfl rfl rfl (Or.inl ⟨4, _, _, rfl, rfl, rfl⟩) rfl rfl (sc_Page_Page_0 hp_3 hv hh hr hc) rfl rfl (pc_Page_Page_0 hp_3 hv hh hr hc (F_Page_appendNumber (F_Cargo_kindOf a1 hc) hp_3) hv hh hr hc) ?_
  refine sv_Q.gs (fun hp_4 => (28, [some (.ref 0), some (.ref 18), some (.int a1)], [], (W_Page hp_4 hv hh hr hc))) (fun hp_4 => ?_)
  refine sv_Q.s (σ' := (31, [some (.ref 0), some (.ref 18), some (.int a1)], [.int (32 : Int32), .ref 0], (W_Page hp_4 hv hh hr hc))) 2 rfl ?_
  refine sv_Q.V (b := 0) (av := [.int (32 : Int32)]) (ps := [0, 1, 2, 3, 4, 5, 6, 7, 8, 9, 10, 11, 12, 13, 14, 15, 16, 17, 18, 19, 20, 21, 22, 23]) (rest := []) (cs1 := (W_Page hp_4 hv hh hr hc)) (cs2 := (W_Page (F_Page_append (32 : Int32) hp_4) hv hh hr hc)) (st' := []) (cs' := (W_Page (F_Page_append (32 : Int32) hp_4) hv hh hr hc)) (q := (31, .null, 0, 0, 0)) lk_Page_62 (t_Page_append hp_4 hv hh hr hc (32 : Int32)) rfl rfl rfl rfl rfl (Or.inl ⟨4, _, _, rfl, rfl, rfl⟩) rfl rfl (sc_Page_Page_0 hp_4 hv hh hr hc) rfl rfl (pc_Page_Page_0 hp_4 hv hh hr hc (F_Page_append (32 : Int32) hp_4) hv hh hr hc) ?_
  refine sv_Q.gs (fun hp_5 => (34, [some (.ref 0), some (.ref 18), some (.int a1)], [], (W_Page hp_5 hv hh hr hc))) (fun hp_5 => ?_)
  refine sv_Q.s (σ' := (37, [some (.ref 0), some (.ref 18), some (.int a1)], [.int a1, .ref 18, .ref 0], (W_Page hp_5 hv hh hr hc))) 3 rfl ?_
  refine sv_Q.V (b := 0) (av := [.int a1]) (ps := [18, 19, 20, 21, 22, 23]) (rest := [.ref 0]) (cs1 := (W_Cargo hc)) (cs2 := (W_Cargo hc)) (st' := [.int (F_Cargo_weightOf a1 hc), .ref 0]) (cs' := (W_Page hp_5 hv hh hr hc)) (q := (37, .null, 0, 0, 0)) lk_Page_72 (t_Cargo_weightOf hc a1) rfl rfl rfl rfl rfl (Or.inl ⟨0, _, _, rfl, rfl, rfl⟩) rfl rfl (sc_Page_Cargo_4 hp_5 hv hh hr hc) rfl rfl (pc_Page_Cargo_4 hp_5 hv hh hr hc hc) ?_
  refine sv_Q.V (b := 0) (av := [.int (F_Cargo_weightOf a1 hc)]) (ps := [0, 1, 2, 3, 4, 5, 6, 7, 8, 9, 10, 11, 12, 13, 14, 15, 16, 17, 18, 19, 20, 21, 22, 23]) (rest := []) (cs1 := (W_Page hp_5 hv hh hr hc)) (cs2 := (W_Page (F_Page_appendNumber (F_Cargo_weightOf a1 hc) hp_5) hv hh hr hc)) (st' := []) (cs' := (W_Page (F_Page_appendNumber (F_Cargo_weightOf a1 hc) hp_5) hv hh hr hc)) (q := (40, .null, 0, 0, 0)) lk_Page_69 (t_Page_appendNumber hp_5 hv hh hr hc (F_Cargo_weightOf a1 hc)) rfl rfl rfl rfl rfl (Or.inl ⟨4, _, _, rfl, rfl, rfl⟩) rfl rfl (sc_Page_Page_0 hp_5 hv hh hr hc) rfl rfl (pc_Page_Page_0 hp_5 hv hh hr hc (F_Page_appendNumber (F_Cargo_weightOf a1 hc) hp_5) hv hh hr hc) ?_
  refine sv_Q.gs (fun hp_6 => (43, [some (.ref 0), some (.ref 18), some (.int a1)], [], (W_Page hp_6 hv hh hr hc))) (fun hp_6 => ?_)
  refine sv_Q.s (σ' := (46, [some (.ref 0), some (.ref 18), some (.int a1)], [.int (32 : Int32), .ref 0], (W_Page hp_6 hv hh hr hc))) 2 rfl ?_
  refine sv_Q.V (b := 0) (av := [.int (32 : Int32)]) (ps := [0, 1, 2, 3, 4, 5, 6, 7, 8, 9, 10, 11, 12, 13, 14, 15, 16, 17, 18, 19, 20, 21, 22, 23]) (rest := []) (cs1 := (W_Page hp_6 hv hh hr hc)) (cs2 := (W_Page (F_Page_append (32 : Int32) hp_6) hv hh hr hc)) (st' := []) (cs' := (W_Page (F_Page_append (32 : Int32) hp_6) hv hh hr hc)) (q := (46, .null, 0, 0, 0)) lk_Page_62 (t_Page_append hp_6 hv hh hr hc (32 : Int32)) rfl rfl rfl rfl rfl (Or.inl ⟨4, _, _, rfl, rfl, rfl⟩) rfl rfl (sc_Page_Page_0 hp_6 hv hh hr hc) rfl rfl (pc_Page_Page_0 hp_6 hv hh hr hc (F_Page_append (32 : Int32) hp_6) hv hh hr hc) ?_
  refine sv_Q.gs (fun hp_7 => (49, [some (.ref 0), some (.ref 18), some (.int a1)], [], (W_Page hp_7 hv hh hr hc))) (fun hp_7 => ?_)
  refine sv_Q.s (σ' := (52, [some (.ref 0), some (.ref 18), some (.int a1)], [.int a1, .ref 18, .ref 0], (W_Page hp_7 hv hh hr hc))) 3 rfl ?_
  refine sv_Q.V (b := 0) (av := [.int a1]) (ps := [18, 19, 20, 21, 22, 23]) (rest := [.ref 0]) (cs1 := (W_Cargo hc)) (cs2 := (W_Cargo hc)) (st' := [.int (F_Cargo_portOf a1 hc), .ref 0]) (cs' := (W_Page hp_7 hv hh hr hc)) (q := (52, .null, 0, 0, 0)) lk_Page_75 (t_Cargo_portOf hc a1) rfl rfl rfl rfl rfl (Or.inl ⟨0, _, _, rfl, rfl, rfl⟩) rfl rfl (sc_Page_Cargo_4 hp_7 hv hh hr hc) rfl rfl (pc_Page_Cargo_4 hp_7 hv hh hr hc hc) ?_
  refine sv_Q.V (b := 0) (av := [.int (F_Cargo_portOf a1 hc)]) (ps := [0, 1, 2, 3, 4, 5, 6, 7, 8, 9, 10, 11, 12, 13, 14, 15, 16, 17, 18, 19, 20, 21, 22, 23]) (rest := []) (cs1 := (W_Page hp_7 hv hh hr hc)) (cs2 := (W_Page (F_Page_appendNumber (F_Cargo_portOf a1 hc) hp_7) hv hh hr hc)) (st' := []) (cs' := (W_Page (F_Page_appendNumber (F_Cargo_portOf a1 hc) hp_7) hv hh hr hc)) (q := (55, .null, 0, 0, 0)) lk_Page_69 (t_Page_appendNumber hp_7 hv hh hr hc (F_Cargo_portOf a1 hc)) rfl rfl rfl rfl rfl (Or.inl ⟨4, _, _, rfl, rfl, rfl⟩) rfl rfl (sc_Page_Page_0 hp_7 hv hh hr hc) rfl rfl (pc_Page_Page_0 hp_7 hv hh hr hc (F_Page_appendNumber (F_Cargo_portOf a1 hc) hp_7) hv hh hr hc) ?_
  refine sv_Q.gs (fun hp_8 => (58, [some (.ref 0), some (.ref 18), some (.int a1)], [], (W_Page hp_8 hv hh hr hc))) (fun hp_8 => ?_)
  refine sv_Q.s (σ' := (61, [some (.ref 0), some (.ref 18), some (.int a1)], [.int (32 : Int32), .ref 0], (W_Page hp_8 hv hh hr hc))) 2 rfl ?_
  refine sv_Q.V (b := 0) (av := [.int (32 : Int32)]) (ps := [0, 1, 2, 3, 4, 5, 6, 7, 8, 9, 10, 11, 12, 13, 14, 15, 16, 17, 18, 19, 20, 21, 22, 23]) (rest := []) (cs1 := (W_Page hp_8 hv hh hr hc)) (cs2 := (W_Page (F_Page_append (32 : Int32) hp_8) hv hh hr hc)) (st' := []) (cs' := (W_Page (F_Page_append (32 : Int32) hp_8) hv hh hr hc)) (q := (61, .null, 0, 0, 0)) lk_Page_62 (t_Page_append hp_8 hv hh hr hc (32 : Int32)) rfl rfl rfl rfl rfl (Or.inl ⟨4, _, _, rfl, rfl, rfl⟩) rfl rfl (sc_Page_Page_0 hp_8 hv hh hr hc) rfl rfl (pc_Page_Page_0 hp_8 hv hh hr hc (F_Page_append (32 : Int32) hp_8) hv hh hr hc) ?_
  refine sv_Q.gs (fun hp_9 => (64, [some (.ref 0), some (.ref 18), some (.int a1)], [], (W_Page hp_9 hv hh hr hc))) (fun hp_9 => ?_)
  refine sv_Q.s (σ' := (66, [some (.ref 0), some (.ref 18), some (.int a1)], [.int a1, .ref 18], (W_Page hp_9 hv hh hr hc))) 2 rfl ?_
  refine sv_Q.V (b := 0) (av := [.int a1]) (ps := [18, 19, 20, 21, 22, 23]) (rest := []) (cs1 := (W_Cargo hc)) (cs2 := (W_Cargo hc)) (st' := [.int (F_Cargo_lies a1 hc)]) (cs' := (W_Page hp_9 hv hh hr hc)) (q := (66, .null, 0, 0, 0)) lk_Page_78 (t_Cargo_lies hc a1) rfl rfl rfl rfl rfl (Or.inl ⟨0, _, _, rfl, rfl, rfl⟩) rfl rfl (sc_Page_Cargo_4 hp_9 hv hh hr hc) rfl rfl (pc_Page_Cargo_4 hp_9 hv hh hr hc hc) ?_
  refine sv_Q.sb rfl (fun c10 => ?_) (fun c10 => ?_)
  · refine sv_Q.s (σ' := (87, [some (.ref 0), some (.ref 18), some (.int a1)], [.int (45 : Int32), .ref 0], (W_Page hp_9 hv hh hr hc))) 2 rfl ?_
    refine sv_Q.V (b := 0) (av := [.int (45 : Int32)]) (ps := [0, 1, 2, 3, 4, 5, 6, 7, 8, 9, 10, 11, 12, 13, 14, 15, 16, 17, 18, 19, 20, 21, 22, 23]) (rest := []) (cs1 := (W_Page hp_9 hv hh hr hc)) (cs2 := (W_Page (F_Page_append (45 : Int32) hp_9) hv hh hr hc)) (st' := []) (cs' := (W_Page (F_Page_append (45 : Int32) hp_9) hv hh hr hc)) (q := (87, .null, 0, 0, 0)) lk_Page_62 (t_Page_append hp_9 hv hh hr hc (45 : Int32)) rfl rfl rfl rfl rfl (Or.inl ⟨4, _, _, rfl, rfl, rfl⟩) rfl rfl (sc_Page_Page_0 hp_9 hv hh hr hc) rfl rfl (pc_Page_Page_0 hp_9 hv hh hr hc (F_Page_append (45 : Int32) hp_9) hv hh hr hc) ?_
    refine sv_Q.gs (fun hp_11 => (90, [some (.ref 0), some (.ref 18), some (.int a1)], [], (W_Page hp_11 hv hh hr hc))) (fun hp_11 => ?_)
    exact sv_Q.z ⟨True, rfl, trivial, rfl⟩
  · refine sv_Q.s (σ' := (75, [some (.ref 0), some (.ref 18), some (.int a1)], [.int a1, .ref 18, .ref 0], (W_Page hp_9 hv hh hr hc))) 3 rfl ?_
    refine sv_Q.V (b := 0) (av := [.int a1]) (ps := [18, 19, 20, 21, 22, 23]) (rest := [.ref 0]) (cs1 := (W_Cargo hc)) (cs2 := (W_Cargo hc)) (st' := [.int (F_Cargo_placeOf a1 hc), .ref 0]) (cs' := (W_Page hp_9 hv hh hr hc)) (q := (75, .null, 0, 0, 0)) lk_Page_82 (t_Cargo_placeOf hc a1) rfl rfl rfl rfl rfl (Or.inl ⟨0, _, _, rfl, rfl, rfl⟩) rfl rfl (sc_Page_Cargo_4 hp_9 hv hh hr hc) rfl rfl (pc_Page_Cargo_4 hp_9 hv hh hr hc hc) ?_
    refine sv_Q.V (b := 0) (av := [.int (F_Cargo_placeOf a1 hc)]) (ps := [0, 1, 2, 3, 4, 5, 6, 7, 8, 9, 10, 11, 12, 13, 14, 15, 16, 17, 18, 19, 20, 21, 22, 23]) (rest := []) (cs1 := (W_Page hp_9 hv hh hr hc)) (cs2 := (W_Page (F_Page_appendNumber (F_Cargo_placeOf a1 hc) hp_9) hv hh hr hc)) (st' := []) (cs' := (W_Page (F_Page_appendNumber (F_Cargo_placeOf a1 hc) hp_9) hv hh hr hc)) (q := (78, .null, 0, 0, 0)) lk_Page_69 (t_Page_appendNumber hp_9 hv hh hr hc (F_Cargo_placeOf a1 hc)) rfl rfl rfl rfl rfl (Or.inl ⟨4, _, _, rfl, rfl, rfl⟩) rfl rfl (sc_Page_Page_0 hp_9 hv hh hr hc) rfl rfl (pc_Page_Page_0 hp_9 hv hh hr hc (F_Page_appendNumber (F_Cargo_placeOf a1 hc) hp_9) hv hh hr hc) ?_
    refine sv_Q.gs (fun hp_12 => (81, [some (.ref 0), some (.ref 18), some (.int a1)], [], (W_Page hp_12 hv hh hr hc))) (fun hp_12 => ?_)
    refine sv_Q.s (σ' := (90, [some (.ref 0), some (.ref 18), some (.int a1)], [], (W_Page hp_12 hv hh hr hc))) 1 rfl ?_
    exact sv_Q.z ⟨True, rfl, trivial, rfl⟩
theorem t_Page_writeBox {X : Nat × (Nat → Int32)} (hp hv hh hr hc : Nat → Nat → Int32) (a1 : Int32) : sv_R X 4 M_Page_writeBox [.ref 0, .ref 18, .int a1] (W_Page hp hv hh hr hc) none (W_Page (F_Page_writeBox a1 hp hc) hv hh hr hc) := r_Page_writeBox hp hv hh hr hc a1 _ rfl
def F_Hist_forget (hy : Nat → Nat → Int32) : (Nat → Nat → Int32) := (sv_let (ss hy 0 (0 : Int32)) fun (hy_1 : Nat → Nat → Int32) => hy_1)
theorem r_Hist_forget {X : Nat × (Nat → Int32)} (hy hv hh hr hc : Nat → Nat → Int32) : ∀ x, some (F_Hist_forget hy) = some x → sv_R X 1 M_Hist_forget [.ref 0] (W_Hist hy hv hh hr hc) none (W_Hist x hv hh hr hc) := by
  refine sv_Q.R (res := (fun (x : (Nat → Nat → Int32)) => ((none : Option Value), (W_Hist x hv hh hr hc)))) g_Hist_forget rfl ?_
  unfold F_Hist_forget
  refine sv_Q.s (σ' := (5, [some (.ref 0)], [], (W_Hist (ss hy 0 (0 : Int32)) hv hh hr hc))) 3 rfl ?_
  refine sv_Q.gs (fun hy_1 => (5, [some (.ref 0)], [], (W_Hist hy_1 hv hh hr hc))) (fun hy_1 => ?_)
  exact sv_Q.z ⟨True, rfl, trivial, rfl⟩
theorem t_Hist_forget {X : Nat × (Nat → Int32)} (hy hv hh hr hc : Nat → Nat → Int32) : sv_R X 1 M_Hist_forget [.ref 0] (W_Hist hy hv hh hr hc) none (W_Hist (F_Hist_forget hy) hv hh hr hc) := r_Hist_forget hy hv hh hr hc _ rfl
def L_Hist_mark_25 (N : Nat) : Nat → Int32 → Int32 → (Nat → Nat → Int32) → (Nat → Nat → Int32) → Option ((Nat → Nat → Int32))
  | 0, _, _, _, _ => none
  | n + 1, x2, x3, hy, hh => (if (6 : Int32) ≤ x3 then (some hy) else (sv_let (sw hy 1 403 ((x2 + (1 : Int32)) + x3) (F_Hull_wallAt x3 hh)) fun (hy_3 : Nat → Nat → Int32) => (L_Hist_mark_25 N n x2 (x3 + (1 : Int32)) hy_3 hh)))
theorem l_Hist_mark_25 {X : Nat × (Nat → Int32)} (N : Nat) : ∀ (n : Nat) (x2 : Int32) (x3 : Int32) (hy hv hh hr hc : Nat → Nat → Int32), sv_Q X 2 M_Hist_mark (25, [some (.ref 0), some (.ref 2), some (.int x2), some (.int x3)], [], (W_Hist hy hv hh hr hc)) (L_Hist_mark_25 N n x2 x3 hy hh) (fun v σ' => σ' = (57, [some (.ref 0), some (.ref 2), some (.int x2), none], [], (W_Hist v hv hh hr hc))) := by
  intro n
  induction n with
  | zero => intro x2 x3 hy hv hh hr hc; unfold L_Hist_mark_25; exact sv_Q.non
  | succ n ih =>
    intro x2 x3 hy hv hh hr hc
    unfold L_Hist_mark_25
    refine sv_Q.s (σ' := (28, [some (.ref 0), some (.ref 2), some (.int x2), some (.int x3)], [.int (6 : Int32), .int x3], (W_Hist hy hv hh hr hc))) 2 rfl ?_
    refine sv_Q.b rfl (fun c2 => ?_) (fun c2 => ?_)
    · refine sv_Q.f (lo' := [some (.ref 0), some (.ref 2), some (.int x2), none]) ⟨rfl, ⟨rfl, ⟨rfl, trivial⟩⟩⟩ ?_
      exact sv_Q.z rfl
    · refine sv_Q.s (σ' := (45, [some (.ref 0), some (.ref 2), some (.int x2), some (.int x3)], [.int x3, .ref 4, .int ((x2 + (1 : Int32)) + x3), .ref 1], (W_Hist hy hv hh hr hc))) 10 rfl ?_
      refine sv_Q.V (b := 0) (av := [.int x3]) (ps := [4, 5, 6, 7, 8, 9]) (rest := [.int ((x2 + (1 : Int32)) + x3), .ref 1]) (cs1 := (W_Hull hh)) (cs2 := (W_Hull hh)) (st' := [.int (F_Hull_wallAt x3 hh), .int ((x2 + (1 : Int32)) + x3), .ref 1]) (cs' := (W_Hist hy hv hh hr hc)) (q := (45, .null, 0, 0, 0)) lk_Hist_41 (t_Hull_wallAt hh x3) rfl rfl rfl rfl rfl (Or.inl ⟨2, _, _, rfl, rfl, rfl⟩) rfl rfl (sc_Hist_Hull_2 hy hv hh hr hc) rfl rfl (pc_Hist_Hull_2 hy hv hh hr hc hh) ?_
      refine sv_Q.S (ps := [1]) (rest := []) (st' := []) (cs' := (W_Hist (sw hy 1 403 ((x2 + (1 : Int32)) + x3) (F_Hull_wallAt x3 hh)) hv hh hr hc)) (q := (48, .null, 0, 0, 0)) lk_Hist_33 (t_K_write 403 rfl (hy 1) ((x2 + (1 : Int32)) + x3) (F_Hull_wallAt x3 hh)) rfl rfl rfl rfl rfl rfl rfl (su_Hist_1 hy hv hh hr hc) rfl rfl (pa_Hist_1 hy hv hh hr hc (wr 403 (hy 1) ((x2 + (1 : Int32)) + x3) (F_Hull_wallAt x3 hh))) ?_
      refine sv_Q.go (fun hy_3 => (51, [some (.ref 0), some (.ref 2), some (.int x2), some (.int x3)], [], (W_Hist hy_3 hv hh hr hc))) (fun hy_3 => ?_)
      refine sv_Q.s (σ' := (25, [some (.ref 0), some (.ref 2), some (.int x2), some (.int (x3 + (1 : Int32)))], [], (W_Hist hy_3 hv hh hr hc))) 2 rfl ?_
      exact ih x2 (x3 + (1 : Int32)) hy_3 hv hh hr hc
def L_Hist_mark_59 (N : Nat) : Nat → Int32 → Int32 → (Nat → Nat → Int32) → (Nat → Nat → Int32) → Option ((Nat → Nat → Int32))
  | 0, _, _, _, _ => none
  | n + 1, x2, x3, hy, hc => (if (24 : Int32) ≤ x3 then (some hy) else (sv_let (sw hy 1 403 (((x2 + (1 : Int32)) + (6 : Int32)) + x3) (F_Cargo_placeOf x3 hc)) fun (hy_6 : Nat → Nat → Int32) => (L_Hist_mark_59 N n x2 (x3 + (1 : Int32)) hy_6 hc)))
theorem l_Hist_mark_59 {X : Nat × (Nat → Int32)} (N : Nat) : ∀ (n : Nat) (x2 : Int32) (x3 : Int32) (hy hv hh hr hc : Nat → Nat → Int32), sv_Q X 2 M_Hist_mark (59, [some (.ref 0), some (.ref 2), some (.int x2), some (.int x3)], [], (W_Hist hy hv hh hr hc)) (L_Hist_mark_59 N n x2 x3 hy hc) (fun v σ' => σ' = (94, [none, none, none, none], [], (W_Hist v hv hh hr hc))) := by
  intro n
  induction n with
  | zero => intro x2 x3 hy hv hh hr hc; unfold L_Hist_mark_59; exact sv_Q.non
  | succ n ih =>
    intro x2 x3 hy hv hh hr hc
    unfold L_Hist_mark_59
    refine sv_Q.s (σ' := (62, [some (.ref 0), some (.ref 2), some (.int x2), some (.int x3)], [.int (24 : Int32), .int x3], (W_Hist hy hv hh hr hc))) 2 rfl ?_
    refine sv_Q.b rfl (fun c5 => ?_) (fun c5 => ?_)
    · refine sv_Q.f (lo' := [none, none, none, none]) trivial ?_
      exact sv_Q.z rfl
    · refine sv_Q.s (σ' := (82, [some (.ref 0), some (.ref 2), some (.int x2), some (.int x3)], [.int x3, .ref 18, .int (((x2 + (1 : Int32)) + (6 : Int32)) + x3), .ref 1], (W_Hist hy hv hh hr hc))) 12 rfl ?_
      refine sv_Q.V (b := 0) (av := [.int x3]) (ps := [18, 19, 20, 21, 22, 23]) (rest := [.int (((x2 + (1 : Int32)) + (6 : Int32)) + x3), .ref 1]) (cs1 := (W_Cargo hc)) (cs2 := (W_Cargo hc)) (st' := [.int (F_Cargo_placeOf x3 hc), .int (((x2 + (1 : Int32)) + (6 : Int32)) + x3), .ref 1]) (cs' := (W_Hist hy hv hh hr hc)) (q := (82, .null, 0, 0, 0)) lk_Hist_47 (t_Cargo_placeOf hc x3) rfl rfl rfl rfl rfl (Or.inl ⟨0, _, _, rfl, rfl, rfl⟩) rfl rfl (sc_Hist_Cargo_4 hy hv hh hr hc) rfl rfl (pc_Hist_Cargo_4 hy hv hh hr hc hc) ?_
      refine sv_Q.S (ps := [1]) (rest := []) (st' := []) (cs' := (W_Hist (sw hy 1 403 (((x2 + (1 : Int32)) + (6 : Int32)) + x3) (F_Cargo_placeOf x3 hc)) hv hh hr hc)) (q := (85, .null, 0, 0, 0)) lk_Hist_33 (t_K_write 403 rfl (hy 1) (((x2 + (1 : Int32)) + (6 : Int32)) + x3) (F_Cargo_placeOf x3 hc)) rfl rfl rfl rfl rfl rfl rfl (su_Hist_1 hy hv hh hr hc) rfl rfl (pa_Hist_1 hy hv hh hr hc (wr 403 (hy 1) (((x2 + (1 : Int32)) + (6 : Int32)) + x3) (F_Cargo_placeOf x3 hc))) ?_
      refine sv_Q.go (fun hy_6 => (88, [some (.ref 0), some (.ref 2), some (.int x2), some (.int x3)], [], (W_Hist hy_6 hv hh hr hc))) (fun hy_6 => ?_)
      refine sv_Q.s (σ' := (59, [some (.ref 0), some (.ref 2), some (.int x2), some (.int (x3 + (1 : Int32)))], [], (W_Hist hy_6 hv hh hr hc))) 2 rfl ?_
      exact ih x2 (x3 + (1 : Int32)) hy_6 hv hh hr hc
def F_Hist_mark (N : Nat) (hy hh hc : Nat → Nat → Int32) : Option ((Nat → Nat → Int32)) := (sv_let (sw hy 1 403 ((hy 0 1) * (31 : Int32)) (hc 0 0)) fun (hy_1 : Nat → Nat → Int32) => (Option.bind (L_Hist_mark_25 N N ((hy 0 1) * (31 : Int32)) (0 : Int32) hy_1 hh) fun (v4 : (Nat → Nat → Int32)) => (Option.bind (L_Hist_mark_59 N N ((hy 0 1) * (31 : Int32)) (0 : Int32) v4 hc) fun (v7 : (Nat → Nat → Int32)) => (some v7))))
theorem r_Hist_mark {X : Nat × (Nat → Int32)} (N : Nat) (hy hv hh hr hc : Nat → Nat → Int32) : ∀ x, (F_Hist_mark N hy hh hc) = some x → sv_R X 3 M_Hist_mark [.ref 0, .ref 2] (W_Hist hy hv hh hr hc) none (W_Hist x hv hh hr hc) := by
  refine sv_Q.R (res := (fun (x : (Nat → Nat → Int32)) => ((none : Option Value), (W_Hist x hv hh hr hc)))) g_Hist_mark rfl ?_
  unfold F_Hist_mark
  refine sv_Q.s (σ' := (20, [some (.ref 0), some (.ref 2), some (.int ((hy 0 1) * (31 : Int32))), none], [.int (hc 0 0), .int ((hy 0 1) * (31 : Int32)), .ref 1], (W_Hist hy hv hh hr hc))) 11 rfl ?_
  refine sv_Q.S (ps := [1]) (rest := []) (st' := []) (cs' := (W_Hist (sw hy 1 403 ((hy 0 1) * (31 : Int32)) (hc 0 0)) hv hh hr hc)) (q := (20, .null, 0, 0, 0)) lk_Hist_33 (t_K_write 403 rfl (hy 1) ((hy 0 1) * (31 : Int32)) (hc 0 0)) rfl rfl rfl rfl rfl rfl rfl (su_Hist_1 hy hv hh hr hc) rfl rfl (pa_Hist_1 hy hv hh hr hc (wr 403 (hy 1) ((hy 0 1) * (31 : Int32)) (hc 0 0))) ?_
  refine sv_Q.go (fun hy_1 => (23, [some (.ref 0), some (.ref 2), some (.int ((hy 0 1) * (31 : Int32))), none], [], (W_Hist hy_1 hv hh hr hc))) (fun hy_1 => ?_)
  refine sv_Q.s (σ' := (25, [some (.ref 0), some (.ref 2), some (.int ((hy 0 1) * (31 : Int32))), some (.int (0 : Int32))], [], (W_Hist hy_1 hv hh hr hc))) 2 rfl ?_
  refine sv_Q.lo (fun v4 => (57, [some (.ref 0), some (.ref 2), some (.int ((hy 0 1) * (31 : Int32))), none], [], (W_Hist v4 hv hh hr hc))) (fun v4 => ?_) (l_Hist_mark_25 N N ((hy 0 1) * (31 : Int32)) (0 : Int32) hy_1 hv hh hr hc)
  · refine sv_Q.s (σ' := (59, [some (.ref 0), some (.ref 2), some (.int ((hy 0 1) * (31 : Int32))), some (.int (0 : Int32))], [], (W_Hist v4 hv hh hr hc))) 2 rfl ?_
    refine sv_Q.lo (fun v7 => (94, [none, none, none, none], [], (W_Hist v7 hv hh hr hc))) (fun v7 => ?_) (l_Hist_mark_59 N N ((hy 0 1) * (31 : Int32)) (0 : Int32) v4 hv hh hr hc)
    · exact sv_Q.z ⟨True, rfl, trivial, rfl⟩
def F_Hist_keep (hy : Nat → Nat → Int32) : (Nat → Nat → Int32) := (sv_let (if (13 : Int32) ≤ ((hy 0 1) + (1 : Int32)) then (0 : Int32) else ((hy 0 1) + (1 : Int32))) fun (v2 : Int32) => (sv_let (ss hy 1 v2) fun (hy_3 : Nat → Nat → Int32) => (sv_let (ss hy_3 0 (if (12 : Int32) < ((hy_3 0 0) + (1 : Int32)) then (12 : Int32) else ((hy_3 0 0) + (1 : Int32)))) fun (hy_4 : Nat → Nat → Int32) => hy_4)))
theorem r_Hist_keep {X : Nat × (Nat → Int32)} (hy hv hh hr hc : Nat → Nat → Int32) : ∀ x, some (F_Hist_keep hy) = some x → sv_R X 1 M_Hist_keep [.ref 0] (W_Hist hy hv hh hr hc) none (W_Hist x hv hh hr hc) := by
  refine sv_Q.R (res := (fun (x : (Nat → Nat → Int32)) => ((none : Option Value), (W_Hist x hv hh hr hc)))) g_Hist_keep rfl ?_
  unfold F_Hist_keep
  refine sv_Q.s (σ' := (9, [some (.ref 0)], [.int (13 : Int32), .int ((hy 0 1) + (1 : Int32)), .ref 0], (W_Hist hy hv hh hr hc))) 6 rfl ?_
  refine sv_Q.sl (fun v2 => (22, [some (.ref 0)], [.int v2, .ref 0], (W_Hist hy hv hh hr hc))) (fun v2 => ?_) ?_
  · refine sv_Q.s (σ' := (25, [some (.ref 0)], [], (W_Hist (ss hy 1 v2) hv hh hr hc))) 1 rfl ?_
    refine sv_Q.gs (fun hy_3 => (25, [some (.ref 0)], [], (W_Hist hy_3 hv hh hr hc))) (fun hy_3 => ?_)
    refine sv_Q.s (σ' := (40, [some (.ref 0)], [], (W_Hist (ss hy_3 0 (if (12 : Int32) < ((hy_3 0 0) + (1 : Int32)) then (12 : Int32) else ((hy_3 0 0) + (1 : Int32)))) hv hh hr hc))) 8 rfl ?_
    refine sv_Q.gs (fun hy_4 => (40, [some (.ref 0)], [], (W_Hist hy_4 hv hh hr hc))) (fun hy_4 => ?_)
    exact sv_Q.z ⟨True, rfl, trivial, rfl⟩
  · refine sv_Q.sb rfl (fun c1 => ?_) (fun c1 => ?_)
    · refine sv_Q.s (σ' := (22, [some (.ref 0)], [.int (0 : Int32), .ref 0], (W_Hist hy hv hh hr hc))) 1 rfl ?_
      exact sv_Q.z rfl
    · refine sv_Q.s (σ' := (22, [some (.ref 0)], [.int ((hy 0 1) + (1 : Int32)), .ref 0], (W_Hist hy hv hh hr hc))) 5 rfl ?_
      exact sv_Q.z rfl
theorem t_Hist_keep {X : Nat × (Nat → Int32)} (hy hv hh hr hc : Nat → Nat → Int32) : sv_R X 1 M_Hist_keep [.ref 0] (W_Hist hy hv hh hr hc) none (W_Hist (F_Hist_keep hy) hv hh hr hc) := r_Hist_keep hy hv hh hr hc _ rfl
def L_Hist_stepBack_66 (N : Nat) : Nat → Int32 → Int32 → (Nat → Nat → Int32) → (Nat → Nat → Int32) → Option ((Nat → Nat → Int32))
  | 0, _, _, _, _ => none
  | n + 1, x2, x3, hy, hh => (if (6 : Int32) ≤ x3 then (some hh) else (Option.bind (F_Hull_setWall N x3 (rd 403 (hy 1) ((x2 + (1 : Int32)) + x3)) hh) fun (v8 : (Nat → Nat → Int32)) => (L_Hist_stepBack_66 N n x2 (x3 + (1 : Int32)) hy v8)))
theorem l_Hist_stepBack_66 {X : Nat × (Nat → Int32)} (N : Nat) : ∀ (n : Nat) (x2 : Int32) (x3 : Int32) (hy hv hh hr hc : Nat → Nat → Int32), sv_Q X 3 M_Hist_stepBack (66, [some (.ref 0), some (.ref 2), some (.int x2), some (.int x3)], [], (W_Hist hy hv hh hr hc)) (L_Hist_stepBack_66 N n x2 x3 hy hh) (fun v σ' => σ' = (98, [some (.ref 0), some (.ref 2), some (.int x2), none], [], (W_Hist hy hv v hr hc))) := by
  intro n
  induction n with
  | zero => intro x2 x3 hy hv hh hr hc; unfold L_Hist_stepBack_66; exact sv_Q.non
  | succ n ih =>
    intro x2 x3 hy hv hh hr hc
    unfold L_Hist_stepBack_66
    refine sv_Q.s (σ' := (69, [some (.ref 0), some (.ref 2), some (.int x2), some (.int x3)], [.int (6 : Int32), .int x3], (W_Hist hy hv hh hr hc))) 2 rfl ?_
    refine sv_Q.b rfl (fun c7 => ?_) (fun c7 => ?_)
    · refine sv_Q.f (lo' := [some (.ref 0), some (.ref 2), some (.int x2), none]) ⟨rfl, ⟨rfl, ⟨rfl, trivial⟩⟩⟩ ?_
      exact sv_Q.z rfl
    · refine sv_Q.s (σ' := (86, [some (.ref 0), some (.ref 2), some (.int x2), some (.int x3)], [.int ((x2 + (1 : Int32)) + x3), .ref 1, .int x3, .ref 4], (W_Hist hy hv hh hr hc))) 10 rfl ?_
      refine sv_Q.S (ps := [1]) (rest := [.int x3, .ref 4]) (st' := [.int (rd 403 (hy 1) ((x2 + (1 : Int32)) + x3)), .int x3, .ref 4]) (cs' := (W_Hist hy hv hh hr hc)) (q := (86, .null, 0, 0, 0)) lk_Hist_56 (t_K_read 403 rfl (hy 1) ((x2 + (1 : Int32)) + x3)) rfl rfl rfl rfl rfl rfl rfl (su_Hist_1 hy hv hh hr hc) rfl rfl (pu_Hist_1 hy hv hh hr hc) ?_
      refine sv_Q.o (fun v8 e9 => ?_)
      refine sv_Q.V (b := 0) (av := [.int x3, .int (rd 403 (hy 1) ((x2 + (1 : Int32)) + x3))]) (ps := [4, 5, 6, 7, 8, 9]) (rest := []) (cs1 := (W_Hull hh)) (cs2 := (W_Hull v8)) (st' := []) (cs' := (W_Hist hy hv v8 hr hc)) (q := (89, .null, 0, 0, 0)) lk_Hist_60 (r_Hull_setWall N hh x3 (rd 403 (hy 1) ((x2 + (1 : Int32)) + x3)) v8 e9) rfl rfl rfl rfl rfl (Or.inl ⟨2, _, _, rfl, rfl, rfl⟩) rfl rfl (sc_Hist_Hull_2 hy hv hh hr hc) rfl rfl (pc_Hist_Hull_2 hy hv hh hr hc v8) ?_
      refine sv_Q.s (σ' := (66, [some (.ref 0), some (.ref 2), some (.int x2), some (.int (x3 + (1 : Int32)))], [], (W_Hist hy hv v8 hr hc))) 2 rfl ?_
      exact ih x2 (x3 + (1 : Int32)) hy hv v8 hr hc
def L_Hist_stepBack_107 (N : Nat) : Nat → Int32 → Int32 → (Nat → Nat → Int32) → (Nat → Nat → Int32) → Option ((Nat → Nat → Int32))
  | 0, _, _, _, _ => none
  | n + 1, x2, x3, hy, hc => (if (hc 0 0) ≤ x3 then (some hc) else (sv_let (F_Cargo_move x3 (rd 403 (hy 1) (((x2 + (1 : Int32)) + (6 : Int32)) + x3)) hc) fun (hc_13 : Nat → Nat → Int32) => (L_Hist_stepBack_107 N n x2 (x3 + (1 : Int32)) hy hc_13)))
theorem l_Hist_stepBack_107 {X : Nat × (Nat → Int32)} (N : Nat) : ∀ (n : Nat) (x2 : Int32) (x3 : Int32) (hy hv hh hr hc : Nat → Nat → Int32), sv_Q X 3 M_Hist_stepBack (107, [some (.ref 0), some (.ref 2), some (.int x2), some (.int x3)], [], (W_Hist hy hv hh hr hc)) (L_Hist_stepBack_107 N n x2 x3 hy hc) (fun v σ' => σ' = (147, [none, none, none, none], [], (W_Hist hy hv hh hr v))) := by
  intro n
  induction n with
  | zero => intro x2 x3 hy hv hh hr hc; unfold L_Hist_stepBack_107; exact sv_Q.non
  | succ n ih =>
    intro x2 x3 hy hv hh hr hc
    unfold L_Hist_stepBack_107
    refine sv_Q.s (σ' := (115, [some (.ref 0), some (.ref 2), some (.int x2), some (.int x3)], [.int (hc 0 0), .int x3], (W_Hist hy hv hh hr hc))) 4 rfl ?_
    refine sv_Q.b rfl (fun c12 => ?_) (fun c12 => ?_)
    · refine sv_Q.f (lo' := [none, none, none, none]) trivial ?_
      exact sv_Q.z rfl
    · refine sv_Q.s (σ' := (135, [some (.ref 0), some (.ref 2), some (.int x2), some (.int x3)], [.int (((x2 + (1 : Int32)) + (6 : Int32)) + x3), .ref 1, .int x3, .ref 18], (W_Hist hy hv hh hr hc))) 12 rfl ?_
      refine sv_Q.S (ps := [1]) (rest := [.int x3, .ref 18]) (st' := [.int (rd 403 (hy 1) (((x2 + (1 : Int32)) + (6 : Int32)) + x3)), .int x3, .ref 18]) (cs' := (W_Hist hy hv hh hr hc)) (q := (135, .null, 0, 0, 0)) lk_Hist_56 (t_K_read 403 rfl (hy 1) (((x2 + (1 : Int32)) + (6 : Int32)) + x3)) rfl rfl rfl rfl rfl rfl rfl (su_Hist_1 hy hv hh hr hc) rfl rfl (pu_Hist_1 hy hv hh hr hc) ?_
      refine sv_Q.V (b := 0) (av := [.int x3, .int (rd 403 (hy 1) (((x2 + (1 : Int32)) + (6 : Int32)) + x3))]) (ps := [18, 19, 20, 21, 22, 23]) (rest := []) (cs1 := (W_Cargo hc)) (cs2 := (W_Cargo (F_Cargo_move x3 (rd 403 (hy 1) (((x2 + (1 : Int32)) + (6 : Int32)) + x3)) hc))) (st' := []) (cs' := (W_Hist hy hv hh hr (F_Cargo_move x3 (rd 403 (hy 1) (((x2 + (1 : Int32)) + (6 : Int32)) + x3)) hc))) (q := (138, .null, 0, 0, 0)) lk_Hist_67 (t_Cargo_move hc x3 (rd 403 (hy 1) (((x2 + (1 : Int32)) + (6 : Int32)) + x3))) rfl rfl rfl rfl rfl (Or.inl ⟨0, _, _, rfl, rfl, rfl⟩) rfl rfl (sc_Hist_Cargo_4 hy hv hh hr hc) rfl rfl (pc_Hist_Cargo_4 hy hv hh hr hc (F_Cargo_move x3 (rd 403 (hy 1) (((x2 + (1 : Int32)) + (6 : Int32)) + x3)) hc)) ?_
      refine sv_Q.go (fun hc_13 => (141, [some (.ref 0), some (.ref 2), some (.int x2), some (.int x3)], [], (W_Hist hy hv hh hr hc_13))) (fun hc_13 => ?_)
      refine sv_Q.s (σ' := (107, [some (.ref 0), some (.ref 2), some (.int x2), some (.int (x3 + (1 : Int32)))], [], (W_Hist hy hv hh hr hc_13))) 2 rfl ?_
      exact ih x2 (x3 + (1 : Int32)) hy hv hh hr hc_13
def F_Hist_stepBack (N : Nat) (hy hh hc : Nat → Nat → Int32) : Option (Int32 × (Nat → Nat → Int32) × (Nat → Nat → Int32) × (Nat → Nat → Int32)) := (if ¬ (hy 0 0) = 0 then (sv_let (ss hy 0 ((hy 0 0) - (1 : Int32))) fun (hy_2 : Nat → Nat → Int32) => (sv_let (if (hy_2 0 1) ≤ 0 then (12 : Int32) else ((hy_2 0 1) - (1 : Int32))) fun (v4 : Int32) => (sv_let (ss hy_2 1 v4) fun (hy_5 : Nat → Nat → Int32) => (sv_let (ss hc 0 (rd 403 (hy_5 1) ((hy_5 0 1) * (31 : Int32)))) fun (hc_6 : Nat → Nat → Int32) => (Option.bind (L_Hist_stepBack_66 N N ((hy_5 0 1) * (31 : Int32)) (0 : Int32) hy_5 hh) fun (v10 : (Nat → Nat → Int32)) => (sv_let (F_Cargo_liftAll hc_6) fun (hc_11 : Nat → Nat → Int32) => (Option.bind (L_Hist_stepBack_107 N N ((hy_5 0 1) * (31 : Int32)) (0 : Int32) hy_5 hc_11) fun (v14 : (Nat → Nat → Int32)) => (some ((1 : Int32), hy_5, v10, v14))))))))) else (some ((0 : Int32), hy, hh, hc)))
theorem r_Hist_stepBack {X : Nat × (Nat → Int32)} (N : Nat) (hy hv hh hr hc : Nat → Nat → Int32) : ∀ x, (F_Hist_stepBack N hy hh hc) = some x → sv_R X 4 M_Hist_stepBack [.ref 0, .ref 2] (W_Hist hy hv hh hr hc) (some (.int x.1)) (W_Hist x.2.1 hv x.2.2.1 hr x.2.2.2) := by
  refine sv_Q.R (res := (fun (x : Int32 × (Nat → Nat → Int32) × (Nat → Nat → Int32) × (Nat → Nat → Int32)) => (some (.int x.1), (W_Hist x.2.1 hv x.2.2.1 hr x.2.2.2)))) g_Hist_stepBack rfl ?_
  unfold F_Hist_stepBack
  refine sv_Q.s (σ' := (4, [some (.ref 0), some (.ref 2), none, none], [.int (hy 0 0)], (W_Hist hy hv hh hr hc))) 2 rfl ?_
  refine sv_Q.b rfl (fun c1 => ?_) (fun c1 => ?_)
  · refine sv_Q.s (σ' := (19, [some (.ref 0), some (.ref 2), none, none], [], (W_Hist (ss hy 0 ((hy 0 0) - (1 : Int32))) hv hh hr hc))) 6 rfl ?_
    refine sv_Q.go (fun hy_2 => (19, [some (.ref 0), some (.ref 2), none, none], [], (W_Hist hy_2 hv hh hr hc))) (fun hy_2 => ?_)
    refine sv_Q.s (σ' := (24, [some (.ref 0), some (.ref 2), none, none], [.int (hy_2 0 1), .ref 0], (W_Hist hy_2 hv hh hr hc))) 3 rfl ?_
    refine sv_Q.l (fun v4 => (38, [some (.ref 0), some (.ref 2), none, none], [.int v4, .ref 0], (W_Hist hy_2 hv hh hr hc))) (fun v4 => ?_) ?_
    · refine sv_Q.s (σ' := (41, [some (.ref 0), some (.ref 2), none, none], [], (W_Hist (ss hy_2 1 v4) hv hh hr hc))) 1 rfl ?_
      refine sv_Q.go (fun hy_5 => (41, [some (.ref 0), some (.ref 2), none, none], [], (W_Hist hy_5 hv hh hr hc))) (fun hy_5 => ?_)
      refine sv_Q.s (σ' := (58, [some (.ref 0), some (.ref 2), some (.int ((hy_5 0 1) * (31 : Int32))), none], [.int ((hy_5 0 1) * (31 : Int32)), .ref 1, .ref 18], (W_Hist hy_5 hv hh hr hc))) 10 rfl ?_
      refine sv_Q.S (ps := [1]) (rest := [.ref 18]) (st' := [.int (rd 403 (hy_5 1) ((hy_5 0 1) * (31 : Int32))), .ref 18]) (cs' := (W_Hist hy_5 hv hh hr hc)) (q := (58, .null, 0, 0, 0)) lk_Hist_56 (t_K_read 403 rfl (hy_5 1) ((hy_5 0 1) * (31 : Int32))) rfl rfl rfl rfl rfl rfl rfl (su_Hist_1 hy_5 hv hh hr hc) rfl rfl (pu_Hist_1 hy_5 hv hh hr hc) ?_
      refine sv_Q.s (σ' := (64, [some (.ref 0), some (.ref 2), some (.int ((hy_5 0 1) * (31 : Int32))), none], [], (W_Hist hy_5 hv hh hr (ss hc 0 (rd 403 (hy_5 1) ((hy_5 0 1) * (31 : Int32))))))) 1 rfl ?_
      refine sv_Q.go (fun hc_6 => (64, [some (.ref 0), some (.ref 2), some (.int ((hy_5 0 1) * (31 : Int32))), none], [], (W_Hist hy_5 hv hh hr hc_6))) (fun hc_6 => ?_)
      refine sv_Q.s (σ' := (66, [some (.ref 0), some (.ref 2), some (.int ((hy_5 0 1) * (31 : Int32))), some (.int (0 : Int32))], [], (W_Hist hy_5 hv hh hr hc_6))) 2 rfl ?_
      refine sv_Q.lo (fun v10 => (98, [some (.ref 0), some (.ref 2), some (.int ((hy_5 0 1) * (31 : Int32))), none], [], (W_Hist hy_5 hv v10 hr hc_6))) (fun v10 => ?_) (l_Hist_stepBack_66 N N ((hy_5 0 1) * (31 : Int32)) (0 : Int32) hy_5 hv hh hr hc_6)
      · refine sv_Q.s (σ' := (102, [some (.ref 0), some (.ref 2), some (.int ((hy_5 0 1) * (31 : Int32))), none], [.ref 18], (W_Hist hy_5 hv v10 hr hc_6))) 2 rfl ?_
        refine sv_Q.V (b := 0) (av := []) (ps := [18, 19, 20, 21, 22, 23]) (rest := []) (cs1 := (W_Cargo hc_6)) (cs2 := (W_Cargo (F_Cargo_liftAll hc_6))) (st' := []) (cs' := (W_Hist hy_5 hv v10 hr (F_Cargo_liftAll hc_6))) (q := (102, .null, 0, 0, 0)) lk_Hist_64 (t_Cargo_liftAll hc_6) rfl rfl rfl rfl rfl (Or.inl ⟨0, _, _, rfl, rfl, rfl⟩) rfl rfl (sc_Hist_Cargo_4 hy_5 hv v10 hr hc_6) rfl rfl (pc_Hist_Cargo_4 hy_5 hv v10 hr hc_6 (F_Cargo_liftAll hc_6)) ?_
        refine sv_Q.go (fun hc_11 => (105, [some (.ref 0), some (.ref 2), some (.int ((hy_5 0 1) * (31 : Int32))), none], [], (W_Hist hy_5 hv v10 hr hc_11))) (fun hc_11 => ?_)
        refine sv_Q.s (σ' := (107, [some (.ref 0), some (.ref 2), some (.int ((hy_5 0 1) * (31 : Int32))), some (.int (0 : Int32))], [], (W_Hist hy_5 hv v10 hr hc_11))) 2 rfl ?_
        refine sv_Q.lo (fun v14 => (147, [none, none, none, none], [], (W_Hist hy_5 hv v10 hr v14))) (fun v14 => ?_) (l_Hist_stepBack_107 N N ((hy_5 0 1) * (31 : Int32)) (0 : Int32) hy_5 hv v10 hr hc_11)
        · refine sv_Q.s (σ' := (148, [none, none, none, none], [.int (1 : Int32)], (W_Hist hy_5 hv v10 hr v14))) 1 rfl ?_
          exact sv_Q.z ⟨sv_01 (1 : Int32), rfl, Or.inr rfl, rfl⟩
    · refine sv_Q.sb rfl (fun c3 => ?_) (fun c3 => ?_)
      · refine sv_Q.s (σ' := (38, [some (.ref 0), some (.ref 2), none, none], [.int (12 : Int32), .ref 0], (W_Hist hy_2 hv hh hr hc))) 1 rfl ?_
        exact sv_Q.z rfl
      · refine sv_Q.s (σ' := (38, [some (.ref 0), some (.ref 2), none, none], [.int ((hy_2 0 1) - (1 : Int32)), .ref 0], (W_Hist hy_2 hv hh hr hc))) 5 rfl ?_
        exact sv_Q.z rfl
  · refine sv_Q.s (σ' := (8, [some (.ref 0), some (.ref 2), none, none], [.int (0 : Int32)], (W_Hist hy hv hh hr hc))) 1 rfl ?_
    exact sv_Q.z ⟨sv_01 (0 : Int32), rfl, Or.inl rfl, rfl⟩
