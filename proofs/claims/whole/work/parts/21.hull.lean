/-! hull and rules, by program out of the listing -/
theorem pa_Hull_1 (hh : Nat → Nat → Int32) (g : Nat → Int32) : sv_pt [1] (([.inl (0, 144, g)] : List sv_C).map (sv_r (sv_pi [1]))) 0 (W_Hull hh) = W_Hull (sr hh 1 g) := rfl
theorem su_Hull_1 (hh : Nat → Nat → Int32) : sv_sub [1] (W_Hull hh) [.inl (0, 144, hh 1)] := rfl
theorem pu_Hull_1 (hh : Nat → Nat → Int32) : sv_pt [1] (([.inl (0, 144, hh 1)] : List sv_C).map (sv_r (sv_pi [1]))) 0 (W_Hull hh) = W_Hull hh := rfl
theorem pa_Hull_2 (hh : Nat → Nat → Int32) (g : Nat → Int32) : sv_pt [2] (([.inl (0, 144, g)] : List sv_C).map (sv_r (sv_pi [2]))) 0 (W_Hull hh) = W_Hull (sr hh 2 g) := rfl
theorem su_Hull_2 (hh : Nat → Nat → Int32) : sv_sub [2] (W_Hull hh) [.inl (0, 144, hh 2)] := rfl
theorem pu_Hull_2 (hh : Nat → Nat → Int32) : sv_pt [2] (([.inl (0, 144, hh 2)] : List sv_C).map (sv_r (sv_pi [2]))) 0 (W_Hull hh) = W_Hull hh := rfl
theorem pa_Hull_3 (hh : Nat → Nat → Int32) (g : Nat → Int32) : sv_pt [3] (([.inl (0, 144, g)] : List sv_C).map (sv_r (sv_pi [3]))) 0 (W_Hull hh) = W_Hull (sr hh 3 g) := rfl
theorem su_Hull_3 (hh : Nat → Nat → Int32) : sv_sub [3] (W_Hull hh) [.inl (0, 144, hh 3)] := rfl
theorem pu_Hull_3 (hh : Nat → Nat → Int32) : sv_pt [3] (([.inl (0, 144, hh 3)] : List sv_C).map (sv_r (sv_pi [3]))) 0 (W_Hull hh) = W_Hull hh := rfl
theorem pc_Hull_Hull_0 (hh n0 : Nat → Nat → Int32) : sv_pt [0, 1, 2, 3, 4, 5] ((W_Hull n0).map (sv_r (sv_pi [0, 1, 2, 3, 4, 5]))) 0 (W_Hull hh) = W_Hull n0 := rfl
theorem sc_Hull_Hull_0 (hh : Nat → Nat → Int32) : sv_sub [0, 1, 2, 3, 4, 5] (W_Hull hh) (W_Hull hh) := rfl
theorem pa_Hull_5 (hh : Nat → Nat → Int32) (g : Nat → Int32) : sv_pt [5] (([.inl (0, 6, g)] : List sv_C).map (sv_r (sv_pi [5]))) 0 (W_Hull hh) = W_Hull (sr hh 5 g) := rfl
theorem su_Hull_5 (hh : Nat → Nat → Int32) : sv_sub [5] (W_Hull hh) [.inl (0, 6, hh 5)] := rfl
theorem pu_Hull_5 (hh : Nat → Nat → Int32) : sv_pt [5] (([.inl (0, 6, hh 5)] : List sv_C).map (sv_r (sv_pi [5]))) 0 (W_Hull hh) = W_Hull hh := rfl
theorem pa_Hull_4 (hh : Nat → Nat → Int32) (g : Nat → Int32) : sv_pt [4] (([.inl (0, 6, g)] : List sv_C).map (sv_r (sv_pi [4]))) 0 (W_Hull hh) = W_Hull (sr hh 4 g) := rfl
theorem su_Hull_4 (hh : Nat → Nat → Int32) : sv_sub [4] (W_Hull hh) [.inl (0, 6, hh 4)] := rfl
theorem pu_Hull_4 (hh : Nat → Nat → Int32) : sv_pt [4] (([.inl (0, 6, hh 4)] : List sv_C).map (sv_r (sv_pi [4]))) 0 (W_Hull hh) = W_Hull hh := rfl
theorem pa_Rules_1 (hr : Nat → Nat → Int32) (g : Nat → Int32) : sv_pt [1] (([.inl (0, 5, g)] : List sv_C).map (sv_r (sv_pi [1]))) 0 (W_Rules hr) = W_Rules (sr hr 1 g) := rfl
theorem su_Rules_1 (hr : Nat → Nat → Int32) : sv_sub [1] (W_Rules hr) [.inl (0, 5, hr 1)] := rfl
theorem pu_Rules_1 (hr : Nat → Nat → Int32) : sv_pt [1] (([.inl (0, 5, hr 1)] : List sv_C).map (sv_r (sv_pi [1]))) 0 (W_Rules hr) = W_Rules hr := rfl
theorem pa_Rules_6 (hr : Nat → Nat → Int32) (g : Nat → Int32) : sv_pt [6] (([.inl (0, 49, g)] : List sv_C).map (sv_r (sv_pi [6]))) 0 (W_Rules hr) = W_Rules (sr hr 6 g) := rfl
theorem su_Rules_6 (hr : Nat → Nat → Int32) : sv_sub [6] (W_Rules hr) [.inl (0, 49, hr 6)] := rfl
theorem pu_Rules_6 (hr : Nat → Nat → Int32) : sv_pt [6] (([.inl (0, 49, hr 6)] : List sv_C).map (sv_r (sv_pi [6]))) 0 (W_Rules hr) = W_Rules hr := rfl
theorem pa_Rules_2 (hr : Nat → Nat → Int32) (g : Nat → Int32) : sv_pt [2] (([.inl (0, 5, g)] : List sv_C).map (sv_r (sv_pi [2]))) 0 (W_Rules hr) = W_Rules (sr hr 2 g) := rfl
theorem su_Rules_2 (hr : Nat → Nat → Int32) : sv_sub [2] (W_Rules hr) [.inl (0, 5, hr 2)] := rfl
theorem pu_Rules_2 (hr : Nat → Nat → Int32) : sv_pt [2] (([.inl (0, 5, hr 2)] : List sv_C).map (sv_r (sv_pi [2]))) 0 (W_Rules hr) = W_Rules hr := rfl
theorem pa_Rules_3 (hr : Nat → Nat → Int32) (g : Nat → Int32) : sv_pt [3] (([.inl (0, 5, g)] : List sv_C).map (sv_r (sv_pi [3]))) 0 (W_Rules hr) = W_Rules (sr hr 3 g) := rfl
theorem su_Rules_3 (hr : Nat → Nat → Int32) : sv_sub [3] (W_Rules hr) [.inl (0, 5, hr 3)] := rfl
theorem pu_Rules_3 (hr : Nat → Nat → Int32) : sv_pt [3] (([.inl (0, 5, hr 3)] : List sv_C).map (sv_r (sv_pi [3]))) 0 (W_Rules hr) = W_Rules hr := rfl
theorem pa_Rules_4 (hr : Nat → Nat → Int32) (g : Nat → Int32) : sv_pt [4] (([.inl (0, 5, g)] : List sv_C).map (sv_r (sv_pi [4]))) 0 (W_Rules hr) = W_Rules (sr hr 4 g) := rfl
theorem su_Rules_4 (hr : Nat → Nat → Int32) : sv_sub [4] (W_Rules hr) [.inl (0, 5, hr 4)] := rfl
theorem pu_Rules_4 (hr : Nat → Nat → Int32) : sv_pt [4] (([.inl (0, 5, hr 4)] : List sv_C).map (sv_r (sv_pi [4]))) 0 (W_Rules hr) = W_Rules hr := rfl
theorem pa_Rules_5 (hr : Nat → Nat → Int32) (g : Nat → Int32) : sv_pt [5] (([.inl (0, 7, g)] : List sv_C).map (sv_r (sv_pi [5]))) 0 (W_Rules hr) = W_Rules (sr hr 5 g) := rfl
theorem su_Rules_5 (hr : Nat → Nat → Int32) : sv_sub [5] (W_Rules hr) [.inl (0, 7, hr 5)] := rfl
theorem pu_Rules_5 (hr : Nat → Nat → Int32) : sv_pt [5] (([.inl (0, 7, hr 5)] : List sv_C).map (sv_r (sv_pi [5]))) 0 (W_Rules hr) = W_Rules hr := rfl
theorem pc_Rules_Rules_0 (hr n0 : Nat → Nat → Int32) : sv_pt [0, 1, 2, 3, 4, 5, 6, 7] ((W_Rules n0).map (sv_r (sv_pi [0, 1, 2, 3, 4, 5, 6, 7]))) 0 (W_Rules hr) = W_Rules n0 := rfl
theorem sc_Rules_Rules_0 (hr : Nat → Nat → Int32) : sv_sub [0, 1, 2, 3, 4, 5, 6, 7] (W_Rules hr) (W_Rules hr) := rfl
theorem pa_Rules_7 (hr : Nat → Nat → Int32) (g : Nat → Int32) : sv_pt [7] (([.inl (0, 7, g)] : List sv_C).map (sv_r (sv_pi [7]))) 0 (W_Rules hr) = W_Rules (sr hr 7 g) := rfl
theorem su_Rules_7 (hr : Nat → Nat → Int32) : sv_sub [7] (W_Rules hr) [.inl (0, 7, hr 7)] := rfl
theorem pu_Rules_7 (hr : Nat → Nat → Int32) : sv_pt [7] (([.inl (0, 7, hr 7)] : List sv_C).map (sv_r (sv_pi [7]))) 0 (W_Rules hr) = W_Rules hr := rfl
def L_Hull_build_53 (N : Nat) : Nat → Int32 → Int32 → Int32 → (Nat → Nat → Int32) → Option ((Nat → Nat → Int32))
  | 0, _, _, _, _ => none
  | n + 1, x5, x6, x7, hh => (if ((hh 0 2) + (hh 0 3)) ≤ x7 then (some hh) else (sv_let (sw hh 1 144 (hh 0 4) x5) fun (hh_9 : Nat → Nat → Int32) => (sv_let (sw hh_9 2 144 (hh_9 0 4) x6) fun (hh_10 : Nat → Nat → Int32) => (sv_let (sw hh_10 3 144 (hh_10 0 4) x7) fun (hh_11 : Nat → Nat → Int32) => (sv_let (ss hh_11 4 ((hh_11 0 4) + (1 : Int32))) fun (hh_12 : Nat → Nat → Int32) => (L_Hull_build_53 N n x5 x6 (x7 + (1 : Int32)) hh_12))))))
theorem l_Hull_build_53 {X : Nat × (Nat → Int32)} (N : Nat) : ∀ (n : Nat) (x5 : Int32) (x6 : Int32) (x7 : Int32) (hh : Nat → Nat → Int32), sv_Q X 1 M_Hull_build (53, [some (.ref 0), none, none, none, none, some (.int x5), some (.int x6), some (.int x7)], [], (W_Hull hh)) (L_Hull_build_53 N n x5 x6 x7 hh) (fun v σ' => σ' = (122, [some (.ref 0), none, none, none, none, some (.int x5), some (.int x6), none], [], (W_Hull v))) := by
  intro n
  induction n with
  | zero => intro x5 x6 x7 hh; unfold L_Hull_build_53; exact sv_Q.non
  | succ n ih =>
    intro x5 x6 x7 hh
    unfold L_Hull_build_53
    refine sv_Q.s (σ' := (64, [some (.ref 0), none, none, none, none, some (.int x5), some (.int x6), some (.int x7)], [.int ((hh 0 2) + (hh 0 3)), .int x7], (W_Hull hh))) 6 rfl ?_
    refine sv_Q.b rfl (fun c8 => ?_) (fun c8 => ?_)
    · refine sv_Q.f (lo' := [some (.ref 0), none, none, none, none, some (.int x5), some (.int x6), none]) ⟨rfl, ⟨rfl, ⟨rfl, trivial⟩⟩⟩ ?_
      exact sv_Q.z rfl
    · refine sv_Q.s (σ' := (77, [some (.ref 0), none, none, none, none, some (.int x5), some (.int x6), some (.int x7)], [.int x5, .int (hh 0 4), .ref 1], (W_Hull hh))) 5 rfl ?_
      refine sv_Q.S (ps := [1]) (rest := []) (st' := []) (cs' := (W_Hull (sw hh 1 144 (hh 0 4) x5))) (q := (77, .null, 0, 0, 0)) lk_Hull_63 (t_K_write 144 rfl (hh 1) (hh 0 4) x5) rfl rfl rfl rfl rfl rfl rfl (su_Hull_1 hh) rfl rfl (pa_Hull_1 hh (wr 144 (hh 1) (hh 0 4) x5)) ?_
      refine sv_Q.go (fun hh_9 => (80, [some (.ref 0), none, none, none, none, some (.int x5), some (.int x6), some (.int x7)], [], (W_Hull hh_9))) (fun hh_9 => ?_)
      refine sv_Q.s (σ' := (90, [some (.ref 0), none, none, none, none, some (.int x5), some (.int x6), some (.int x7)], [.int x6, .int (hh_9 0 4), .ref 2], (W_Hull hh_9))) 5 rfl ?_
      refine sv_Q.S (ps := [2]) (rest := []) (st' := []) (cs' := (W_Hull (sw hh_9 2 144 (hh_9 0 4) x6))) (q := (90, .null, 0, 0, 0)) lk_Hull_63 (t_K_write 144 rfl (hh_9 2) (hh_9 0 4) x6) rfl rfl rfl rfl rfl rfl rfl (su_Hull_2 hh_9) rfl rfl (pa_Hull_2 hh_9 (wr 144 (hh_9 2) (hh_9 0 4) x6)) ?_
      refine sv_Q.go (fun hh_10 => (93, [some (.ref 0), none, none, none, none, some (.int x5), some (.int x6), some (.int x7)], [], (W_Hull hh_10))) (fun hh_10 => ?_)
      refine sv_Q.s (σ' := (103, [some (.ref 0), none, none, none, none, some (.int x5), some (.int x6), some (.int x7)], [.int x7, .int (hh_10 0 4), .ref 3], (W_Hull hh_10))) 5 rfl ?_
      refine sv_Q.S (ps := [3]) (rest := []) (st' := []) (cs' := (W_Hull (sw hh_10 3 144 (hh_10 0 4) x7))) (q := (103, .null, 0, 0, 0)) lk_Hull_63 (t_K_write 144 rfl (hh_10 3) (hh_10 0 4) x7) rfl rfl rfl rfl rfl rfl rfl (su_Hull_3 hh_10) rfl rfl (pa_Hull_3 hh_10 (wr 144 (hh_10 3) (hh_10 0 4) x7)) ?_
      refine sv_Q.go (fun hh_11 => (106, [some (.ref 0), none, none, none, none, some (.int x5), some (.int x6), some (.int x7)], [], (W_Hull hh_11))) (fun hh_11 => ?_)
      refine sv_Q.s (σ' := (116, [some (.ref 0), none, none, none, none, some (.int x5), some (.int x6), some (.int x7)], [], (W_Hull (ss hh_11 4 ((hh_11 0 4) + (1 : Int32)))))) 6 rfl ?_
      refine sv_Q.go (fun hh_12 => (116, [some (.ref 0), none, none, none, none, some (.int x5), some (.int x6), some (.int x7)], [], (W_Hull hh_12))) (fun hh_12 => ?_)
      refine sv_Q.s (σ' := (53, [some (.ref 0), none, none, none, none, some (.int x5), some (.int x6), some (.int (x7 + (1 : Int32)))], [], (W_Hull hh_12))) 2 rfl ?_
      exact ih x5 x6 (x7 + (1 : Int32)) hh_12
def L_Hull_build_41 (N : Nat) : Nat → Int32 → Int32 → (Nat → Nat → Int32) → Option ((Nat → Nat → Int32))
  | 0, _, _, _ => none
  | n + 1, x5, x6, hh => (if (hh 0 1) ≤ x6 then (some hh) else (Option.bind (L_Hull_build_53 N N x5 x6 (0 : Int32) hh) fun (v13 : (Nat → Nat → Int32)) => (L_Hull_build_41 N n x5 (x6 + (1 : Int32)) v13)))
theorem l_Hull_build_41 {X : Nat × (Nat → Int32)} (N : Nat) : ∀ (n : Nat) (x5 : Int32) (x6 : Int32) (hh : Nat → Nat → Int32), sv_Q X 1 M_Hull_build (41, [some (.ref 0), none, none, none, none, some (.int x5), some (.int x6), none], [], (W_Hull hh)) (L_Hull_build_41 N n x5 x6 hh) (fun v σ' => σ' = (128, [some (.ref 0), none, none, none, none, some (.int x5), none, none], [], (W_Hull v))) := by
  intro n
  induction n with
  | zero => intro x5 x6 hh; unfold L_Hull_build_41; exact sv_Q.non
  | succ n ih =>
    intro x5 x6 hh
    unfold L_Hull_build_41
    refine sv_Q.s (σ' := (47, [some (.ref 0), none, none, none, none, some (.int x5), some (.int x6), none], [.int (hh 0 1), .int x6], (W_Hull hh))) 3 rfl ?_
    refine sv_Q.b rfl (fun c7 => ?_) (fun c7 => ?_)
    · refine sv_Q.f (lo' := [some (.ref 0), none, none, none, none, some (.int x5), none, none]) ⟨rfl, ⟨rfl, trivial⟩⟩ ?_
      exact sv_Q.z rfl
    · refine sv_Q.s (σ' := (53, [some (.ref 0), none, none, none, none, some (.int x5), some (.int x6), some (.int (0 : Int32))], [], (W_Hull hh))) 2 rfl ?_
      refine sv_Q.lo (fun v13 => (122, [some (.ref 0), none, none, none, none, some (.int x5), some (.int x6), none], [], (W_Hull v13))) (fun v13 => ?_) (l_Hull_build_53 N N x5 x6 (0 : Int32) hh)
      · refine sv_Q.s (σ' := (41, [some (.ref 0), none, none, none, none, some (.int x5), some (.int (x6 + (1 : Int32))), none], [], (W_Hull v13))) 2 rfl ?_
        exact ih x5 (x6 + (1 : Int32)) v13
def L_Hull_build_29 (N : Nat) : Nat → Int32 → (Nat → Nat → Int32) → Option ((Nat → Nat → Int32))
  | 0, _, _ => none
  | n + 1, x5, hh => (if (hh 0 0) ≤ x5 then (some hh) else (Option.bind (L_Hull_build_41 N N x5 (0 : Int32) hh) fun (v14 : (Nat → Nat → Int32)) => (L_Hull_build_29 N n (x5 + (1 : Int32)) v14)))
theorem l_Hull_build_29 {X : Nat × (Nat → Int32)} (N : Nat) : ∀ (n : Nat) (x5 : Int32) (hh : Nat → Nat → Int32), sv_Q X 1 M_Hull_build (29, [some (.ref 0), none, none, none, none, some (.int x5), none, none], [], (W_Hull hh)) (L_Hull_build_29 N n x5 hh) (fun v σ' => σ' = (134, [none, none, none, none, none, none, none, none], [], (W_Hull v))) := by
  intro n
  induction n with
  | zero => intro x5 hh; unfold L_Hull_build_29; exact sv_Q.non
  | succ n ih =>
    intro x5 hh
    unfold L_Hull_build_29
    refine sv_Q.s (σ' := (35, [some (.ref 0), none, none, none, none, some (.int x5), none, none], [.int (hh 0 0), .int x5], (W_Hull hh))) 3 rfl ?_
    refine sv_Q.b rfl (fun c6 => ?_) (fun c6 => ?_)
    · refine sv_Q.f (lo' := [none, none, none, none, none, none, none, none]) trivial ?_
      exact sv_Q.z rfl
    · refine sv_Q.s (σ' := (41, [some (.ref 0), none, none, none, none, some (.int x5), some (.int (0 : Int32)), none], [], (W_Hull hh))) 2 rfl ?_
      refine sv_Q.lo (fun v14 => (128, [some (.ref 0), none, none, none, none, some (.int x5), none, none], [], (W_Hull v14))) (fun v14 => ?_) (l_Hull_build_41 N N x5 (0 : Int32) hh)
      · refine sv_Q.s (σ' := (29, [some (.ref 0), none, none, none, none, some (.int (x5 + (1 : Int32))), none, none], [], (W_Hull v14))) 2 rfl ?_
        exact ih (x5 + (1 : Int32)) v14
def F_Hull_build (N : Nat) (a0 : Int32) (a1 : Int32) (a2 : Int32) (a3 : Int32) (hh : Nat → Nat → Int32) : Option ((Nat → Nat → Int32)) := (sv_let (ss hh 0 a0) fun (hh_1 : Nat → Nat → Int32) => (sv_let (ss hh_1 1 a1) fun (hh_2 : Nat → Nat → Int32) => (sv_let (ss hh_2 2 a2) fun (hh_3 : Nat → Nat → Int32) => (sv_let (ss hh_3 3 a3) fun (hh_4 : Nat → Nat → Int32) => (sv_let (ss hh_4 4 (0 : Int32)) fun (hh_5 : Nat → Nat → Int32) => (Option.bind (L_Hull_build_29 N N (0 : Int32) hh_5) fun (v15 : (Nat → Nat → Int32)) => (some v15)))))))
theorem r_Hull_build {X : Nat × (Nat → Int32)} (N : Nat) (hh : Nat → Nat → Int32) (a0 : Int32) (a1 : Int32) (a2 : Int32) (a3 : Int32) : ∀ x, (F_Hull_build N a0 a1 a2 a3 hh) = some x → sv_R X 2 M_Hull_build [.ref 0, .int a0, .int a1, .int a2, .int a3] (W_Hull hh) none (W_Hull x) := by
  refine sv_Q.R (res := (fun (x : (Nat → Nat → Int32)) => ((none : Option Value), (W_Hull x)))) g_Hull_build rfl ?_
  unfold F_Hull_build
  refine sv_Q.s (σ' := (5, [some (.ref 0), some (.int a0), some (.int a1), some (.int a2), some (.int a3), none, none, none], [], (W_Hull (ss hh 0 a0)))) 3 rfl ?_
  refine sv_Q.go (fun hh_1 => (5, [some (.ref 0), some (.int a0), some (.int a1), some (.int a2), some (.int a3), none, none, none], [], (W_Hull hh_1))) (fun hh_1 => ?_)
  refine sv_Q.s (σ' := (10, [some (.ref 0), some (.int a0), some (.int a1), some (.int a2), some (.int a3), none, none, none], [], (W_Hull (ss hh_1 1 a1)))) 3 rfl ?_
  refine sv_Q.go (fun hh_2 => (10, [some (.ref 0), some (.int a0), some (.int a1), some (.int a2), some (.int a3), none, none, none], [], (W_Hull hh_2))) (fun hh_2 => ?_)
  refine sv_Q.s (σ' := (15, [some (.ref 0), some (.int a0), some (.int a1), some (.int a2), some (.int a3), none, none, none], [], (W_Hull (ss hh_2 2 a2)))) 3 rfl ?_
  refine sv_Q.go (fun hh_3 => (15, [some (.ref 0), some (.int a0), some (.int a1), some (.int a2), some (.int a3), none, none, none], [], (W_Hull hh_3))) (fun hh_3 => ?_)
  refine sv_Q.s (σ' := (21, [some (.ref 0), some (.int a0), some (.int a1), some (.int a2), some (.int a3), none, none, none], [], (W_Hull (ss hh_3 3 a3)))) 3 rfl ?_
  refine sv_Q.go (fun hh_4 => (21, [some (.ref 0), some (.int a0), some (.int a1), some (.int a2), some (.int a3), none, none, none], [], (W_Hull hh_4))) (fun hh_4 => ?_)
  refine sv_Q.s (σ' := (26, [some (.ref 0), some (.int a0), some (.int a1), some (.int a2), some (.int a3), none, none, none], [], (W_Hull (ss hh_4 4 (0 : Int32))))) 3 rfl ?_
  refine sv_Q.go (fun hh_5 => (26, [some (.ref 0), some (.int a0), some (.int a1), some (.int a2), some (.int a3), none, none, none], [], (W_Hull hh_5))) (fun hh_5 => ?_)
  refine sv_Q.s (σ' := (29, [some (.ref 0), some (.int a0), some (.int a1), some (.int a2), some (.int a3), some (.int (0 : Int32)), none, none], [], (W_Hull hh_5))) 2 rfl ?_
  refine sv_Q.f (lo' := [some (.ref 0), none, none, none, none, some (.int (0 : Int32)), none, none]) ⟨rfl, ⟨rfl, trivial⟩⟩ ?_
  refine sv_Q.lo (fun v15 => (134, [none, none, none, none, none, none, none, none], [], (W_Hull v15))) (fun v15 => ?_) (l_Hull_build_29 N N (0 : Int32) hh_5)
  · exact sv_Q.z ⟨True, rfl, trivial, rfl⟩
def F_Hull_reset (N : Nat) (hh : Nat → Nat → Int32) : Option ((Nat → Nat → Int32)) := (Option.bind (F_Hull_build N (0 : Int32) (0 : Int32) (0 : Int32) (0 : Int32) hh) fun (v1 : (Nat → Nat → Int32)) => (sv_let (ss v1 5 (999 : Int32)) fun (hh_3 : Nat → Nat → Int32) => (sv_let (ss hh_3 6 (999 : Int32)) fun (hh_4 : Nat → Nat → Int32) => (sv_let (ss hh_4 7 (0 : Int32)) fun (hh_5 : Nat → Nat → Int32) => (sv_let (sf hh_5 5 6 (0 : Int32)) fun (hh_6 : Nat → Nat → Int32) => (sv_let (sf hh_6 4 6 (0 : Int32)) fun (hh_7 : Nat → Nat → Int32) => (some hh_7)))))))
theorem r_Hull_reset {X : Nat × (Nat → Int32)} (N : Nat) (hh : Nat → Nat → Int32) : ∀ x, (F_Hull_reset N hh) = some x → sv_R X 3 M_Hull_reset [.ref 0] (W_Hull hh) none (W_Hull x) := by
  refine sv_Q.R (res := (fun (x : (Nat → Nat → Int32)) => ((none : Option Value), (W_Hull x)))) g_Hull_reset rfl ?_
  unfold F_Hull_reset
  refine sv_Q.s (σ' := (5, [some (.ref 0)], [.int (0 : Int32), .int (0 : Int32), .int (0 : Int32), .int (0 : Int32), .ref 0], (W_Hull hh))) 5 rfl ?_
  refine sv_Q.o (fun v1 e2 => ?_)
  refine sv_Q.V (b := 0) (av := [.int (0 : Int32), .int (0 : Int32), .int (0 : Int32), .int (0 : Int32)]) (ps := [0, 1, 2, 3, 4, 5]) (rest := []) (cs1 := (W_Hull hh)) (cs2 := (W_Hull v1)) (st' := []) (cs' := (W_Hull v1)) (q := (5, .null, 0, 0, 0)) lk_Hull_53 (r_Hull_build N hh (0 : Int32) (0 : Int32) (0 : Int32) (0 : Int32) v1 e2) rfl rfl rfl rfl rfl (Or.inl ⟨2, _, _, rfl, rfl, rfl⟩) rfl rfl (sc_Hull_Hull_0 hh) rfl rfl (pc_Hull_Hull_0 hh v1) ?_
  refine sv_Q.s (σ' := (15, [some (.ref 0)], [], (W_Hull (ss v1 5 (999 : Int32))))) 3 rfl ?_
  refine sv_Q.go (fun hh_3 => (15, [some (.ref 0)], [], (W_Hull hh_3))) (fun hh_3 => ?_)
  refine sv_Q.s (σ' := (22, [some (.ref 0)], [], (W_Hull (ss hh_3 6 (999 : Int32))))) 3 rfl ?_
  refine sv_Q.go (fun hh_4 => (22, [some (.ref 0)], [], (W_Hull hh_4))) (fun hh_4 => ?_)
  refine sv_Q.s (σ' := (24, [some (.ref 0)], [.int (0 : Int32), .ref 0], (W_Hull hh_4))) 2 rfl ?_
  refine sv_Q.gk (σ' := (27, [some (.ref 0)], [], (W_Hull (ss hh_4 7 (0 : Int32))))) (c := sv_01 (0 : Int32)) rfl (Or.inl rfl) ?_
  refine sv_Q.go (fun hh_5 => (27, [some (.ref 0)], [], (W_Hull hh_5))) (fun hh_5 => ?_)
  refine sv_Q.s (σ' := (32, [some (.ref 0)], [.int (0 : Int32), .ref 5], (W_Hull hh_5))) 3 rfl ?_
  refine sv_Q.S (ps := [5]) (rest := []) (st' := []) (cs' := (W_Hull (sf hh_5 5 6 (0 : Int32)))) (q := (32, .null, 0, 0, 0)) lk_Hull_57 (t_Arr_fill 6 (Nat.le_of_ble_eq_true rfl) (hh_5 5) (0 : Int32)) rfl rfl rfl rfl rfl rfl rfl (su_Hull_5 hh_5) rfl rfl (pa_Hull_5 hh_5 (sv_fl 6 (hh_5 5) (0 : Int32))) ?_
  refine sv_Q.go (fun hh_6 => (35, [some (.ref 0)], [], (W_Hull hh_6))) (fun hh_6 => ?_)
  refine sv_Q.s (σ' := (40, [some (.ref 0)], [.int (0 : Int32), .ref 4], (W_Hull hh_6))) 3 rfl ?_
  refine sv_Q.S (ps := [4]) (rest := []) (st' := []) (cs' := (W_Hull (sf hh_6 4 6 (0 : Int32)))) (q := (40, .null, 0, 0, 0)) lk_Hull_57 (t_Arr_fill 6 (Nat.le_of_ble_eq_true rfl) (hh_6 4) (0 : Int32)) rfl rfl rfl rfl rfl rfl rfl (su_Hull_4 hh_6) rfl rfl (pa_Hull_4 hh_6 (sv_fl 6 (hh_6 4) (0 : Int32))) ?_
  refine sv_Q.go (fun hh_7 => (43, [some (.ref 0)], [], (W_Hull hh_7))) (fun hh_7 => ?_)
  exact sv_Q.z ⟨True, rfl, trivial, rfl⟩
def F_Hull_tellBears (a0 : Int32) (a1 : Int32) (hh : Nat → Nat → Int32) : (Nat → Nat → Int32) := (sv_let (ss hh 5 a0) fun (hh_1 : Nat → Nat → Int32) => (sv_let (ss hh_1 6 a1) fun (hh_2 : Nat → Nat → Int32) => (sv_let (ss hh_2 7 (1 : Int32)) fun (hh_3 : Nat → Nat → Int32) => hh_3)))
theorem r_Hull_tellBears {X : Nat × (Nat → Int32)} (hh : Nat → Nat → Int32) (a0 : Int32) (a1 : Int32) : ∀ x, some (F_Hull_tellBears a0 a1 hh) = some x → sv_R X 1 M_Hull_tellBears [.ref 0, .int a0, .int a1] (W_Hull hh) none (W_Hull x) := by
  refine sv_Q.R (res := (fun (x : (Nat → Nat → Int32)) => ((none : Option Value), (W_Hull x)))) g_Hull_tellBears rfl ?_
  unfold F_Hull_tellBears
  refine sv_Q.s (σ' := (5, [some (.ref 0), some (.int a0), some (.int a1)], [], (W_Hull (ss hh 5 a0)))) 3 rfl ?_
  refine sv_Q.gs (fun hh_1 => (5, [some (.ref 0), some (.int a0), some (.int a1)], [], (W_Hull hh_1))) (fun hh_1 => ?_)
  refine sv_Q.s (σ' := (10, [some (.ref 0), some (.int a0), some (.int a1)], [], (W_Hull (ss hh_1 6 a1)))) 3 rfl ?_
  refine sv_Q.gs (fun hh_2 => (10, [some (.ref 0), some (.int a0), some (.int a1)], [], (W_Hull hh_2))) (fun hh_2 => ?_)
  refine sv_Q.s (σ' := (12, [some (.ref 0), some (.int a0), some (.int a1)], [.int (1 : Int32), .ref 0], (W_Hull hh_2))) 2 rfl ?_
  refine sv_Q.gk (σ' := (15, [some (.ref 0), some (.int a0), some (.int a1)], [], (W_Hull (ss hh_2 7 (1 : Int32))))) (c := sv_01 (1 : Int32)) rfl (Or.inr rfl) ?_
  refine sv_Q.gs (fun hh_3 => (15, [some (.ref 0), some (.int a0), some (.int a1)], [], (W_Hull hh_3))) (fun hh_3 => ?_)
  exact sv_Q.z ⟨True, rfl, trivial, rfl⟩
theorem t_Hull_tellBears {X : Nat × (Nat → Int32)} (hh : Nat → Nat → Int32) (a0 : Int32) (a1 : Int32) : sv_R X 1 M_Hull_tellBears [.ref 0, .int a0, .int a1] (W_Hull hh) none (W_Hull (F_Hull_tellBears a0 a1 hh)) := r_Hull_tellBears hh a0 a1 _ rfl
def F_K_within (a0 : Int32) (a1 : Int32) (a2 : Int32) : Int32 := (if a0 < a1 then (0 : Int32) else (if a2 < a0 then (0 : Int32) else (1 : Int32)))
theorem r_K_within {X : Nat × (Nat → Int32)} (a0 : Int32) (a1 : Int32) (a2 : Int32) : ∀ x, some (F_K_within a0 a1 a2) = some x → sv_R X 1 M_K_within [.int a0, .int a1, .int a2] [] (some (.int x)) [] := by
  refine sv_Q.R (res := (fun (x : Int32) => (some (.int x), []))) g_K_within rfl ?_
  unfold F_K_within
  refine sv_Q.s (σ' := (2, [some (.int a0), some (.int a1), some (.int a2)], [.int a1, .int a0], [])) 2 rfl ?_
  refine sv_Q.sb rfl (fun c1 => ?_) (fun c1 => ?_)
  · refine sv_Q.s (σ' := (15, [some (.int a0), some (.int a1), some (.int a2)], [.int (0 : Int32)], [])) 1 rfl ?_
    exact sv_Q.z ⟨sv_01 (0 : Int32), rfl, Or.inl rfl, rfl⟩
  · refine sv_Q.s (σ' := (7, [some (.int a0), some (.int a1), some (.int a2)], [.int a2, .int a0], [])) 2 rfl ?_
    refine sv_Q.sb rfl (fun c2 => ?_) (fun c2 => ?_)
    · refine sv_Q.s (σ' := (15, [some (.int a0), some (.int a1), some (.int a2)], [.int (0 : Int32)], [])) 1 rfl ?_
      exact sv_Q.z ⟨sv_01 (0 : Int32), rfl, Or.inl rfl, rfl⟩
    · refine sv_Q.s (σ' := (15, [some (.int a0), some (.int a1), some (.int a2)], [.int (1 : Int32)], [])) 2 rfl ?_
      exact sv_Q.z ⟨sv_01 (1 : Int32), rfl, Or.inr rfl, rfl⟩
theorem t_K_within {X : Nat × (Nat → Int32)} (a0 : Int32) (a1 : Int32) (a2 : Int32) : sv_R X 1 M_K_within [.int a0, .int a1, .int a2] [] (some (.int (F_K_within a0 a1 a2))) [] := r_K_within a0 a1 a2 _ rfl
theorem b_K_within (a0 : Int32) (a1 : Int32) (a2 : Int32) : sv_01 (F_K_within a0 a1 a2) := by
  unfold F_K_within
  try simp only [sv_let]
  repeat' split
  all_goals first | exact Or.inl rfl | exact Or.inr rfl
def F_Hull_wallAt (a0 : Int32) (hh : Nat → Nat → Int32) : Int32 := (if (F_K_within a0 (0 : Int32) ((hh 0 0) - (2 : Int32))) = 0 then (0 : Int32) else (rd 6 (hh 5) a0))
theorem r_Hull_wallAt {X : Nat × (Nat → Int32)} (hh : Nat → Nat → Int32) (a0 : Int32) : ∀ x, some (F_Hull_wallAt a0 hh) = some x → sv_R X 2 M_Hull_wallAt [.ref 0, .int a0] (W_Hull hh) (some (.int x)) (W_Hull hh) := by
  refine sv_Q.R (res := (fun (x : Int32) => (some (.int x), (W_Hull hh)))) g_Hull_wallAt rfl ?_
  unfold F_Hull_wallAt
  refine sv_Q.s (σ' := (8, [some (.ref 0), some (.int a0)], [.int ((hh 0 0) - (2 : Int32)), .int (0 : Int32), .int a0], (W_Hull hh))) 6 rfl ?_
  refine sv_Q.S (ps := []) (rest := []) (cs1 := []) (cs2 := []) (st' := [.int (F_K_within a0 (0 : Int32) ((hh 0 0) - (2 : Int32)))]) (cs' := (W_Hull hh)) (q := (8, .null, 0, 0, 0)) lk_Hull_67 (t_K_within a0 (0 : Int32) ((hh 0 0) - (2 : Int32))) rfl rfl rfl rfl rfl rfl rfl rfl rfl rfl (sv_pt_nil _ _) ?_
  refine sv_Q.sb rfl (fun c1 => ?_) (fun c1 => ?_)
  · refine sv_Q.s (σ' := (26, [some (.ref 0), some (.int a0)], [.int (0 : Int32)], (W_Hull hh))) 1 rfl ?_
    exact sv_Q.z ⟨True, rfl, trivial, rfl⟩
  · refine sv_Q.s (σ' := (19, [some (.ref 0), some (.int a0)], [.int a0, .ref 5], (W_Hull hh))) 3 rfl ?_
    refine sv_Q.S (ps := [5]) (rest := []) (st' := [.int (rd 6 (hh 5) a0)]) (cs' := (W_Hull hh)) (q := (19, .null, 0, 0, 0)) lk_Hull_71 (t_K_read 6 rfl (hh 5) a0) rfl rfl rfl rfl rfl rfl rfl (su_Hull_5 hh) rfl rfl (pu_Hull_5 hh) ?_
    refine sv_Q.s (σ' := (26, [some (.ref 0), some (.int a0)], [.int (rd 6 (hh 5) a0)], (W_Hull hh))) 1 rfl ?_
    exact sv_Q.z ⟨True, rfl, trivial, rfl⟩
theorem t_Hull_wallAt {X : Nat × (Nat → Int32)} (hh : Nat → Nat → Int32) (a0 : Int32) : sv_R X 2 M_Hull_wallAt [.ref 0, .int a0] (W_Hull hh) (some (.int (F_Hull_wallAt a0 hh))) (W_Hull hh) := r_Hull_wallAt hh a0 _ rfl
def L_Hull_setWall_14 (N : Nat) : Nat → Int32 → Int32 → (Nat → Nat → Int32) → Option ((Nat → Nat → Int32))
  | 0, _, _, _ => none
  | n + 1, x3, x4, hh => (if (6 : Int32) ≤ x4 then (some hh) else (sv_let (sw hh 4 6 x4 x3) fun (hh_3 : Nat → Nat → Int32) => (if (rd 6 (hh_3 5) x4) = (1 : Int32) then (L_Hull_setWall_14 N n (x3 + (1 : Int32)) (x4 + (1 : Int32)) hh_3) else (if ¬ (rd 6 (hh_3 5) x4) = (3 : Int32) then (L_Hull_setWall_14 N n (x3 + (0 : Int32)) (x4 + (1 : Int32)) hh_3) else (L_Hull_setWall_14 N n (x3 + (1 : Int32)) (x4 + (1 : Int32)) hh_3)))))
theorem l_Hull_setWall_14 {X : Nat × (Nat → Int32)} (N : Nat) : ∀ (n : Nat) (x3 : Int32) (x4 : Int32) (hh : Nat → Nat → Int32), sv_Q X 1 M_Hull_setWall (14, [some (.ref 0), none, none, some (.int x3), some (.int x4), none], [], (W_Hull hh)) (L_Hull_setWall_14 N n x3 x4 hh) (fun v σ' => σ' = (68, [none, none, none, none, none, none], [], (W_Hull v))) := by
  intro n
  induction n with
  | zero => intro x3 x4 hh; unfold L_Hull_setWall_14; exact sv_Q.non
  | succ n ih =>
    intro x3 x4 hh
    unfold L_Hull_setWall_14
    refine sv_Q.s (σ' := (18, [some (.ref 0), none, none, some (.int x3), some (.int x4), none], [.int (6 : Int32), .int x4], (W_Hull hh))) 2 rfl ?_
    refine sv_Q.b rfl (fun c2 => ?_) (fun c2 => ?_)
    · refine sv_Q.f (lo' := [none, none, none, none, none, none]) trivial ?_
      exact sv_Q.z rfl
    · refine sv_Q.s (σ' := (28, [some (.ref 0), none, none, some (.int x3), some (.int x4), none], [.int x3, .int x4, .ref 4], (W_Hull hh))) 4 rfl ?_
      refine sv_Q.S (ps := [4]) (rest := []) (st' := []) (cs' := (W_Hull (sw hh 4 6 x4 x3))) (q := (28, .null, 0, 0, 0)) lk_Hull_63 (t_K_write 6 rfl (hh 4) x4 x3) rfl rfl rfl rfl rfl rfl rfl (su_Hull_4 hh) rfl rfl (pa_Hull_4 hh (wr 6 (hh 4) x4 x3)) ?_
      refine sv_Q.go (fun hh_3 => (31, [some (.ref 0), none, none, some (.int x3), some (.int x4), none], [], (W_Hull hh_3))) (fun hh_3 => ?_)
      refine sv_Q.s (σ' := (37, [some (.ref 0), none, none, some (.int x3), some (.int x4), none], [.int x4, .ref 5], (W_Hull hh_3))) 3 rfl ?_
      refine sv_Q.S (ps := [5]) (rest := []) (st' := [.int (rd 6 (hh_3 5) x4)]) (cs' := (W_Hull hh_3)) (q := (37, .null, 0, 0, 0)) lk_Hull_71 (t_K_read 6 rfl (hh_3 5) x4) rfl rfl rfl rfl rfl rfl rfl (su_Hull_5 hh_3) rfl rfl (pu_Hull_5 hh_3) ?_
      refine sv_Q.s (σ' := (46, [some (.ref 0), none, none, some (.int x3), some (.int x4), some (.int (rd 6 (hh_3 5) x4))], [.int (1 : Int32), .int (rd 6 (hh_3 5) x4), .int x3], (W_Hull hh_3))) 4 rfl ?_
      refine sv_Q.b rfl (fun c4 => ?_) (fun c4 => ?_)
      · refine sv_Q.s (σ' := (14, [some (.ref 0), none, none, some (.int (x3 + (1 : Int32))), some (.int (x4 + (1 : Int32))), some (.int (rd 6 (hh_3 5) x4))], [], (W_Hull hh_3))) 6 rfl ?_
        refine sv_Q.f (lo' := [some (.ref 0), none, none, some (.int (x3 + (1 : Int32))), some (.int (x4 + (1 : Int32))), none]) ⟨rfl, ⟨rfl, ⟨rfl, trivial⟩⟩⟩ ?_
        exact ih (x3 + (1 : Int32)) (x4 + (1 : Int32)) hh_3
      · refine sv_Q.s (σ' := (52, [some (.ref 0), none, none, some (.int x3), some (.int x4), some (.int (rd 6 (hh_3 5) x4))], [.int (3 : Int32), .int (rd 6 (hh_3 5) x4), .int x3], (W_Hull hh_3))) 2 rfl ?_
        refine sv_Q.b rfl (fun c5 => ?_) (fun c5 => ?_)
        · refine sv_Q.s (σ' := (14, [some (.ref 0), none, none, some (.int (x3 + (0 : Int32))), some (.int (x4 + (1 : Int32))), some (.int (rd 6 (hh_3 5) x4))], [], (W_Hull hh_3))) 5 rfl ?_
          refine sv_Q.f (lo' := [some (.ref 0), none, none, some (.int (x3 + (0 : Int32))), some (.int (x4 + (1 : Int32))), none]) ⟨rfl, ⟨rfl, ⟨rfl, trivial⟩⟩⟩ ?_
          exact ih (x3 + (0 : Int32)) (x4 + (1 : Int32)) hh_3
        · refine sv_Q.s (σ' := (14, [some (.ref 0), none, none, some (.int (x3 + (1 : Int32))), some (.int (x4 + (1 : Int32))), some (.int (rd 6 (hh_3 5) x4))], [], (W_Hull hh_3))) 6 rfl ?_
          refine sv_Q.f (lo' := [some (.ref 0), none, none, some (.int (x3 + (1 : Int32))), some (.int (x4 + (1 : Int32))), none]) ⟨rfl, ⟨rfl, ⟨rfl, trivial⟩⟩⟩ ?_
          exact ih (x3 + (1 : Int32)) (x4 + (1 : Int32)) hh_3
def F_Hull_setWall (N : Nat) (a0 : Int32) (a1 : Int32) (hh : Nat → Nat → Int32) : Option ((Nat → Nat → Int32)) := (sv_let (sw hh 5 6 a0 a1) fun (hh_1 : Nat → Nat → Int32) => (Option.bind (L_Hull_setWall_14 N N (0 : Int32) (0 : Int32) hh_1) fun (v6 : (Nat → Nat → Int32)) => (some v6)))
theorem r_Hull_setWall {X : Nat × (Nat → Int32)} (N : Nat) (hh : Nat → Nat → Int32) (a0 : Int32) (a1 : Int32) : ∀ x, (F_Hull_setWall N a0 a1 hh) = some x → sv_R X 2 M_Hull_setWall [.ref 0, .int a0, .int a1] (W_Hull hh) none (W_Hull x) := by
  refine sv_Q.R (res := (fun (x : (Nat → Nat → Int32)) => ((none : Option Value), (W_Hull x)))) g_Hull_setWall rfl ?_
  unfold F_Hull_setWall
  refine sv_Q.s (σ' := (6, [some (.ref 0), some (.int a0), some (.int a1), none, none, none], [.int a1, .int a0, .ref 5], (W_Hull hh))) 4 rfl ?_
  refine sv_Q.S (ps := [5]) (rest := []) (st' := []) (cs' := (W_Hull (sw hh 5 6 a0 a1))) (q := (6, .null, 0, 0, 0)) lk_Hull_63 (t_K_write 6 rfl (hh 5) a0 a1) rfl rfl rfl rfl rfl rfl rfl (su_Hull_5 hh) rfl rfl (pa_Hull_5 hh (wr 6 (hh 5) a0 a1)) ?_
  refine sv_Q.go (fun hh_1 => (9, [some (.ref 0), some (.int a0), some (.int a1), none, none, none], [], (W_Hull hh_1))) (fun hh_1 => ?_)
  refine sv_Q.s (σ' := (14, [some (.ref 0), some (.int a0), some (.int a1), some (.int (0 : Int32)), some (.int (0 : Int32)), none], [], (W_Hull hh_1))) 4 rfl ?_
  refine sv_Q.f (lo' := [some (.ref 0), none, none, some (.int (0 : Int32)), some (.int (0 : Int32)), none]) ⟨rfl, ⟨rfl, ⟨rfl, trivial⟩⟩⟩ ?_
  refine sv_Q.lo (fun v6 => (68, [none, none, none, none, none, none], [], (W_Hull v6))) (fun v6 => ?_) (l_Hull_setWall_14 N N (0 : Int32) (0 : Int32) hh_1)
  · exact sv_Q.z ⟨True, rfl, trivial, rfl⟩
def F_Hull_hasDoor (a0 : Int32) (hh : Nat → Nat → Int32) : Int32 := (if (F_Hull_wallAt a0 hh) = (2 : Int32) then (1 : Int32) else (if ¬ (F_Hull_wallAt a0 hh) = (3 : Int32) then (0 : Int32) else (1 : Int32)))
theorem r_Hull_hasDoor {X : Nat × (Nat → Int32)} (hh : Nat → Nat → Int32) (a0 : Int32) : ∀ x, some (F_Hull_hasDoor a0 hh) = some x → sv_R X 3 M_Hull_hasDoor [.ref 0, .int a0] (W_Hull hh) (some (.int x)) (W_Hull hh) := by
  refine sv_Q.R (res := (fun (x : Int32) => (some (.int x), (W_Hull hh)))) g_Hull_hasDoor rfl ?_
  unfold F_Hull_hasDoor
  refine sv_Q.s (σ' := (2, [some (.ref 0), some (.int a0), none], [.int a0, .ref 0], (W_Hull hh))) 2 rfl ?_
  refine sv_Q.V (b := 0) (av := [.int a0]) (ps := [0, 1, 2, 3, 4, 5]) (rest := []) (cs1 := (W_Hull hh)) (cs2 := (W_Hull hh)) (st' := [.int (F_Hull_wallAt a0 hh)]) (cs' := (W_Hull hh)) (q := (2, .null, 0, 0, 0)) lk_Hull_75 (t_Hull_wallAt hh a0) rfl rfl rfl rfl rfl (Or.inl ⟨2, _, _, rfl, rfl, rfl⟩) rfl rfl (sc_Hull_Hull_0 hh) rfl rfl (pc_Hull_Hull_0 hh hh) ?_
  refine sv_Q.s (σ' := (8, [some (.ref 0), some (.int a0), some (.int (F_Hull_wallAt a0 hh))], [.int (2 : Int32), .int (F_Hull_wallAt a0 hh)], (W_Hull hh))) 3 rfl ?_
  refine sv_Q.sb rfl (fun c1 => ?_) (fun c1 => ?_)
  · refine sv_Q.s (σ' := (21, [some (.ref 0), some (.int a0), some (.int (F_Hull_wallAt a0 hh))], [.int (1 : Int32)], (W_Hull hh))) 2 rfl ?_
    exact sv_Q.z ⟨sv_01 (1 : Int32), rfl, Or.inr rfl, rfl⟩
  · refine sv_Q.s (σ' := (13, [some (.ref 0), some (.int a0), some (.int (F_Hull_wallAt a0 hh))], [.int (3 : Int32), .int (F_Hull_wallAt a0 hh)], (W_Hull hh))) 2 rfl ?_
    refine sv_Q.sb rfl (fun c2 => ?_) (fun c2 => ?_)
    · refine sv_Q.s (σ' := (21, [some (.ref 0), some (.int a0), some (.int (F_Hull_wallAt a0 hh))], [.int (0 : Int32)], (W_Hull hh))) 1 rfl ?_
      exact sv_Q.z ⟨sv_01 (0 : Int32), rfl, Or.inl rfl, rfl⟩
    · refine sv_Q.s (σ' := (21, [some (.ref 0), some (.int a0), some (.int (F_Hull_wallAt a0 hh))], [.int (1 : Int32)], (W_Hull hh))) 2 rfl ?_
      exact sv_Q.z ⟨sv_01 (1 : Int32), rfl, Or.inr rfl, rfl⟩
theorem t_Hull_hasDoor {X : Nat × (Nat → Int32)} (hh : Nat → Nat → Int32) (a0 : Int32) : sv_R X 3 M_Hull_hasDoor [.ref 0, .int a0] (W_Hull hh) (some (.int (F_Hull_hasDoor a0 hh))) (W_Hull hh) := r_Hull_hasDoor hh a0 _ rfl
theorem b_Hull_hasDoor (a0 : Int32) (hh : Nat → Nat → Int32) : sv_01 (F_Hull_hasDoor a0 hh) := by
  unfold F_Hull_hasDoor
  try simp only [sv_let]
  repeat' split
  all_goals first | exact Or.inl rfl | exact Or.inr rfl
def F_Hull_bayAt (a0 : Int32) (hh : Nat → Nat → Int32) : Int32 := (rd 144 (hh 1) a0)
theorem r_Hull_bayAt {X : Nat × (Nat → Int32)} (hh : Nat → Nat → Int32) (a0 : Int32) : ∀ x, some (F_Hull_bayAt a0 hh) = some x → sv_R X 2 M_Hull_bayAt [.ref 0, .int a0] (W_Hull hh) (some (.int x)) (W_Hull hh) := by
  refine sv_Q.R (res := (fun (x : Int32) => (some (.int x), (W_Hull hh)))) g_Hull_bayAt rfl ?_
  unfold F_Hull_bayAt
  refine sv_Q.s (σ' := (5, [some (.ref 0), some (.int a0)], [.int a0, .ref 1], (W_Hull hh))) 3 rfl ?_
  refine sv_Q.S (ps := [1]) (rest := []) (st' := [.int (rd 144 (hh 1) a0)]) (cs' := (W_Hull hh)) (q := (5, .null, 0, 0, 0)) lk_Hull_71 (t_K_read 144 rfl (hh 1) a0) rfl rfl rfl rfl rfl rfl rfl (su_Hull_1 hh) rfl rfl (pu_Hull_1 hh) ?_
  exact sv_Q.z ⟨True, rfl, trivial, rfl⟩
theorem t_Hull_bayAt {X : Nat × (Nat → Int32)} (hh : Nat → Nat → Int32) (a0 : Int32) : sv_R X 2 M_Hull_bayAt [.ref 0, .int a0] (W_Hull hh) (some (.int (F_Hull_bayAt a0 hh))) (W_Hull hh) := r_Hull_bayAt hh a0 _ rfl
def F_Hull_rowAt (a0 : Int32) (hh : Nat → Nat → Int32) : Int32 := (rd 144 (hh 2) a0)
theorem r_Hull_rowAt {X : Nat × (Nat → Int32)} (hh : Nat → Nat → Int32) (a0 : Int32) : ∀ x, some (F_Hull_rowAt a0 hh) = some x → sv_R X 2 M_Hull_rowAt [.ref 0, .int a0] (W_Hull hh) (some (.int x)) (W_Hull hh) := by
  refine sv_Q.R (res := (fun (x : Int32) => (some (.int x), (W_Hull hh)))) g_Hull_rowAt rfl ?_
  unfold F_Hull_rowAt
  refine sv_Q.s (σ' := (5, [some (.ref 0), some (.int a0)], [.int a0, .ref 2], (W_Hull hh))) 3 rfl ?_
  refine sv_Q.S (ps := [2]) (rest := []) (st' := [.int (rd 144 (hh 2) a0)]) (cs' := (W_Hull hh)) (q := (5, .null, 0, 0, 0)) lk_Hull_71 (t_K_read 144 rfl (hh 2) a0) rfl rfl rfl rfl rfl rfl rfl (su_Hull_2 hh) rfl rfl (pu_Hull_2 hh) ?_
  exact sv_Q.z ⟨True, rfl, trivial, rfl⟩
theorem t_Hull_rowAt {X : Nat × (Nat → Int32)} (hh : Nat → Nat → Int32) (a0 : Int32) : sv_R X 2 M_Hull_rowAt [.ref 0, .int a0] (W_Hull hh) (some (.int (F_Hull_rowAt a0 hh))) (W_Hull hh) := r_Hull_rowAt hh a0 _ rfl
def F_Hull_tierAt (a0 : Int32) (hh : Nat → Nat → Int32) : Int32 := (rd 144 (hh 3) a0)
theorem r_Hull_tierAt {X : Nat × (Nat → Int32)} (hh : Nat → Nat → Int32) (a0 : Int32) : ∀ x, some (F_Hull_tierAt a0 hh) = some x → sv_R X 2 M_Hull_tierAt [.ref 0, .int a0] (W_Hull hh) (some (.int x)) (W_Hull hh) := by
  refine sv_Q.R (res := (fun (x : Int32) => (some (.int x), (W_Hull hh)))) g_Hull_tierAt rfl ?_
  unfold F_Hull_tierAt
  refine sv_Q.s (σ' := (5, [some (.ref 0), some (.int a0)], [.int a0, .ref 3], (W_Hull hh))) 3 rfl ?_
  refine sv_Q.S (ps := [3]) (rest := []) (st' := [.int (rd 144 (hh 3) a0)]) (cs' := (W_Hull hh)) (q := (5, .null, 0, 0, 0)) lk_Hull_71 (t_K_read 144 rfl (hh 3) a0) rfl rfl rfl rfl rfl rfl rfl (su_Hull_3 hh) rfl rfl (pu_Hull_3 hh) ?_
  exact sv_Q.z ⟨True, rfl, trivial, rfl⟩
theorem t_Hull_tierAt {X : Nat × (Nat → Int32)} (hh : Nat → Nat → Int32) (a0 : Int32) : sv_R X 2 M_Hull_tierAt [.ref 0, .int a0] (W_Hull hh) (some (.int (F_Hull_tierAt a0 hh))) (W_Hull hh) := r_Hull_tierAt hh a0 _ rfl
def F_Hull_isDeck (a0 : Int32) (hh : Nat → Nat → Int32) : Int32 := (if (rd 144 (hh 3) a0) < (hh 0 2) then (0 : Int32) else (1 : Int32))
theorem r_Hull_isDeck {X : Nat × (Nat → Int32)} (hh : Nat → Nat → Int32) (a0 : Int32) : ∀ x, some (F_Hull_isDeck a0 hh) = some x → sv_R X 2 M_Hull_isDeck [.ref 0, .int a0] (W_Hull hh) (some (.int x)) (W_Hull hh) := by
  refine sv_Q.R (res := (fun (x : Int32) => (some (.int x), (W_Hull hh)))) g_Hull_isDeck rfl ?_
  unfold F_Hull_isDeck
  refine sv_Q.s (σ' := (5, [some (.ref 0), some (.int a0)], [.int a0, .ref 3], (W_Hull hh))) 3 rfl ?_
  refine sv_Q.S (ps := [3]) (rest := []) (st' := [.int (rd 144 (hh 3) a0)]) (cs' := (W_Hull hh)) (q := (5, .null, 0, 0, 0)) lk_Hull_71 (t_K_read 144 rfl (hh 3) a0) rfl rfl rfl rfl rfl rfl rfl (su_Hull_3 hh) rfl rfl (pu_Hull_3 hh) ?_
  refine sv_Q.s (σ' := (12, [some (.ref 0), some (.int a0)], [.int (hh 0 2), .int (rd 144 (hh 3) a0)], (W_Hull hh))) 2 rfl ?_
  refine sv_Q.sb rfl (fun c1 => ?_) (fun c1 => ?_)
  · refine sv_Q.s (σ' := (20, [some (.ref 0), some (.int a0)], [.int (0 : Int32)], (W_Hull hh))) 1 rfl ?_
    exact sv_Q.z ⟨sv_01 (0 : Int32), rfl, Or.inl rfl, rfl⟩
  · refine sv_Q.s (σ' := (20, [some (.ref 0), some (.int a0)], [.int (1 : Int32)], (W_Hull hh))) 2 rfl ?_
    exact sv_Q.z ⟨sv_01 (1 : Int32), rfl, Or.inr rfl, rfl⟩
theorem t_Hull_isDeck {X : Nat × (Nat → Int32)} (hh : Nat → Nat → Int32) (a0 : Int32) : sv_R X 2 M_Hull_isDeck [.ref 0, .int a0] (W_Hull hh) (some (.int (F_Hull_isDeck a0 hh))) (W_Hull hh) := r_Hull_isDeck hh a0 _ rfl
theorem b_Hull_isDeck (a0 : Int32) (hh : Nat → Nat → Int32) : sv_01 (F_Hull_isDeck a0 hh) := by
  unfold F_Hull_isDeck
  try simp only [sv_let]
  repeat' split
  all_goals first | exact Or.inl rfl | exact Or.inr rfl
def F_Hull_isLowest (a0 : Int32) (hh : Nat → Nat → Int32) : Int32 := (if (rd 144 (hh 3) a0) = 0 then (1 : Int32) else (if ¬ (rd 144 (hh 3) a0) = (hh 0 2) then (0 : Int32) else (1 : Int32)))
theorem r_Hull_isLowest {X : Nat × (Nat → Int32)} (hh : Nat → Nat → Int32) (a0 : Int32) : ∀ x, some (F_Hull_isLowest a0 hh) = some x → sv_R X 2 M_Hull_isLowest [.ref 0, .int a0] (W_Hull hh) (some (.int x)) (W_Hull hh) := by
  refine sv_Q.R (res := (fun (x : Int32) => (some (.int x), (W_Hull hh)))) g_Hull_isLowest rfl ?_
  unfold F_Hull_isLowest
  refine sv_Q.s (σ' := (5, [some (.ref 0), some (.int a0), none], [.int a0, .ref 3], (W_Hull hh))) 3 rfl ?_
  refine sv_Q.S (ps := [3]) (rest := []) (st' := [.int (rd 144 (hh 3) a0)]) (cs' := (W_Hull hh)) (q := (5, .null, 0, 0, 0)) lk_Hull_71 (t_K_read 144 rfl (hh 3) a0) rfl rfl rfl rfl rfl rfl rfl (su_Hull_3 hh) rfl rfl (pu_Hull_3 hh) ?_
  refine sv_Q.s (σ' := (10, [some (.ref 0), some (.int a0), some (.int (rd 144 (hh 3) a0))], [.int (rd 144 (hh 3) a0)], (W_Hull hh))) 2 rfl ?_
  refine sv_Q.sb rfl (fun c1 => ?_) (fun c1 => ?_)
  · refine sv_Q.s (σ' := (26, [some (.ref 0), some (.int a0), some (.int (rd 144 (hh 3) a0))], [.int (1 : Int32)], (W_Hull hh))) 2 rfl ?_
    exact sv_Q.z ⟨sv_01 (1 : Int32), rfl, Or.inr rfl, rfl⟩
  · refine sv_Q.s (σ' := (18, [some (.ref 0), some (.int a0), some (.int (rd 144 (hh 3) a0))], [.int (hh 0 2), .int (rd 144 (hh 3) a0)], (W_Hull hh))) 3 rfl ?_
    refine sv_Q.sb rfl (fun c2 => ?_) (fun c2 => ?_)
    · refine sv_Q.s (σ' := (26, [some (.ref 0), some (.int a0), some (.int (rd 144 (hh 3) a0))], [.int (0 : Int32)], (W_Hull hh))) 1 rfl ?_
      exact sv_Q.z ⟨sv_01 (0 : Int32), rfl, Or.inl rfl, rfl⟩
    · refine sv_Q.s (σ' := (26, [some (.ref 0), some (.int a0), some (.int (rd 144 (hh 3) a0))], [.int (1 : Int32)], (W_Hull hh))) 2 rfl ?_
      exact sv_Q.z ⟨sv_01 (1 : Int32), rfl, Or.inr rfl, rfl⟩
theorem t_Hull_isLowest {X : Nat × (Nat → Int32)} (hh : Nat → Nat → Int32) (a0 : Int32) : sv_R X 2 M_Hull_isLowest [.ref 0, .int a0] (W_Hull hh) (some (.int (F_Hull_isLowest a0 hh))) (W_Hull hh) := r_Hull_isLowest hh a0 _ rfl
theorem b_Hull_isLowest (a0 : Int32) (hh : Nat → Nat → Int32) : sv_01 (F_Hull_isLowest a0 hh) := by
  unfold F_Hull_isLowest
  try simp only [sv_let]
  repeat' split
  all_goals first | exact Or.inl rfl | exact Or.inr rfl
def F_Hull_lowestUnder (a0 : Int32) (hh : Nat → Nat → Int32) : Int32 := (if (rd 144 (hh 3) a0) < (hh 0 2) then (a0 - (rd 144 (hh 3) a0)) else ((a0 - (rd 144 (hh 3) a0)) + (hh 0 2)))
theorem r_Hull_lowestUnder {X : Nat × (Nat → Int32)} (hh : Nat → Nat → Int32) (a0 : Int32) : ∀ x, some (F_Hull_lowestUnder a0 hh) = some x → sv_R X 2 M_Hull_lowestUnder [.ref 0, .int a0] (W_Hull hh) (some (.int x)) (W_Hull hh) := by
  refine sv_Q.R (res := (fun (x : Int32) => (some (.int x), (W_Hull hh)))) g_Hull_lowestUnder rfl ?_
  unfold F_Hull_lowestUnder
  refine sv_Q.s (σ' := (5, [some (.ref 0), some (.int a0), none], [.int a0, .ref 3], (W_Hull hh))) 3 rfl ?_
  refine sv_Q.S (ps := [3]) (rest := []) (st' := [.int (rd 144 (hh 3) a0)]) (cs' := (W_Hull hh)) (q := (5, .null, 0, 0, 0)) lk_Hull_71 (t_K_read 144 rfl (hh 3) a0) rfl rfl rfl rfl rfl rfl rfl (su_Hull_3 hh) rfl rfl (pu_Hull_3 hh) ?_
  refine sv_Q.s (σ' := (14, [some (.ref 0), some (.int a0), some (.int (rd 144 (hh 3) a0))], [.int (hh 0 2), .int (rd 144 (hh 3) a0)], (W_Hull hh))) 4 rfl ?_
  refine sv_Q.sb rfl (fun c1 => ?_) (fun c1 => ?_)
  · refine sv_Q.s (σ' := (31, [some (.ref 0), some (.int a0), some (.int (rd 144 (hh 3) a0))], [.int (a0 - (rd 144 (hh 3) a0))], (W_Hull hh))) 3 rfl ?_
    exact sv_Q.z ⟨True, rfl, trivial, rfl⟩
  · refine sv_Q.s (σ' := (31, [some (.ref 0), some (.int a0), some (.int (rd 144 (hh 3) a0))], [.int ((a0 - (rd 144 (hh 3) a0)) + (hh 0 2))], (W_Hull hh))) 7 rfl ?_
    exact sv_Q.z ⟨True, rfl, trivial, rfl⟩
theorem t_Hull_lowestUnder {X : Nat × (Nat → Int32)} (hh : Nat → Nat → Int32) (a0 : Int32) : sv_R X 2 M_Hull_lowestUnder [.ref 0, .int a0] (W_Hull hh) (some (.int (F_Hull_lowestUnder a0 hh))) (W_Hull hh) := r_Hull_lowestUnder hh a0 _ rfl
def F_Hull_lowestOf (a0 : Int32) (a1 : Int32) (a2 : Int32) (hh : Nat → Nat → Int32) : Int32 := (if ¬ a2 = (1 : Int32) then (((a1 + ((hh 0 1) * a0)) * ((hh 0 2) + (hh 0 3))) + (0 : Int32)) else (((a1 + ((hh 0 1) * a0)) * ((hh 0 2) + (hh 0 3))) + (hh 0 2)))
theorem r_Hull_lowestOf {X : Nat × (Nat → Int32)} (hh : Nat → Nat → Int32) (a0 : Int32) (a1 : Int32) (a2 : Int32) : ∀ x, some (F_Hull_lowestOf a0 a1 a2 hh) = some x → sv_R X 1 M_Hull_lowestOf [.ref 0, .int a0, .int a1, .int a2] (W_Hull hh) (some (.int x)) (W_Hull hh) := by
  refine sv_Q.R (res := (fun (x : Int32) => (some (.int x), (W_Hull hh)))) g_Hull_lowestOf rfl ?_
  unfold F_Hull_lowestOf
  refine sv_Q.s (σ' := (20, [some (.ref 0), some (.int a0), some (.int a1), some (.int a2)], [.int (1 : Int32), .int a2, .int ((a1 + ((hh 0 1) * a0)) * ((hh 0 2) + (hh 0 3)))], (W_Hull hh))) 14 rfl ?_
  refine sv_Q.sb rfl (fun c1 => ?_) (fun c1 => ?_)
  · refine sv_Q.s (σ' := (32, [some (.ref 0), some (.int a0), some (.int a1), some (.int a2)], [.int (((a1 + ((hh 0 1) * a0)) * ((hh 0 2) + (hh 0 3))) + (0 : Int32))], (W_Hull hh))) 2 rfl ?_
    exact sv_Q.z ⟨True, rfl, trivial, rfl⟩
  · refine sv_Q.s (σ' := (32, [some (.ref 0), some (.int a0), some (.int a1), some (.int a2)], [.int (((a1 + ((hh 0 1) * a0)) * ((hh 0 2) + (hh 0 3))) + (hh 0 2))], (W_Hull hh))) 4 rfl ?_
    exact sv_Q.z ⟨True, rfl, trivial, rfl⟩
theorem t_Hull_lowestOf {X : Nat × (Nat → Int32)} (hh : Nat → Nat → Int32) (a0 : Int32) (a1 : Int32) (a2 : Int32) : sv_R X 1 M_Hull_lowestOf [.ref 0, .int a0, .int a1, .int a2] (W_Hull hh) (some (.int (F_Hull_lowestOf a0 a1 a2 hh))) (W_Hull hh) := r_Hull_lowestOf hh a0 a1 a2 _ rfl
def F_Hull_tiersOf (a0 : Int32) (hh : Nat → Nat → Int32) : Int32 := (if ¬ a0 = (1 : Int32) then (hh 0 2) else (hh 0 3))
theorem r_Hull_tiersOf {X : Nat × (Nat → Int32)} (hh : Nat → Nat → Int32) (a0 : Int32) : ∀ x, some (F_Hull_tiersOf a0 hh) = some x → sv_R X 1 M_Hull_tiersOf [.ref 0, .int a0] (W_Hull hh) (some (.int x)) (W_Hull hh) := by
  refine sv_Q.R (res := (fun (x : Int32) => (some (.int x), (W_Hull hh)))) g_Hull_tiersOf rfl ?_
  unfold F_Hull_tiersOf
  refine sv_Q.s (σ' := (2, [some (.ref 0), some (.int a0)], [.int (1 : Int32), .int a0], (W_Hull hh))) 2 rfl ?_
  refine sv_Q.sb rfl (fun c1 => ?_) (fun c1 => ?_)
  · refine sv_Q.s (σ' := (16, [some (.ref 0), some (.int a0)], [.int (hh 0 2)], (W_Hull hh))) 2 rfl ?_
    exact sv_Q.z ⟨True, rfl, trivial, rfl⟩
  · refine sv_Q.s (σ' := (16, [some (.ref 0), some (.int a0)], [.int (hh 0 3)], (W_Hull hh))) 3 rfl ?_
    exact sv_Q.z ⟨True, rfl, trivial, rfl⟩
theorem t_Hull_tiersOf {X : Nat × (Nat → Int32)} (hh : Nat → Nat → Int32) (a0 : Int32) : sv_R X 1 M_Hull_tiersOf [.ref 0, .int a0] (W_Hull hh) (some (.int (F_Hull_tiersOf a0 hh))) (W_Hull hh) := r_Hull_tiersOf hh a0 _ rfl
def F_Hull_rowsApart (a0 : Int32) (a1 : Int32) (hh : Nat → Nat → Int32) : Int32 := (if 0 ≤ ((rd 144 (hh 2) a0) - (rd 144 (hh 2) a1)) then ((rd 144 (hh 2) a0) - (rd 144 (hh 2) a1)) else 0 - ((rd 144 (hh 2) a0) - (rd 144 (hh 2) a1)))
theorem r_Hull_rowsApart {X : Nat × (Nat → Int32)} (hh : Nat → Nat → Int32) (a0 : Int32) (a1 : Int32) : ∀ x, some (F_Hull_rowsApart a0 a1 hh) = some x → sv_R X 2 M_Hull_rowsApart [.ref 0, .int a0, .int a1] (W_Hull hh) (some (.int x)) (W_Hull hh) := by
  refine sv_Q.R (res := (fun (x : Int32) => (some (.int x), (W_Hull hh)))) g_Hull_rowsApart rfl ?_
  unfold F_Hull_rowsApart
  refine sv_Q.s (σ' := (5, [some (.ref 0), some (.int a0), some (.int a1)], [.int a0, .ref 2], (W_Hull hh))) 3 rfl ?_
  refine sv_Q.S (ps := [2]) (rest := []) (st' := [.int (rd 144 (hh 2) a0)]) (cs' := (W_Hull hh)) (q := (5, .null, 0, 0, 0)) lk_Hull_71 (t_K_read 144 rfl (hh 2) a0) rfl rfl rfl rfl rfl rfl rfl (su_Hull_2 hh) rfl rfl (pu_Hull_2 hh) ?_
  refine sv_Q.s (σ' := (13, [some (.ref 0), some (.int a0), some (.int a1)], [.int a1, .ref 2, .int (rd 144 (hh 2) a0)], (W_Hull hh))) 3 rfl ?_
  refine sv_Q.S (ps := [2]) (rest := [.int (rd 144 (hh 2) a0)]) (st' := [.int (rd 144 (hh 2) a1), .int (rd 144 (hh 2) a0)]) (cs' := (W_Hull hh)) (q := (13, .null, 0, 0, 0)) lk_Hull_71 (t_K_read 144 rfl (hh 2) a1) rfl rfl rfl rfl rfl rfl rfl (su_Hull_2 hh) rfl rfl (pu_Hull_2 hh) ?_
  refine sv_Q.s (σ' := (20, [some (.ref 0), some (.int a0), some (.int a1)], [.int (if 0 ≤ ((rd 144 (hh 2) a0) - (rd 144 (hh 2) a1)) then ((rd 144 (hh 2) a0) - (rd 144 (hh 2) a1)) else 0 - ((rd 144 (hh 2) a0) - (rd 144 (hh 2) a1)))], (W_Hull hh))) 2 rfl ?_
  exact sv_Q.z ⟨True, rfl, trivial, rfl⟩
theorem t_Hull_rowsApart {X : Nat × (Nat → Int32)} (hh : Nat → Nat → Int32) (a0 : Int32) (a1 : Int32) : sv_R X 2 M_Hull_rowsApart [.ref 0, .int a0, .int a1] (W_Hull hh) (some (.int (F_Hull_rowsApart a0 a1 hh))) (W_Hull hh) := r_Hull_rowsApart hh a0 a1 _ rfl
def F_Hull_baysApart (a0 : Int32) (a1 : Int32) (hh : Nat → Nat → Int32) : Int32 := (if 0 ≤ ((rd 144 (hh 1) a0) - (rd 144 (hh 1) a1)) then ((rd 144 (hh 1) a0) - (rd 144 (hh 1) a1)) else 0 - ((rd 144 (hh 1) a0) - (rd 144 (hh 1) a1)))
theorem r_Hull_baysApart {X : Nat × (Nat → Int32)} (hh : Nat → Nat → Int32) (a0 : Int32) (a1 : Int32) : ∀ x, some (F_Hull_baysApart a0 a1 hh) = some x → sv_R X 2 M_Hull_baysApart [.ref 0, .int a0, .int a1] (W_Hull hh) (some (.int x)) (W_Hull hh) := by
  refine sv_Q.R (res := (fun (x : Int32) => (some (.int x), (W_Hull hh)))) g_Hull_baysApart rfl ?_
  unfold F_Hull_baysApart
  refine sv_Q.s (σ' := (5, [some (.ref 0), some (.int a0), some (.int a1)], [.int a0, .ref 1], (W_Hull hh))) 3 rfl ?_
  refine sv_Q.S (ps := [1]) (rest := []) (st' := [.int (rd 144 (hh 1) a0)]) (cs' := (W_Hull hh)) (q := (5, .null, 0, 0, 0)) lk_Hull_71 (t_K_read 144 rfl (hh 1) a0) rfl rfl rfl rfl rfl rfl rfl (su_Hull_1 hh) rfl rfl (pu_Hull_1 hh) ?_
  refine sv_Q.s (σ' := (13, [some (.ref 0), some (.int a0), some (.int a1)], [.int a1, .ref 1, .int (rd 144 (hh 1) a0)], (W_Hull hh))) 3 rfl ?_
  refine sv_Q.S (ps := [1]) (rest := [.int (rd 144 (hh 1) a0)]) (st' := [.int (rd 144 (hh 1) a1), .int (rd 144 (hh 1) a0)]) (cs' := (W_Hull hh)) (q := (13, .null, 0, 0, 0)) lk_Hull_71 (t_K_read 144 rfl (hh 1) a1) rfl rfl rfl rfl rfl rfl rfl (su_Hull_1 hh) rfl rfl (pu_Hull_1 hh) ?_
  refine sv_Q.s (σ' := (20, [some (.ref 0), some (.int a0), some (.int a1)], [.int (if 0 ≤ ((rd 144 (hh 1) a0) - (rd 144 (hh 1) a1)) then ((rd 144 (hh 1) a0) - (rd 144 (hh 1) a1)) else 0 - ((rd 144 (hh 1) a0) - (rd 144 (hh 1) a1)))], (W_Hull hh))) 2 rfl ?_
  exact sv_Q.z ⟨True, rfl, trivial, rfl⟩
theorem t_Hull_baysApart {X : Nat × (Nat → Int32)} (hh : Nat → Nat → Int32) (a0 : Int32) (a1 : Int32) : sv_R X 2 M_Hull_baysApart [.ref 0, .int a0, .int a1] (W_Hull hh) (some (.int (F_Hull_baysApart a0 a1 hh))) (W_Hull hh) := r_Hull_baysApart hh a0 a1 _ rfl
def F_Hull_tiersApart (a0 : Int32) (a1 : Int32) (hh : Nat → Nat → Int32) : Int32 := (if 0 ≤ ((rd 144 (hh 3) a0) - (rd 144 (hh 3) a1)) then ((rd 144 (hh 3) a0) - (rd 144 (hh 3) a1)) else 0 - ((rd 144 (hh 3) a0) - (rd 144 (hh 3) a1)))
theorem r_Hull_tiersApart {X : Nat × (Nat → Int32)} (hh : Nat → Nat → Int32) (a0 : Int32) (a1 : Int32) : ∀ x, some (F_Hull_tiersApart a0 a1 hh) = some x → sv_R X 2 M_Hull_tiersApart [.ref 0, .int a0, .int a1] (W_Hull hh) (some (.int x)) (W_Hull hh) := by
  refine sv_Q.R (res := (fun (x : Int32) => (some (.int x), (W_Hull hh)))) g_Hull_tiersApart rfl ?_
  unfold F_Hull_tiersApart
  refine sv_Q.s (σ' := (5, [some (.ref 0), some (.int a0), some (.int a1)], [.int a0, .ref 3], (W_Hull hh))) 3 rfl ?_
  refine sv_Q.S (ps := [3]) (rest := []) (st' := [.int (rd 144 (hh 3) a0)]) (cs' := (W_Hull hh)) (q := (5, .null, 0, 0, 0)) lk_Hull_71 (t_K_read 144 rfl (hh 3) a0) rfl rfl rfl rfl rfl rfl rfl (su_Hull_3 hh) rfl rfl (pu_Hull_3 hh) ?_
  refine sv_Q.s (σ' := (13, [some (.ref 0), some (.int a0), some (.int a1)], [.int a1, .ref 3, .int (rd 144 (hh 3) a0)], (W_Hull hh))) 3 rfl ?_
  refine sv_Q.S (ps := [3]) (rest := [.int (rd 144 (hh 3) a0)]) (st' := [.int (rd 144 (hh 3) a1), .int (rd 144 (hh 3) a0)]) (cs' := (W_Hull hh)) (q := (13, .null, 0, 0, 0)) lk_Hull_71 (t_K_read 144 rfl (hh 3) a1) rfl rfl rfl rfl rfl rfl rfl (su_Hull_3 hh) rfl rfl (pu_Hull_3 hh) ?_
  refine sv_Q.s (σ' := (20, [some (.ref 0), some (.int a0), some (.int a1)], [.int (if 0 ≤ ((rd 144 (hh 3) a0) - (rd 144 (hh 3) a1)) then ((rd 144 (hh 3) a0) - (rd 144 (hh 3) a1)) else 0 - ((rd 144 (hh 3) a0) - (rd 144 (hh 3) a1)))], (W_Hull hh))) 2 rfl ?_
  exact sv_Q.z ⟨True, rfl, trivial, rfl⟩
theorem t_Hull_tiersApart {X : Nat × (Nat → Int32)} (hh : Nat → Nat → Int32) (a0 : Int32) (a1 : Int32) : sv_R X 2 M_Hull_tiersApart [.ref 0, .int a0, .int a1] (W_Hull hh) (some (.int (F_Hull_tiersApart a0 a1 hh))) (W_Hull hh) := r_Hull_tiersApart hh a0 a1 _ rfl
def F_Hull_shutBetween (a0 : Int32) (a1 : Int32) (hh : Nat → Nat → Int32) : Int32 := (if 0 ≤ ((rd 6 (hh 4) (F_Hull_bayAt a0 hh)) - (rd 6 (hh 4) (F_Hull_bayAt a1 hh))) then ((rd 6 (hh 4) (F_Hull_bayAt a0 hh)) - (rd 6 (hh 4) (F_Hull_bayAt a1 hh))) else 0 - ((rd 6 (hh 4) (F_Hull_bayAt a0 hh)) - (rd 6 (hh 4) (F_Hull_bayAt a1 hh))))
theorem r_Hull_shutBetween {X : Nat × (Nat → Int32)} (hh : Nat → Nat → Int32) (a0 : Int32) (a1 : Int32) : ∀ x, some (F_Hull_shutBetween a0 a1 hh) = some x → sv_R X 3 M_Hull_shutBetween [.ref 0, .int a0, .int a1] (W_Hull hh) (some (.int x)) (W_Hull hh) := by
  refine sv_Q.R (res := (fun (x : Int32) => (some (.int x), (W_Hull hh)))) g_Hull_shutBetween rfl ?_
  unfold F_Hull_shutBetween
  refine sv_Q.s (σ' := (6, [some (.ref 0), some (.int a0), some (.int a1)], [.int a0, .ref 0, .ref 4], (W_Hull hh))) 4 rfl ?_
  refine sv_Q.V (b := 0) (av := [.int a0]) (ps := [0, 1, 2, 3, 4, 5]) (rest := [.ref 4]) (cs1 := (W_Hull hh)) (cs2 := (W_Hull hh)) (st' := [.int (F_Hull_bayAt a0 hh), .ref 4]) (cs' := (W_Hull hh)) (q := (6, .null, 0, 0, 0)) lk_Hull_84 (t_Hull_bayAt hh a0) rfl rfl rfl rfl rfl (Or.inl ⟨2, _, _, rfl, rfl, rfl⟩) rfl rfl (sc_Hull_Hull_0 hh) rfl rfl (pc_Hull_Hull_0 hh hh) ?_
  refine sv_Q.S (ps := [4]) (rest := []) (st' := [.int (rd 6 (hh 4) (F_Hull_bayAt a0 hh))]) (cs' := (W_Hull hh)) (q := (9, .null, 0, 0, 0)) lk_Hull_71 (t_K_read 6 rfl (hh 4) (F_Hull_bayAt a0 hh)) rfl rfl rfl rfl rfl rfl rfl (su_Hull_4 hh) rfl rfl (pu_Hull_4 hh) ?_
  refine sv_Q.s (σ' := (18, [some (.ref 0), some (.int a0), some (.int a1)], [.int a1, .ref 0, .ref 4, .int (rd 6 (hh 4) (F_Hull_bayAt a0 hh))], (W_Hull hh))) 4 rfl ?_
  refine sv_Q.V (b := 0) (av := [.int a1]) (ps := [0, 1, 2, 3, 4, 5]) (rest := [.ref 4, .int (rd 6 (hh 4) (F_Hull_bayAt a0 hh))]) (cs1 := (W_Hull hh)) (cs2 := (W_Hull hh)) (st' := [.int (F_Hull_bayAt a1 hh), .ref 4, .int (rd 6 (hh 4) (F_Hull_bayAt a0 hh))]) (cs' := (W_Hull hh)) (q := (18, .null, 0, 0, 0)) lk_Hull_84 (t_Hull_bayAt hh a1) rfl rfl rfl rfl rfl (Or.inl ⟨2, _, _, rfl, rfl, rfl⟩) rfl rfl (sc_Hull_Hull_0 hh) rfl rfl (pc_Hull_Hull_0 hh hh) ?_
  refine sv_Q.S (ps := [4]) (rest := [.int (rd 6 (hh 4) (F_Hull_bayAt a0 hh))]) (st' := [.int (rd 6 (hh 4) (F_Hull_bayAt a1 hh)), .int (rd 6 (hh 4) (F_Hull_bayAt a0 hh))]) (cs' := (W_Hull hh)) (q := (21, .null, 0, 0, 0)) lk_Hull_71 (t_K_read 6 rfl (hh 4) (F_Hull_bayAt a1 hh)) rfl rfl rfl rfl rfl rfl rfl (su_Hull_4 hh) rfl rfl (pu_Hull_4 hh) ?_
  refine sv_Q.s (σ' := (28, [some (.ref 0), some (.int a0), some (.int a1)], [.int (if 0 ≤ ((rd 6 (hh 4) (F_Hull_bayAt a0 hh)) - (rd 6 (hh 4) (F_Hull_bayAt a1 hh))) then ((rd 6 (hh 4) (F_Hull_bayAt a0 hh)) - (rd 6 (hh 4) (F_Hull_bayAt a1 hh))) else 0 - ((rd 6 (hh 4) (F_Hull_bayAt a0 hh)) - (rd 6 (hh 4) (F_Hull_bayAt a1 hh))))], (W_Hull hh))) 2 rfl ?_
  exact sv_Q.z ⟨True, rfl, trivial, rfl⟩
theorem t_Hull_shutBetween {X : Nat × (Nat → Int32)} (hh : Nat → Nat → Int32) (a0 : Int32) (a1 : Int32) : sv_R X 3 M_Hull_shutBetween [.ref 0, .int a0, .int a1] (W_Hull hh) (some (.int (F_Hull_shutBetween a0 a1 hh))) (W_Hull hh) := r_Hull_shutBetween hh a0 a1 _ rfl
def F_Hull_hatchBetween (a0 : Int32) (a1 : Int32) (hh : Nat → Nat → Int32) : Int32 := (if (F_Hull_isDeck a0 hh) = (F_Hull_isDeck a1 hh) then (0 : Int32) else (1 : Int32))
theorem r_Hull_hatchBetween {X : Nat × (Nat → Int32)} (hh : Nat → Nat → Int32) (a0 : Int32) (a1 : Int32) : ∀ x, some (F_Hull_hatchBetween a0 a1 hh) = some x → sv_R X 3 M_Hull_hatchBetween [.ref 0, .int a0, .int a1] (W_Hull hh) (some (.int x)) (W_Hull hh) := by
  refine sv_Q.R (res := (fun (x : Int32) => (some (.int x), (W_Hull hh)))) g_Hull_hatchBetween rfl ?_
  unfold F_Hull_hatchBetween
  refine sv_Q.s (σ' := (2, [some (.ref 0), some (.int a0), some (.int a1)], [.int a0, .ref 0], (W_Hull hh))) 2 rfl ?_
  refine sv_Q.V (b := 0) (av := [.int a0]) (ps := [0, 1, 2, 3, 4, 5]) (rest := []) (cs1 := (W_Hull hh)) (cs2 := (W_Hull hh)) (st' := [.int (F_Hull_isDeck a0 hh)]) (cs' := (W_Hull hh)) (q := (2, .null, 0, 0, 0)) lk_Hull_87 (t_Hull_isDeck hh a0) rfl rfl rfl rfl rfl (Or.inl ⟨2, _, _, rfl, rfl, rfl⟩) rfl rfl (sc_Hull_Hull_0 hh) rfl rfl (pc_Hull_Hull_0 hh hh) ?_
  refine sv_Q.s (σ' := (7, [some (.ref 0), some (.int a0), some (.int a1)], [.int a1, .ref 0, .int (F_Hull_isDeck a0 hh)], (W_Hull hh))) 2 rfl ?_
  refine sv_Q.V (b := 0) (av := [.int a1]) (ps := [0, 1, 2, 3, 4, 5]) (rest := [.int (F_Hull_isDeck a0 hh)]) (cs1 := (W_Hull hh)) (cs2 := (W_Hull hh)) (st' := [.int (F_Hull_isDeck a1 hh), .int (F_Hull_isDeck a0 hh)]) (cs' := (W_Hull hh)) (q := (7, .null, 0, 0, 0)) lk_Hull_87 (t_Hull_isDeck hh a1) rfl rfl rfl rfl rfl (Or.inl ⟨2, _, _, rfl, rfl, rfl⟩) rfl rfl (sc_Hull_Hull_0 hh) rfl rfl (pc_Hull_Hull_0 hh hh) ?_
  refine sv_Q.sb rfl (fun c1 => ?_) (fun c1 => ?_)
  · refine sv_Q.s (σ' := (18, [some (.ref 0), some (.int a0), some (.int a1)], [.int (0 : Int32)], (W_Hull hh))) 1 rfl ?_
    exact sv_Q.z ⟨sv_01 (0 : Int32), rfl, Or.inl rfl, rfl⟩
  · refine sv_Q.s (σ' := (18, [some (.ref 0), some (.int a0), some (.int a1)], [.int (1 : Int32)], (W_Hull hh))) 2 rfl ?_
    exact sv_Q.z ⟨sv_01 (1 : Int32), rfl, Or.inr rfl, rfl⟩
theorem t_Hull_hatchBetween {X : Nat × (Nat → Int32)} (hh : Nat → Nat → Int32) (a0 : Int32) (a1 : Int32) : sv_R X 3 M_Hull_hatchBetween [.ref 0, .int a0, .int a1] (W_Hull hh) (some (.int (F_Hull_hatchBetween a0 a1 hh))) (W_Hull hh) := r_Hull_hatchBetween hh a0 a1 _ rfl
theorem b_Hull_hatchBetween (a0 : Int32) (a1 : Int32) (hh : Nat → Nat → Int32) : sv_01 (F_Hull_hatchBetween a0 a1 hh) := by
  unfold F_Hull_hatchBetween
  try simp only [sv_let]
  repeat' split
  all_goals first | exact Or.inl rfl | exact Or.inr rfl | apply b_Hull_isDeck
def F_Hull_isBeside (a0 : Int32) (a1 : Int32) (hh : Nat → Nat → Int32) : Int32 := (if ¬ (((F_Hull_rowsApart a0 a1 hh) + (F_Hull_baysApart a0 a1 hh)) + (F_Hull_tiersApart a0 a1 hh)) = (1 : Int32) then (0 : Int32) else (if ¬ (F_Hull_shutBetween a0 a1 hh) = 0 then (0 : Int32) else (if ¬ (F_Hull_hatchBetween a0 a1 hh) = 0 then (0 : Int32) else (1 : Int32))))
theorem r_Hull_isBeside {X : Nat × (Nat → Int32)} (hh : Nat → Nat → Int32) (a0 : Int32) (a1 : Int32) : ∀ x, some (F_Hull_isBeside a0 a1 hh) = some x → sv_R X 4 M_Hull_isBeside [.ref 0, .int a0, .int a1] (W_Hull hh) (some (.int x)) (W_Hull hh) := by
  refine sv_Q.R (res := (fun (x : Int32) => (some (.int x), (W_Hull hh)))) g_Hull_isBeside rfl ?_
  unfold F_Hull_isBeside
  refine sv_Q.s (σ' := (3, [some (.ref 0), some (.int a0), some (.int a1), none], [.int a1, .int a0, .ref 0], (W_Hull hh))) 3 rfl ?_
  refine sv_Q.V (b := 0) (av := [.int a0, .int a1]) (ps := [0, 1, 2, 3, 4, 5]) (rest := []) (cs1 := (W_Hull hh)) (cs2 := (W_Hull hh)) (st' := [.int (F_Hull_rowsApart a0 a1 hh)]) (cs' := (W_Hull hh)) (q := (3, .null, 0, 0, 0)) lk_Hull_91 (t_Hull_rowsApart hh a0 a1) rfl rfl rfl rfl rfl (Or.inl ⟨2, _, _, rfl, rfl, rfl⟩) rfl rfl (sc_Hull_Hull_0 hh) rfl rfl (pc_Hull_Hull_0 hh hh) ?_
  refine sv_Q.s (σ' := (9, [some (.ref 0), some (.int a0), some (.int a1), none], [.int a1, .int a0, .ref 0, .int (F_Hull_rowsApart a0 a1 hh)], (W_Hull hh))) 3 rfl ?_
  refine sv_Q.V (b := 0) (av := [.int a0, .int a1]) (ps := [0, 1, 2, 3, 4, 5]) (rest := [.int (F_Hull_rowsApart a0 a1 hh)]) (cs1 := (W_Hull hh)) (cs2 := (W_Hull hh)) (st' := [.int (F_Hull_baysApart a0 a1 hh), .int (F_Hull_rowsApart a0 a1 hh)]) (cs' := (W_Hull hh)) (q := (9, .null, 0, 0, 0)) lk_Hull_95 (t_Hull_baysApart hh a0 a1) rfl rfl rfl rfl rfl (Or.inl ⟨2, _, _, rfl, rfl, rfl⟩) rfl rfl (sc_Hull_Hull_0 hh) rfl rfl (pc_Hull_Hull_0 hh hh) ?_
  refine sv_Q.s (σ' := (16, [some (.ref 0), some (.int a0), some (.int a1), none], [.int a1, .int a0, .ref 0, .int ((F_Hull_rowsApart a0 a1 hh) + (F_Hull_baysApart a0 a1 hh))], (W_Hull hh))) 4 rfl ?_
  refine sv_Q.V (b := 0) (av := [.int a0, .int a1]) (ps := [0, 1, 2, 3, 4, 5]) (rest := [.int ((F_Hull_rowsApart a0 a1 hh) + (F_Hull_baysApart a0 a1 hh))]) (cs1 := (W_Hull hh)) (cs2 := (W_Hull hh)) (st' := [.int (F_Hull_tiersApart a0 a1 hh), .int ((F_Hull_rowsApart a0 a1 hh) + (F_Hull_baysApart a0 a1 hh))]) (cs' := (W_Hull hh)) (q := (16, .null, 0, 0, 0)) lk_Hull_98 (t_Hull_tiersApart hh a0 a1) rfl rfl rfl rfl rfl (Or.inl ⟨2, _, _, rfl, rfl, rfl⟩) rfl rfl (sc_Hull_Hull_0 hh) rfl rfl (pc_Hull_Hull_0 hh hh) ?_
  refine sv_Q.s (σ' := (23, [some (.ref 0), some (.int a0), some (.int a1), some (.int (((F_Hull_rowsApart a0 a1 hh) + (F_Hull_baysApart a0 a1 hh)) + (F_Hull_tiersApart a0 a1 hh)))], [.int (1 : Int32), .int (((F_Hull_rowsApart a0 a1 hh) + (F_Hull_baysApart a0 a1 hh)) + (F_Hull_tiersApart a0 a1 hh))], (W_Hull hh))) 4 rfl ?_
  refine sv_Q.sb rfl (fun c1 => ?_) (fun c1 => ?_)
  · refine sv_Q.s (σ' := (49, [some (.ref 0), some (.int a0), some (.int a1), some (.int (((F_Hull_rowsApart a0 a1 hh) + (F_Hull_baysApart a0 a1 hh)) + (F_Hull_tiersApart a0 a1 hh)))], [.int (0 : Int32)], (W_Hull hh))) 1 rfl ?_
    exact sv_Q.z ⟨sv_01 (0 : Int32), rfl, Or.inl rfl, rfl⟩
  · refine sv_Q.s (σ' := (29, [some (.ref 0), some (.int a0), some (.int a1), some (.int (((F_Hull_rowsApart a0 a1 hh) + (F_Hull_baysApart a0 a1 hh)) + (F_Hull_tiersApart a0 a1 hh)))], [.int a1, .int a0, .ref 0], (W_Hull hh))) 3 rfl ?_
    refine sv_Q.V (b := 0) (av := [.int a0, .int a1]) (ps := [0, 1, 2, 3, 4, 5]) (rest := []) (cs1 := (W_Hull hh)) (cs2 := (W_Hull hh)) (st' := [.int (F_Hull_shutBetween a0 a1 hh)]) (cs' := (W_Hull hh)) (q := (29, .null, 0, 0, 0)) lk_Hull_101 (t_Hull_shutBetween hh a0 a1) rfl rfl rfl rfl rfl (Or.inl ⟨2, _, _, rfl, rfl, rfl⟩) rfl rfl (sc_Hull_Hull_0 hh) rfl rfl (pc_Hull_Hull_0 hh hh) ?_
    refine sv_Q.sb rfl (fun c2 => ?_) (fun c2 => ?_)
    · refine sv_Q.s (σ' := (49, [some (.ref 0), some (.int a0), some (.int a1), some (.int (((F_Hull_rowsApart a0 a1 hh) + (F_Hull_baysApart a0 a1 hh)) + (F_Hull_tiersApart a0 a1 hh)))], [.int (0 : Int32)], (W_Hull hh))) 1 rfl ?_
      exact sv_Q.z ⟨sv_01 (0 : Int32), rfl, Or.inl rfl, rfl⟩
    · refine sv_Q.s (σ' := (38, [some (.ref 0), some (.int a0), some (.int a1), some (.int (((F_Hull_rowsApart a0 a1 hh) + (F_Hull_baysApart a0 a1 hh)) + (F_Hull_tiersApart a0 a1 hh)))], [.int a1, .int a0, .ref 0], (W_Hull hh))) 3 rfl ?_
      refine sv_Q.V (b := 0) (av := [.int a0, .int a1]) (ps := [0, 1, 2, 3, 4, 5]) (rest := []) (cs1 := (W_Hull hh)) (cs2 := (W_Hull hh)) (st' := [.int (F_Hull_hatchBetween a0 a1 hh)]) (cs' := (W_Hull hh)) (q := (38, .null, 0, 0, 0)) lk_Hull_104 (t_Hull_hatchBetween hh a0 a1) rfl rfl rfl rfl rfl (Or.inl ⟨2, _, _, rfl, rfl, rfl⟩) rfl rfl (sc_Hull_Hull_0 hh) rfl rfl (pc_Hull_Hull_0 hh hh) ?_
      refine sv_Q.sb rfl (fun c3 => ?_) (fun c3 => ?_)
      · refine sv_Q.s (σ' := (49, [some (.ref 0), some (.int a0), some (.int a1), some (.int (((F_Hull_rowsApart a0 a1 hh) + (F_Hull_baysApart a0 a1 hh)) + (F_Hull_tiersApart a0 a1 hh)))], [.int (0 : Int32)], (W_Hull hh))) 1 rfl ?_
        exact sv_Q.z ⟨sv_01 (0 : Int32), rfl, Or.inl rfl, rfl⟩
      · refine sv_Q.s (σ' := (49, [some (.ref 0), some (.int a0), some (.int a1), some (.int (((F_Hull_rowsApart a0 a1 hh) + (F_Hull_baysApart a0 a1 hh)) + (F_Hull_tiersApart a0 a1 hh)))], [.int (1 : Int32)], (W_Hull hh))) 2 rfl ?_
        exact sv_Q.z ⟨sv_01 (1 : Int32), rfl, Or.inr rfl, rfl⟩
theorem t_Hull_isBeside {X : Nat × (Nat → Int32)} (hh : Nat → Nat → Int32) (a0 : Int32) (a1 : Int32) : sv_R X 4 M_Hull_isBeside [.ref 0, .int a0, .int a1] (W_Hull hh) (some (.int (F_Hull_isBeside a0 a1 hh))) (W_Hull hh) := r_Hull_isBeside hh a0 a1 _ rfl
theorem b_Hull_isBeside (a0 : Int32) (a1 : Int32) (hh : Nat → Nat → Int32) : sv_01 (F_Hull_isBeside a0 a1 hh) := by
  unfold F_Hull_isBeside
  try simp only [sv_let]
  repeat' split
  all_goals first | exact Or.inl rfl | exact Or.inr rfl | apply b_Hull_hatchBetween
def F_Rules_reset (hr : Nat → Nat → Int32) : (Nat → Nat → Int32) := (sv_let (ss hr 0 (0 : Int32)) fun (hr_1 : Nat → Nat → Int32) => (sv_let (sf hr_1 1 5 (0 : Int32)) fun (hr_2 : Nat → Nat → Int32) => (sv_let (sf hr_2 6 49 (0 : Int32)) fun (hr_3 : Nat → Nat → Int32) => hr_3)))
theorem r_Rules_reset {X : Nat × (Nat → Int32)} (hr : Nat → Nat → Int32) : ∀ x, some (F_Rules_reset hr) = some x → sv_R X 2 M_Rules_reset [.ref 0] (W_Rules hr) none (W_Rules x) := by
  refine sv_Q.R (res := (fun (x : (Nat → Nat → Int32)) => ((none : Option Value), (W_Rules x)))) g_Rules_reset rfl ?_
  unfold F_Rules_reset
  refine sv_Q.s (σ' := (5, [some (.ref 0)], [], (W_Rules (ss hr 0 (0 : Int32))))) 3 rfl ?_
  refine sv_Q.gs (fun hr_1 => (5, [some (.ref 0)], [], (W_Rules hr_1))) (fun hr_1 => ?_)
  refine sv_Q.s (σ' := (10, [some (.ref 0)], [.int (0 : Int32), .ref 1], (W_Rules hr_1))) 3 rfl ?_
  refine sv_Q.S (ps := [1]) (rest := []) (st' := []) (cs' := (W_Rules (sf hr_1 1 5 (0 : Int32)))) (q := (10, .null, 0, 0, 0)) lk_Rules_37 (t_Arr_fill 5 (Nat.le_of_ble_eq_true rfl) (hr_1 1) (0 : Int32)) rfl rfl rfl rfl rfl rfl rfl (su_Rules_1 hr_1) rfl rfl (pa_Rules_1 hr_1 (sv_fl 5 (hr_1 1) (0 : Int32))) ?_
  refine sv_Q.gs (fun hr_2 => (13, [some (.ref 0)], [], (W_Rules hr_2))) (fun hr_2 => ?_)
  refine sv_Q.s (σ' := (18, [some (.ref 0)], [.int (0 : Int32), .ref 6], (W_Rules hr_2))) 3 rfl ?_
  refine sv_Q.S (ps := [6]) (rest := []) (st' := []) (cs' := (W_Rules (sf hr_2 6 49 (0 : Int32)))) (q := (18, .null, 0, 0, 0)) lk_Rules_37 (t_Arr_fill 49 (Nat.le_of_ble_eq_true rfl) (hr_2 6) (0 : Int32)) rfl rfl rfl rfl rfl rfl rfl (su_Rules_6 hr_2) rfl rfl (pa_Rules_6 hr_2 (sv_fl 49 (hr_2 6) (0 : Int32))) ?_
  refine sv_Q.gs (fun hr_3 => (21, [some (.ref 0)], [], (W_Rules hr_3))) (fun hr_3 => ?_)
  exact sv_Q.z ⟨True, rfl, trivial, rfl⟩
theorem t_Rules_reset {X : Nat × (Nat → Int32)} (hr : Nat → Nat → Int32) : sv_R X 2 M_Rules_reset [.ref 0] (W_Rules hr) none (W_Rules (F_Rules_reset hr)) := r_Rules_reset hr _ rfl
def F_Rules_tellLevel (a0 : Int32) (a1 : Int32) (a2 : Int32) (a3 : Int32) (a4 : Int32) (hr : Nat → Nat → Int32) : (Nat → Nat → Int32) := (sv_let (sw hr 1 5 a0 a1) fun (hr_1 : Nat → Nat → Int32) => (sv_let (sw hr_1 2 5 a0 a2) fun (hr_2 : Nat → Nat → Int32) => (sv_let (sw hr_2 3 5 a0 a3) fun (hr_3 : Nat → Nat → Int32) => (sv_let (sw hr_3 4 5 a0 a4) fun (hr_4 : Nat → Nat → Int32) => hr_4))))
theorem r_Rules_tellLevel {X : Nat × (Nat → Int32)} (hr : Nat → Nat → Int32) (a0 : Int32) (a1 : Int32) (a2 : Int32) (a3 : Int32) (a4 : Int32) : ∀ x, some (F_Rules_tellLevel a0 a1 a2 a3 a4 hr) = some x → sv_R X 2 M_Rules_tellLevel [.ref 0, .int a0, .int a1, .int a2, .int a3, .int a4] (W_Rules hr) none (W_Rules x) := by
  refine sv_Q.R (res := (fun (x : (Nat → Nat → Int32)) => ((none : Option Value), (W_Rules x)))) g_Rules_tellLevel rfl ?_
  unfold F_Rules_tellLevel
  refine sv_Q.s (σ' := (6, [some (.ref 0), some (.int a0), some (.int a1), some (.int a2), some (.int a3), some (.int a4)], [.int a1, .int a0, .ref 1], (W_Rules hr))) 4 rfl ?_
  refine sv_Q.S (ps := [1]) (rest := []) (st' := []) (cs' := (W_Rules (sw hr 1 5 a0 a1))) (q := (6, .null, 0, 0, 0)) lk_Rules_43 (t_K_write 5 rfl (hr 1) a0 a1) rfl rfl rfl rfl rfl rfl rfl (su_Rules_1 hr) rfl rfl (pa_Rules_1 hr (wr 5 (hr 1) a0 a1)) ?_
  refine sv_Q.gs (fun hr_1 => (9, [some (.ref 0), some (.int a0), some (.int a1), some (.int a2), some (.int a3), some (.int a4)], [], (W_Rules hr_1))) (fun hr_1 => ?_)
  refine sv_Q.s (σ' := (15, [some (.ref 0), some (.int a0), some (.int a1), some (.int a2), some (.int a3), some (.int a4)], [.int a2, .int a0, .ref 2], (W_Rules hr_1))) 4 rfl ?_
  refine sv_Q.S (ps := [2]) (rest := []) (st' := []) (cs' := (W_Rules (sw hr_1 2 5 a0 a2))) (q := (15, .null, 0, 0, 0)) lk_Rules_43 (t_K_write 5 rfl (hr_1 2) a0 a2) rfl rfl rfl rfl rfl rfl rfl (su_Rules_2 hr_1) rfl rfl (pa_Rules_2 hr_1 (wr 5 (hr_1 2) a0 a2)) ?_
  refine sv_Q.gs (fun hr_2 => (18, [some (.ref 0), some (.int a0), some (.int a1), some (.int a2), some (.int a3), some (.int a4)], [], (W_Rules hr_2))) (fun hr_2 => ?_)
  refine sv_Q.s (σ' := (25, [some (.ref 0), some (.int a0), some (.int a1), some (.int a2), some (.int a3), some (.int a4)], [.int a3, .int a0, .ref 3], (W_Rules hr_2))) 4 rfl ?_
  refine sv_Q.S (ps := [3]) (rest := []) (st' := []) (cs' := (W_Rules (sw hr_2 3 5 a0 a3))) (q := (25, .null, 0, 0, 0)) lk_Rules_43 (t_K_write 5 rfl (hr_2 3) a0 a3) rfl rfl rfl rfl rfl rfl rfl (su_Rules_3 hr_2) rfl rfl (pa_Rules_3 hr_2 (wr 5 (hr_2 3) a0 a3)) ?_
  refine sv_Q.gs (fun hr_3 => (28, [some (.ref 0), some (.int a0), some (.int a1), some (.int a2), some (.int a3), some (.int a4)], [], (W_Rules hr_3))) (fun hr_3 => ?_)
  refine sv_Q.s (σ' := (35, [some (.ref 0), some (.int a0), some (.int a1), some (.int a2), some (.int a3), some (.int a4)], [.int a4, .int a0, .ref 4], (W_Rules hr_3))) 4 rfl ?_
  refine sv_Q.S (ps := [4]) (rest := []) (st' := []) (cs' := (W_Rules (sw hr_3 4 5 a0 a4))) (q := (35, .null, 0, 0, 0)) lk_Rules_43 (t_K_write 5 rfl (hr_3 4) a0 a4) rfl rfl rfl rfl rfl rfl rfl (su_Rules_4 hr_3) rfl rfl (pa_Rules_4 hr_3 (wr 5 (hr_3 4) a0 a4)) ?_
  refine sv_Q.gs (fun hr_4 => (38, [some (.ref 0), some (.int a0), some (.int a1), some (.int a2), some (.int a3), some (.int a4)], [], (W_Rules hr_4))) (fun hr_4 => ?_)
  exact sv_Q.z ⟨True, rfl, trivial, rfl⟩
theorem t_Rules_tellLevel {X : Nat × (Nat → Int32)} (hr : Nat → Nat → Int32) (a0 : Int32) (a1 : Int32) (a2 : Int32) (a3 : Int32) (a4 : Int32) : sv_R X 2 M_Rules_tellLevel [.ref 0, .int a0, .int a1, .int a2, .int a3, .int a4] (W_Rules hr) none (W_Rules (F_Rules_tellLevel a0 a1 a2 a3 a4 hr)) := r_Rules_tellLevel hr a0 a1 a2 a3 a4 _ rfl
def F_Rules_hasLevel (a0 : Int32) (hr : Nat → Nat → Int32) : Int32 := (if (F_K_within a0 (1 : Int32) (4 : Int32)) = 0 then (0 : Int32) else (if (rd 5 (hr 1) a0) ≤ 0 then (0 : Int32) else (1 : Int32)))
theorem r_Rules_hasLevel {X : Nat × (Nat → Int32)} (hr : Nat → Nat → Int32) (a0 : Int32) : ∀ x, some (F_Rules_hasLevel a0 hr) = some x → sv_R X 2 M_Rules_hasLevel [.ref 0, .int a0] (W_Rules hr) (some (.int x)) (W_Rules hr) := by
  refine sv_Q.R (res := (fun (x : Int32) => (some (.int x), (W_Rules hr)))) g_Rules_hasLevel rfl ?_
  unfold F_Rules_hasLevel
  refine sv_Q.s (σ' := (3, [some (.ref 0), some (.int a0)], [.int (4 : Int32), .int (1 : Int32), .int a0], (W_Rules hr))) 3 rfl ?_
  refine sv_Q.S (ps := []) (rest := []) (cs1 := []) (cs2 := []) (st' := [.int (F_K_within a0 (1 : Int32) (4 : Int32))]) (cs' := (W_Rules hr)) (q := (3, .null, 0, 0, 0)) lk_Rules_47 (t_K_within a0 (1 : Int32) (4 : Int32)) rfl rfl rfl rfl rfl rfl rfl rfl rfl rfl (sv_pt_nil _ _) ?_
  refine sv_Q.sb rfl (fun c1 => ?_) (fun c1 => ?_)
  · refine sv_Q.s (σ' := (25, [some (.ref 0), some (.int a0)], [.int (0 : Int32)], (W_Rules hr))) 1 rfl ?_
    exact sv_Q.z ⟨sv_01 (0 : Int32), rfl, Or.inl rfl, rfl⟩
  · refine sv_Q.s (σ' := (14, [some (.ref 0), some (.int a0)], [.int a0, .ref 1], (W_Rules hr))) 3 rfl ?_
    refine sv_Q.S (ps := [1]) (rest := []) (st' := [.int (rd 5 (hr 1) a0)]) (cs' := (W_Rules hr)) (q := (14, .null, 0, 0, 0)) lk_Rules_51 (t_K_read 5 rfl (hr 1) a0) rfl rfl rfl rfl rfl rfl rfl (su_Rules_1 hr) rfl rfl (pu_Rules_1 hr) ?_
    refine sv_Q.sb rfl (fun c2 => ?_) (fun c2 => ?_)
    · refine sv_Q.s (σ' := (25, [some (.ref 0), some (.int a0)], [.int (0 : Int32)], (W_Rules hr))) 1 rfl ?_
      exact sv_Q.z ⟨sv_01 (0 : Int32), rfl, Or.inl rfl, rfl⟩
    · refine sv_Q.s (σ' := (25, [some (.ref 0), some (.int a0)], [.int (1 : Int32)], (W_Rules hr))) 2 rfl ?_
      exact sv_Q.z ⟨sv_01 (1 : Int32), rfl, Or.inr rfl, rfl⟩
theorem t_Rules_hasLevel {X : Nat × (Nat → Int32)} (hr : Nat → Nat → Int32) (a0 : Int32) : sv_R X 2 M_Rules_hasLevel [.ref 0, .int a0] (W_Rules hr) (some (.int (F_Rules_hasLevel a0 hr))) (W_Rules hr) := r_Rules_hasLevel hr a0 _ rfl
theorem b_Rules_hasLevel (a0 : Int32) (hr : Nat → Nat → Int32) : sv_01 (F_Rules_hasLevel a0 hr) := by
  unfold F_Rules_hasLevel
  try simp only [sv_let]
  repeat' split
  all_goals first | exact Or.inl rfl | exact Or.inr rfl | apply b_K_within
def F_Rules_ofLevel (a0 : Int32) (a1 : Int32) (hr : Nat → Nat → Int32) : Int32 := (if a1 = (0 : Int32) then (rd 5 (hr 1) a0) else (if a1 = (1 : Int32) then (rd 5 (hr 2) a0) else (if a1 = (2 : Int32) then (rd 5 (hr 3) a0) else (rd 5 (hr 4) a0))))
theorem r_Rules_ofLevel {X : Nat × (Nat → Int32)} (hr : Nat → Nat → Int32) (a0 : Int32) (a1 : Int32) : ∀ x, some (F_Rules_ofLevel a0 a1 hr) = some x → sv_R X 2 M_Rules_ofLevel [.ref 0, .int a0, .int a1] (W_Rules hr) (some (.int x)) (W_Rules hr) := by
  refine sv_Q.R (res := (fun (x : Int32) => (some (.int x), (W_Rules hr)))) g_Rules_ofLevel rfl ?_
  unfold F_Rules_ofLevel
  refine sv_Q.s (σ' := (1, [some (.ref 0), some (.int a0), some (.int a1)], [.int a1], (W_Rules hr))) 1 rfl ?_
  refine sv_Q.site (fun c1 => ?_) (fun c1 => ?_)
  · refine sv_Q.w (σ' := (28, [some (.ref 0), some (.int a0), some (.int a1)], [], (W_Rules hr))) (c := (¬ (a1).toInt < 0 ∧ ¬ 2 < (a1).toInt ∧ ((a1).toInt - 0).toNat = 0) ∧ (0 : Int) ≤ 28) (k := some 0) rfl ⟨by rw [c1]; decide, by decide⟩ ?_
    refine sv_Q.s (σ' := (33, [some (.ref 0), some (.int a0), some (.int a1)], [.int a0, .ref 1], (W_Rules hr))) 3 rfl ?_
    refine sv_Q.S (ps := [1]) (rest := []) (st' := [.int (rd 5 (hr 1) a0)]) (cs' := (W_Rules hr)) (q := (33, .null, 0, 0, 0)) lk_Rules_51 (t_K_read 5 rfl (hr 1) a0) rfl rfl rfl rfl rfl rfl rfl (su_Rules_1 hr) rfl rfl (pu_Rules_1 hr) ?_
    exact sv_Q.z ⟨True, rfl, trivial, rfl⟩
  · refine sv_Q.site (fun c2 => ?_) (fun c2 => ?_)
    · refine sv_Q.w (σ' := (37, [some (.ref 0), some (.int a0), some (.int a1)], [], (W_Rules hr))) (c := (¬ (a1).toInt < 0 ∧ ¬ 2 < (a1).toInt ∧ ((a1).toInt - 0).toNat = 1) ∧ (0 : Int) ≤ 37) (k := some 1) rfl ⟨by rw [c2]; decide, by decide⟩ ?_
      refine sv_Q.s (σ' := (42, [some (.ref 0), some (.int a0), some (.int a1)], [.int a0, .ref 2], (W_Rules hr))) 3 rfl ?_
      refine sv_Q.S (ps := [2]) (rest := []) (st' := [.int (rd 5 (hr 2) a0)]) (cs' := (W_Rules hr)) (q := (42, .null, 0, 0, 0)) lk_Rules_51 (t_K_read 5 rfl (hr 2) a0) rfl rfl rfl rfl rfl rfl rfl (su_Rules_2 hr) rfl rfl (pu_Rules_2 hr) ?_
      exact sv_Q.z ⟨True, rfl, trivial, rfl⟩
    · refine sv_Q.site (fun c3 => ?_) (fun c3 => ?_)
      · refine sv_Q.w (σ' := (46, [some (.ref 0), some (.int a0), some (.int a1)], [], (W_Rules hr))) (c := (¬ (a1).toInt < 0 ∧ ¬ 2 < (a1).toInt ∧ ((a1).toInt - 0).toNat = 2) ∧ (0 : Int) ≤ 46) (k := some 2) rfl ⟨by rw [c3]; decide, by decide⟩ ?_
        refine sv_Q.s (σ' := (51, [some (.ref 0), some (.int a0), some (.int a1)], [.int a0, .ref 3], (W_Rules hr))) 3 rfl ?_
        refine sv_Q.S (ps := [3]) (rest := []) (st' := [.int (rd 5 (hr 3) a0)]) (cs' := (W_Rules hr)) (q := (51, .null, 0, 0, 0)) lk_Rules_51 (t_K_read 5 rfl (hr 3) a0) rfl rfl rfl rfl rfl rfl rfl (su_Rules_3 hr) rfl rfl (pu_Rules_3 hr) ?_
        exact sv_Q.z ⟨True, rfl, trivial, rfl⟩
      · refine sv_Q.w (σ' := (55, [some (.ref 0), some (.int a0), some (.int a1)], [], (W_Rules hr))) (c := ((a1).toInt < 0 ∨ 2 < (a1).toInt) ∧ (0 : Int) ≤ 55) (k := none) rfl ⟨by (have q0 := sv_ne c1); (have q1 := sv_ne c2); (have q2 := sv_ne c3); (have e0 : (0 : Int32).toInt = 0 := (by decide)); (have e1 : (1 : Int32).toInt = 1 := (by decide)); (have e2 : (2 : Int32).toInt = 2 := (by decide)); omega, by decide⟩ ?_
        refine sv_Q.s (σ' := (60, [some (.ref 0), some (.int a0), some (.int a1)], [.int a0, .ref 4], (W_Rules hr))) 3 rfl ?_
        refine sv_Q.S (ps := [4]) (rest := []) (st' := [.int (rd 5 (hr 4) a0)]) (cs' := (W_Rules hr)) (q := (60, .null, 0, 0, 0)) lk_Rules_51 (t_K_read 5 rfl (hr 4) a0) rfl rfl rfl rfl rfl rfl rfl (su_Rules_4 hr) rfl rfl (pu_Rules_4 hr) ?_
        exact sv_Q.z ⟨True, rfl, trivial, rfl⟩
theorem t_Rules_ofLevel {X : Nat × (Nat → Int32)} (hr : Nat → Nat → Int32) (a0 : Int32) (a1 : Int32) : sv_R X 2 M_Rules_ofLevel [.ref 0, .int a0, .int a1] (W_Rules hr) (some (.int (F_Rules_ofLevel a0 a1 hr))) (W_Rules hr) := r_Rules_ofLevel hr a0 a1 _ rfl
def F_Rules_addKind (a0 : Int32) (hr : Nat → Nat → Int32) : (Nat → Nat → Int32) := (sv_let (sw hr 5 7 (hr 0 0) a0) fun (hr_1 : Nat → Nat → Int32) => (sv_let (ss hr_1 0 ((hr_1 0 0) + (1 : Int32))) fun (hr_2 : Nat → Nat → Int32) => hr_2))
theorem r_Rules_addKind {X : Nat × (Nat → Int32)} (hr : Nat → Nat → Int32) (a0 : Int32) : ∀ x, some (F_Rules_addKind a0 hr) = some x → sv_R X 2 M_Rules_addKind [.ref 0, .int a0] (W_Rules hr) none (W_Rules x) := by
  refine sv_Q.R (res := (fun (x : (Nat → Nat → Int32)) => ((none : Option Value), (W_Rules x)))) g_Rules_addKind rfl ?_
  unfold F_Rules_addKind
  refine sv_Q.s (σ' := (9, [some (.ref 0), some (.int a0)], [.int a0, .int (hr 0 0), .ref 5], (W_Rules hr))) 5 rfl ?_
  refine sv_Q.S (ps := [5]) (rest := []) (st' := []) (cs' := (W_Rules (sw hr 5 7 (hr 0 0) a0))) (q := (9, .null, 0, 0, 0)) lk_Rules_43 (t_K_write 7 rfl (hr 5) (hr 0 0) a0) rfl rfl rfl rfl rfl rfl rfl (su_Rules_5 hr) rfl rfl (pa_Rules_5 hr (wr 7 (hr 5) (hr 0 0) a0)) ?_
  refine sv_Q.gs (fun hr_1 => (12, [some (.ref 0), some (.int a0)], [], (W_Rules hr_1))) (fun hr_1 => ?_)
  refine sv_Q.s (σ' := (22, [some (.ref 0), some (.int a0)], [], (W_Rules (ss hr_1 0 ((hr_1 0 0) + (1 : Int32)))))) 6 rfl ?_
  refine sv_Q.gs (fun hr_2 => (22, [some (.ref 0), some (.int a0)], [], (W_Rules hr_2))) (fun hr_2 => ?_)
  exact sv_Q.z ⟨True, rfl, trivial, rfl⟩
theorem t_Rules_addKind {X : Nat × (Nat → Int32)} (hr : Nat → Nat → Int32) (a0 : Int32) : sv_R X 2 M_Rules_addKind [.ref 0, .int a0] (W_Rules hr) none (W_Rules (F_Rules_addKind a0 hr)) := r_Rules_addKind hr a0 _ rfl
def F_Rules_hasKind (a0 : Int32) (hr : Nat → Nat → Int32) : Int32 := (F_K_within a0 (0 : Int32) ((hr 0 0) - (1 : Int32)))
theorem r_Rules_hasKind {X : Nat × (Nat → Int32)} (hr : Nat → Nat → Int32) (a0 : Int32) : ∀ x, some (F_Rules_hasKind a0 hr) = some x → sv_R X 2 M_Rules_hasKind [.ref 0, .int a0] (W_Rules hr) (some (.int x)) (W_Rules hr) := by
  refine sv_Q.R (res := (fun (x : Int32) => (some (.int x), (W_Rules hr)))) g_Rules_hasKind rfl ?_
  unfold F_Rules_hasKind
  refine sv_Q.s (σ' := (8, [some (.ref 0), some (.int a0)], [.int ((hr 0 0) - (1 : Int32)), .int (0 : Int32), .int a0], (W_Rules hr))) 6 rfl ?_
  refine sv_Q.S (ps := []) (rest := []) (cs1 := []) (cs2 := []) (st' := [.int (F_K_within a0 (0 : Int32) ((hr 0 0) - (1 : Int32)))]) (cs' := (W_Rules hr)) (q := (8, .null, 0, 0, 0)) lk_Rules_47 (t_K_within a0 (0 : Int32) ((hr 0 0) - (1 : Int32))) rfl rfl rfl rfl rfl rfl rfl rfl rfl rfl (sv_pt_nil _ _) ?_
  exact sv_Q.z ⟨sv_01 (F_K_within a0 (0 : Int32) ((hr 0 0) - (1 : Int32))), rfl, b_K_within a0 (0 : Int32) ((hr 0 0) - (1 : Int32)), rfl⟩
theorem t_Rules_hasKind {X : Nat × (Nat → Int32)} (hr : Nat → Nat → Int32) (a0 : Int32) : sv_R X 2 M_Rules_hasKind [.ref 0, .int a0] (W_Rules hr) (some (.int (F_Rules_hasKind a0 hr))) (W_Rules hr) := r_Rules_hasKind hr a0 _ rfl
theorem b_Rules_hasKind (a0 : Int32) (hr : Nat → Nat → Int32) : sv_01 (F_Rules_hasKind a0 hr) := by
  unfold F_Rules_hasKind
  try simp only [sv_let]
  repeat' split
  all_goals first | exact Or.inl rfl | exact Or.inr rfl | apply b_K_within
def F_Rules_whereOf (a0 : Int32) (hr : Nat → Nat → Int32) : Int32 := (rd 7 (hr 5) a0)
theorem r_Rules_whereOf {X : Nat × (Nat → Int32)} (hr : Nat → Nat → Int32) (a0 : Int32) : ∀ x, some (F_Rules_whereOf a0 hr) = some x → sv_R X 2 M_Rules_whereOf [.ref 0, .int a0] (W_Rules hr) (some (.int x)) (W_Rules hr) := by
  refine sv_Q.R (res := (fun (x : Int32) => (some (.int x), (W_Rules hr)))) g_Rules_whereOf rfl ?_
  unfold F_Rules_whereOf
  refine sv_Q.s (σ' := (5, [some (.ref 0), some (.int a0)], [.int a0, .ref 5], (W_Rules hr))) 3 rfl ?_
  refine sv_Q.S (ps := [5]) (rest := []) (st' := [.int (rd 7 (hr 5) a0)]) (cs' := (W_Rules hr)) (q := (5, .null, 0, 0, 0)) lk_Rules_51 (t_K_read 7 rfl (hr 5) a0) rfl rfl rfl rfl rfl rfl rfl (su_Rules_5 hr) rfl rfl (pu_Rules_5 hr) ?_
  exact sv_Q.z ⟨True, rfl, trivial, rfl⟩
theorem t_Rules_whereOf {X : Nat × (Nat → Int32)} (hr : Nat → Nat → Int32) (a0 : Int32) : sv_R X 2 M_Rules_whereOf [.ref 0, .int a0] (W_Rules hr) (some (.int (F_Rules_whereOf a0 hr))) (W_Rules hr) := r_Rules_whereOf hr a0 _ rfl
def F_Rules_mayLie (a0 : Int32) (a1 : Int32) (hr : Nat → Nat → Int32) : Int32 := (if (rd 7 (hr 5) a0) = 0 then (1 : Int32) else (sv_let (if a1 = 0 then (2 : Int32) else (1 : Int32)) fun (v3 : Int32) => (if ¬ (rd 7 (hr 5) a0) = v3 then (0 : Int32) else (1 : Int32))))
theorem r_Rules_mayLie {X : Nat × (Nat → Int32)} (hr : Nat → Nat → Int32) (a0 : Int32) (a1 : Int32) : ∀ x, some (F_Rules_mayLie a0 a1 hr) = some x → sv_R X 2 M_Rules_mayLie [.ref 0, .int a0, .int a1] (W_Rules hr) (some (.int x)) (W_Rules hr) := by
  refine sv_Q.R (res := (fun (x : Int32) => (some (.int x), (W_Rules hr)))) g_Rules_mayLie rfl ?_
  unfold F_Rules_mayLie
  refine sv_Q.s (σ' := (5, [some (.ref 0), some (.int a0), some (.int a1), none], [.int a0, .ref 5], (W_Rules hr))) 3 rfl ?_
  refine sv_Q.S (ps := [5]) (rest := []) (st' := [.int (rd 7 (hr 5) a0)]) (cs' := (W_Rules hr)) (q := (5, .null, 0, 0, 0)) lk_Rules_51 (t_K_read 7 rfl (hr 5) a0) rfl rfl rfl rfl rfl rfl rfl (su_Rules_5 hr) rfl rfl (pu_Rules_5 hr) ?_
  refine sv_Q.s (σ' := (10, [some (.ref 0), some (.int a0), some (.int a1), some (.int (rd 7 (hr 5) a0))], [.int (rd 7 (hr 5) a0)], (W_Rules hr))) 2 rfl ?_
  refine sv_Q.sb rfl (fun c1 => ?_) (fun c1 => ?_)
  · refine sv_Q.s (σ' := (31, [some (.ref 0), some (.int a0), some (.int a1), some (.int (rd 7 (hr 5) a0))], [.int (1 : Int32)], (W_Rules hr))) 2 rfl ?_
    exact sv_Q.z ⟨sv_01 (1 : Int32), rfl, Or.inr rfl, rfl⟩
  · refine sv_Q.s (σ' := (15, [some (.ref 0), some (.int a0), some (.int a1), some (.int (rd 7 (hr 5) a0))], [.int a1, .int (rd 7 (hr 5) a0)], (W_Rules hr))) 2 rfl ?_
    refine sv_Q.sl (fun v3 => (23, [none, none, none, none], [.int v3, .int (rd 7 (hr 5) a0)], (W_Rules hr))) (fun v3 => ?_) ?_
    · refine sv_Q.sb rfl (fun c4 => ?_) (fun c4 => ?_)
      · refine sv_Q.s (σ' := (31, [none, none, none, none], [.int (0 : Int32)], (W_Rules hr))) 1 rfl ?_
        exact sv_Q.z ⟨sv_01 (0 : Int32), rfl, Or.inl rfl, rfl⟩
      · refine sv_Q.s (σ' := (31, [none, none, none, none], [.int (1 : Int32)], (W_Rules hr))) 2 rfl ?_
        exact sv_Q.z ⟨sv_01 (1 : Int32), rfl, Or.inr rfl, rfl⟩
    · refine sv_Q.sb rfl (fun c2 => ?_) (fun c2 => ?_)
      · refine sv_Q.s (σ' := (23, [some (.ref 0), some (.int a0), some (.int a1), some (.int (rd 7 (hr 5) a0))], [.int (2 : Int32), .int (rd 7 (hr 5) a0)], (W_Rules hr))) 1 rfl ?_
        refine sv_Q.f (lo' := [none, none, none, none]) trivial ?_
        exact sv_Q.z rfl
      · refine sv_Q.s (σ' := (23, [some (.ref 0), some (.int a0), some (.int a1), some (.int (rd 7 (hr 5) a0))], [.int (1 : Int32), .int (rd 7 (hr 5) a0)], (W_Rules hr))) 2 rfl ?_
        refine sv_Q.f (lo' := [none, none, none, none]) trivial ?_
        exact sv_Q.z rfl
theorem t_Rules_mayLie {X : Nat × (Nat → Int32)} (hr : Nat → Nat → Int32) (a0 : Int32) (a1 : Int32) : sv_R X 2 M_Rules_mayLie [.ref 0, .int a0, .int a1] (W_Rules hr) (some (.int (F_Rules_mayLie a0 a1 hr))) (W_Rules hr) := r_Rules_mayLie hr a0 a1 _ rfl
theorem b_Rules_mayLie (a0 : Int32) (a1 : Int32) (hr : Nat → Nat → Int32) : sv_01 (F_Rules_mayLie a0 a1 hr) := by
  unfold F_Rules_mayLie
  try simp only [sv_let]
  repeat' split
  all_goals first | exact Or.inl rfl | exact Or.inr rfl
def F_Rules_tellApart (a0 : Int32) (a1 : Int32) (a2 : Int32) (hr : Nat → Nat → Int32) : (Nat → Nat → Int32) := (sv_let (sw hr 6 49 ((a0 * (7 : Int32)) + a1) a2) fun (hr_1 : Nat → Nat → Int32) => (sv_let (sw hr_1 6 49 ((a1 * (7 : Int32)) + a0) a2) fun (hr_2 : Nat → Nat → Int32) => hr_2))
theorem r_Rules_tellApart {X : Nat × (Nat → Int32)} (hr : Nat → Nat → Int32) (a0 : Int32) (a1 : Int32) (a2 : Int32) : ∀ x, some (F_Rules_tellApart a0 a1 a2 hr) = some x → sv_R X 2 M_Rules_tellApart [.ref 0, .int a0, .int a1, .int a2] (W_Rules hr) none (W_Rules x) := by
  refine sv_Q.R (res := (fun (x : (Nat → Nat → Int32)) => ((none : Option Value), (W_Rules x)))) g_Rules_tellApart rfl ?_
  unfold F_Rules_tellApart
  refine sv_Q.s (σ' := (11, [some (.ref 0), some (.int a0), some (.int a1), some (.int a2)], [.int a2, .int ((a0 * (7 : Int32)) + a1), .ref 6], (W_Rules hr))) 8 rfl ?_
  refine sv_Q.S (ps := [6]) (rest := []) (st' := []) (cs' := (W_Rules (sw hr 6 49 ((a0 * (7 : Int32)) + a1) a2))) (q := (11, .null, 0, 0, 0)) lk_Rules_43 (t_K_write 49 rfl (hr 6) ((a0 * (7 : Int32)) + a1) a2) rfl rfl rfl rfl rfl rfl rfl (su_Rules_6 hr) rfl rfl (pa_Rules_6 hr (wr 49 (hr 6) ((a0 * (7 : Int32)) + a1) a2)) ?_
  refine sv_Q.gs (fun hr_1 => (14, [some (.ref 0), some (.int a0), some (.int a1), some (.int a2)], [], (W_Rules hr_1))) (fun hr_1 => ?_)
  refine sv_Q.s (σ' := (25, [some (.ref 0), some (.int a0), some (.int a1), some (.int a2)], [.int a2, .int ((a1 * (7 : Int32)) + a0), .ref 6], (W_Rules hr_1))) 8 rfl ?_
  refine sv_Q.S (ps := [6]) (rest := []) (st' := []) (cs' := (W_Rules (sw hr_1 6 49 ((a1 * (7 : Int32)) + a0) a2))) (q := (25, .null, 0, 0, 0)) lk_Rules_43 (t_K_write 49 rfl (hr_1 6) ((a1 * (7 : Int32)) + a0) a2) rfl rfl rfl rfl rfl rfl rfl (su_Rules_6 hr_1) rfl rfl (pa_Rules_6 hr_1 (wr 49 (hr_1 6) ((a1 * (7 : Int32)) + a0) a2)) ?_
  refine sv_Q.gs (fun hr_2 => (28, [some (.ref 0), some (.int a0), some (.int a1), some (.int a2)], [], (W_Rules hr_2))) (fun hr_2 => ?_)
  exact sv_Q.z ⟨True, rfl, trivial, rfl⟩
theorem t_Rules_tellApart {X : Nat × (Nat → Int32)} (hr : Nat → Nat → Int32) (a0 : Int32) (a1 : Int32) (a2 : Int32) : sv_R X 2 M_Rules_tellApart [.ref 0, .int a0, .int a1, .int a2] (W_Rules hr) none (W_Rules (F_Rules_tellApart a0 a1 a2 hr)) := r_Rules_tellApart hr a0 a1 a2 _ rfl
def F_Rules_levelOf (a0 : Int32) (a1 : Int32) (hr : Nat → Nat → Int32) : Int32 := (sv_let (if (F_K_within a0 (0 : Int32) ((hr 0 0) - (1 : Int32))) = 0 then (0 : Int32) else (if (F_K_within a1 (0 : Int32) ((hr 0 0) - (1 : Int32))) = 0 then (0 : Int32) else (1 : Int32))) fun (v3 : Int32) => (if v3 = 0 then (0 : Int32) else (rd 49 (hr 6) ((a0 * (7 : Int32)) + a1))))
theorem r_Rules_levelOf {X : Nat × (Nat → Int32)} (hr : Nat → Nat → Int32) (a0 : Int32) (a1 : Int32) : ∀ x, some (F_Rules_levelOf a0 a1 hr) = some x → sv_R X 2 M_Rules_levelOf [.ref 0, .int a0, .int a1] (W_Rules hr) (some (.int x)) (W_Rules hr) := by
  refine sv_Q.R (res := (fun (x : Int32) => (some (.int x), (W_Rules hr)))) g_Rules_levelOf rfl ?_
  unfold F_Rules_levelOf
  refine sv_Q.s (σ' := (8, [some (.ref 0), some (.int a0), some (.int a1), none], [.int ((hr 0 0) - (1 : Int32)), .int (0 : Int32), .int a0], (W_Rules hr))) 6 rfl ?_
  refine sv_Q.S (ps := []) (rest := []) (cs1 := []) (cs2 := []) (st' := [.int (F_K_within a0 (0 : Int32) ((hr 0 0) - (1 : Int32)))]) (cs' := (W_Rules hr)) (q := (8, .null, 0, 0, 0)) lk_Rules_47 (t_K_within a0 (0 : Int32) ((hr 0 0) - (1 : Int32))) rfl rfl rfl rfl rfl rfl rfl rfl rfl rfl (sv_pt_nil _ _) ?_
  refine sv_Q.sl (fun v3 => (33, [some (.ref 0), some (.int a0), some (.int a1), none], [.int v3], (W_Rules hr))) (fun v3 => ?_) ?_
  · refine sv_Q.s (σ' := (35, [some (.ref 0), some (.int a0), some (.int a1), some (.int v3)], [.int v3], (W_Rules hr))) 2 rfl ?_
    refine sv_Q.sb rfl (fun c4 => ?_) (fun c4 => ?_)
    · refine sv_Q.s (σ' := (55, [some (.ref 0), some (.int a0), some (.int a1), some (.int v3)], [.int (0 : Int32)], (W_Rules hr))) 1 rfl ?_
      exact sv_Q.z ⟨True, rfl, trivial, rfl⟩
    · refine sv_Q.s (σ' := (48, [some (.ref 0), some (.int a0), some (.int a1), some (.int v3)], [.int ((a0 * (7 : Int32)) + a1), .ref 6], (W_Rules hr))) 7 rfl ?_
      refine sv_Q.S (ps := [6]) (rest := []) (st' := [.int (rd 49 (hr 6) ((a0 * (7 : Int32)) + a1))]) (cs' := (W_Rules hr)) (q := (48, .null, 0, 0, 0)) lk_Rules_51 (t_K_read 49 rfl (hr 6) ((a0 * (7 : Int32)) + a1)) rfl rfl rfl rfl rfl rfl rfl (su_Rules_6 hr) rfl rfl (pu_Rules_6 hr) ?_
      refine sv_Q.s (σ' := (55, [some (.ref 0), some (.int a0), some (.int a1), some (.int v3)], [.int (rd 49 (hr 6) ((a0 * (7 : Int32)) + a1))], (W_Rules hr))) 1 rfl ?_
      exact sv_Q.z ⟨True, rfl, trivial, rfl⟩
  · refine sv_Q.sb rfl (fun c1 => ?_) (fun c1 => ?_)
    · refine sv_Q.s (σ' := (33, [some (.ref 0), some (.int a0), some (.int a1), none], [.int (0 : Int32)], (W_Rules hr))) 1 rfl ?_
      exact sv_Q.z rfl
    · refine sv_Q.s (σ' := (22, [some (.ref 0), some (.int a0), some (.int a1), none], [.int ((hr 0 0) - (1 : Int32)), .int (0 : Int32), .int a1], (W_Rules hr))) 6 rfl ?_
      refine sv_Q.S (ps := []) (rest := []) (cs1 := []) (cs2 := []) (st' := [.int (F_K_within a1 (0 : Int32) ((hr 0 0) - (1 : Int32)))]) (cs' := (W_Rules hr)) (q := (22, .null, 0, 0, 0)) lk_Rules_47 (t_K_within a1 (0 : Int32) ((hr 0 0) - (1 : Int32))) rfl rfl rfl rfl rfl rfl rfl rfl rfl rfl (sv_pt_nil _ _) ?_
      refine sv_Q.sb rfl (fun c2 => ?_) (fun c2 => ?_)
      · refine sv_Q.s (σ' := (33, [some (.ref 0), some (.int a0), some (.int a1), none], [.int (0 : Int32)], (W_Rules hr))) 1 rfl ?_
        exact sv_Q.z rfl
      · refine sv_Q.s (σ' := (33, [some (.ref 0), some (.int a0), some (.int a1), none], [.int (1 : Int32)], (W_Rules hr))) 2 rfl ?_
        exact sv_Q.z rfl
theorem t_Rules_levelOf {X : Nat × (Nat → Int32)} (hr : Nat → Nat → Int32) (a0 : Int32) (a1 : Int32) : sv_R X 2 M_Rules_levelOf [.ref 0, .int a0, .int a1] (W_Rules hr) (some (.int (F_Rules_levelOf a0 a1 hr))) (W_Rules hr) := r_Rules_levelOf hr a0 a1 _ rfl
def L_Rules_hasPartnerBehind_4 (N : Nat) : Nat → Int32 → Int32 → (Nat → Nat → Int32) → Option ((Unit) ⊕ (Int32))
  | 0, _, _, _ => none
  | n + 1, x1, x2, hr => (if (hr 0 0) ≤ x2 then (some (.inl ())) else (if (F_Rules_levelOf x1 x2 hr) = 0 then (L_Rules_hasPartnerBehind_4 N n x1 (x2 + (1 : Int32)) hr) else (some (.inr (1 : Int32)))))
theorem l_Rules_hasPartnerBehind_4 {X : Nat × (Nat → Int32)} (N : Nat) : ∀ (n : Nat) (x1 : Int32) (x2 : Int32) (hr : Nat → Nat → Int32), sv_Q X 2 M_Rules_hasPartnerBehind (4, [some (.ref 0), some (.int x1), some (.int x2)], [], (W_Rules hr)) (L_Rules_hasPartnerBehind_4 N n x1 x2 hr) (sv_K2 (fun (v : Unit) => (29, [none, none, none], [], (W_Rules hr))) (sv_KR M_Rules_hasPartnerBehind (fun (x : Int32) => (some (.int x), (W_Rules hr))))) := by
  intro n
  induction n with
  | zero => intro x1 x2 hr; unfold L_Rules_hasPartnerBehind_4; exact sv_Q.non
  | succ n ih =>
    intro x1 x2 hr
    unfold L_Rules_hasPartnerBehind_4
    refine sv_Q.s (σ' := (9, [some (.ref 0), some (.int x1), some (.int x2)], [.int (hr 0 0), .int x2], (W_Rules hr))) 3 rfl ?_
    refine sv_Q.b rfl (fun c1 => ?_) (fun c1 => ?_)
    · refine sv_Q.f (lo' := [none, none, none]) trivial ?_
      exact sv_Q.z rfl
    · refine sv_Q.s (σ' := (15, [some (.ref 0), some (.int x1), some (.int x2)], [.int x2, .int x1, .ref 0], (W_Rules hr))) 3 rfl ?_
      refine sv_Q.V (b := 0) (av := [.int x1, .int x2]) (ps := [0, 1, 2, 3, 4, 5, 6, 7]) (rest := []) (cs1 := (W_Rules hr)) (cs2 := (W_Rules hr)) (st' := [.int (F_Rules_levelOf x1 x2 hr)]) (cs' := (W_Rules hr)) (q := (15, .null, 0, 0, 0)) lk_Rules_73 (t_Rules_levelOf hr x1 x2) rfl rfl rfl rfl rfl (Or.inl ⟨6, _, _, rfl, rfl, rfl⟩) rfl rfl (sc_Rules_Rules_0 hr) rfl rfl (pc_Rules_Rules_0 hr hr) ?_
      refine sv_Q.b rfl (fun c2 => ?_) (fun c2 => ?_)
      · refine sv_Q.s (σ' := (4, [some (.ref 0), some (.int x1), some (.int (x2 + (1 : Int32)))], [], (W_Rules hr))) 2 rfl ?_
        exact ih x1 (x2 + (1 : Int32)) hr
      · refine sv_Q.s (σ' := (22, [some (.ref 0), some (.int x1), some (.int x2)], [.int (1 : Int32)], (W_Rules hr))) 1 rfl ?_
        exact sv_Q.z ⟨sv_01 (1 : Int32), rfl, Or.inr rfl, rfl⟩
def F_Rules_hasPartnerBehind (N : Nat) (a0 : Int32) (hr : Nat → Nat → Int32) : Option (Int32) := (sv_bs (L_Rules_hasPartnerBehind_4 N N a0 (a0 + (1 : Int32)) hr) id fun (v3 : Unit) => (some (0 : Int32)))
theorem r_Rules_hasPartnerBehind {X : Nat × (Nat → Int32)} (N : Nat) (hr : Nat → Nat → Int32) (a0 : Int32) : ∀ x, (F_Rules_hasPartnerBehind N a0 hr) = some x → sv_R X 3 M_Rules_hasPartnerBehind [.ref 0, .int a0] (W_Rules hr) (some (.int x)) (W_Rules hr) := by
  refine sv_Q.R (res := (fun (x : Int32) => (some (.int x), (W_Rules hr)))) g_Rules_hasPartnerBehind rfl ?_
  unfold F_Rules_hasPartnerBehind
  refine sv_Q.s (σ' := (4, [some (.ref 0), some (.int a0), some (.int (a0 + (1 : Int32)))], [], (W_Rules hr))) 4 rfl ?_
  refine sv_Q.bs (l_Rules_hasPartnerBehind_4 N N a0 (a0 + (1 : Int32)) hr) (fun v3 => ?_) (fun r σ' h => h)
  · refine sv_Q.s (σ' := (30, [none, none, none], [.int (0 : Int32)], (W_Rules hr))) 1 rfl ?_
    exact sv_Q.z ⟨sv_01 (0 : Int32), rfl, Or.inl rfl, rfl⟩
def L_Rules_fits_2 (N : Nat) : Nat → Int32 → Int32 → Int32 → (Nat → Nat → Int32) → Option ((Unit) ⊕ (Int32))
  | 0, _, _, _, _ => none
  | n + 1, x1, x2, x3, hr => (if x1 ≤ x3 then (some (.inl ())) else (if (F_Rules_levelOf x1 x3 hr) = 0 then (L_Rules_fits_2 N n x1 x2 (x3 + (1 : Int32)) hr) else (if (rd 5 (hr 2) (F_Rules_levelOf x1 x3 hr)) ≤ (if 0 ≤ (x2 - (rd 7 (hr 7) x3)) then (x2 - (rd 7 (hr 7) x3)) else 0 - (x2 - (rd 7 (hr 7) x3))) then (L_Rules_fits_2 N n x1 x2 (x3 + (1 : Int32)) hr) else (some (.inr (0 : Int32))))))
theorem l_Rules_fits_2 {X : Nat × (Nat → Int32)} (N : Nat) : ∀ (n : Nat) (x1 : Int32) (x2 : Int32) (x3 : Int32) (hr : Nat → Nat → Int32), sv_Q X 2 M_Rules_fits (2, [some (.ref 0), some (.int x1), some (.int x2), some (.int x3), none], [], (W_Rules hr)) (L_Rules_fits_2 N n x1 x2 x3 hr) (sv_K2 (fun (v : Unit) => (53, [none, none, none, none, none], [], (W_Rules hr))) (sv_KR M_Rules_fits (fun (x : Int32) => (some (.int x), (W_Rules hr))))) := by
  intro n
  induction n with
  | zero => intro x1 x2 x3 hr; unfold L_Rules_fits_2; exact sv_Q.non
  | succ n ih =>
    intro x1 x2 x3 hr
    unfold L_Rules_fits_2
    refine sv_Q.s (σ' := (4, [some (.ref 0), some (.int x1), some (.int x2), some (.int x3), none], [.int x1, .int x3], (W_Rules hr))) 2 rfl ?_
    refine sv_Q.b rfl (fun c1 => ?_) (fun c1 => ?_)
    · refine sv_Q.f (lo' := [none, none, none, none, none]) trivial ?_
      exact sv_Q.z rfl
    · refine sv_Q.s (σ' := (10, [some (.ref 0), some (.int x1), some (.int x2), some (.int x3), none], [.int x3, .int x1, .ref 0], (W_Rules hr))) 3 rfl ?_
      refine sv_Q.V (b := 0) (av := [.int x1, .int x3]) (ps := [0, 1, 2, 3, 4, 5, 6, 7]) (rest := []) (cs1 := (W_Rules hr)) (cs2 := (W_Rules hr)) (st' := [.int (F_Rules_levelOf x1 x3 hr)]) (cs' := (W_Rules hr)) (q := (10, .null, 0, 0, 0)) lk_Rules_73 (t_Rules_levelOf hr x1 x3) rfl rfl rfl rfl rfl (Or.inl ⟨6, _, _, rfl, rfl, rfl⟩) rfl rfl (sc_Rules_Rules_0 hr) rfl rfl (pc_Rules_Rules_0 hr hr) ?_
      refine sv_Q.s (σ' := (17, [some (.ref 0), some (.int x1), some (.int x2), some (.int x3), some (.int (F_Rules_levelOf x1 x3 hr))], [.int (F_Rules_levelOf x1 x3 hr)], (W_Rules hr))) 2 rfl ?_
      refine sv_Q.b rfl (fun c2 => ?_) (fun c2 => ?_)
      · refine sv_Q.s (σ' := (2, [some (.ref 0), some (.int x1), some (.int x2), some (.int (x3 + (1 : Int32))), some (.int (F_Rules_levelOf x1 x3 hr))], [], (W_Rules hr))) 2 rfl ?_
        refine sv_Q.f (lo' := [some (.ref 0), some (.int x1), some (.int x2), some (.int (x3 + (1 : Int32))), none]) ⟨rfl, ⟨rfl, ⟨rfl, ⟨rfl, trivial⟩⟩⟩⟩ ?_
        exact ih x1 x2 (x3 + (1 : Int32)) hr
      · refine sv_Q.s (σ' := (26, [some (.ref 0), some (.int x1), some (.int x2), some (.int x3), some (.int (F_Rules_levelOf x1 x3 hr))], [.int x3, .ref 7, .int x2], (W_Rules hr))) 4 rfl ?_
        refine sv_Q.S (ps := [7]) (rest := [.int x2]) (st' := [.int (rd 7 (hr 7) x3), .int x2]) (cs' := (W_Rules hr)) (q := (26, .null, 0, 0, 0)) lk_Rules_51 (t_K_read 7 rfl (hr 7) x3) rfl rfl rfl rfl rfl rfl rfl (su_Rules_7 hr) rfl rfl (pu_Rules_7 hr) ?_
        refine sv_Q.s (σ' := (39, [some (.ref 0), some (.int x1), some (.int x2), some (.int x3), some (.int (F_Rules_levelOf x1 x3 hr))], [.int (F_Rules_levelOf x1 x3 hr), .ref 2, .int (if 0 ≤ (x2 - (rd 7 (hr 7) x3)) then (x2 - (rd 7 (hr 7) x3)) else 0 - (x2 - (rd 7 (hr 7) x3)))], (W_Rules hr))) 5 rfl ?_
        refine sv_Q.S (ps := [2]) (rest := [.int (if 0 ≤ (x2 - (rd 7 (hr 7) x3)) then (x2 - (rd 7 (hr 7) x3)) else 0 - (x2 - (rd 7 (hr 7) x3)))]) (st' := [.int (rd 5 (hr 2) (F_Rules_levelOf x1 x3 hr)), .int (if 0 ≤ (x2 - (rd 7 (hr 7) x3)) then (x2 - (rd 7 (hr 7) x3)) else 0 - (x2 - (rd 7 (hr 7) x3)))]) (cs' := (W_Rules hr)) (q := (39, .null, 0, 0, 0)) lk_Rules_51 (t_K_read 5 rfl (hr 2) (F_Rules_levelOf x1 x3 hr)) rfl rfl rfl rfl rfl rfl rfl (su_Rules_2 hr) rfl rfl (pu_Rules_2 hr) ?_
        refine sv_Q.b rfl (fun c3 => ?_) (fun c3 => ?_)
        · refine sv_Q.s (σ' := (2, [some (.ref 0), some (.int x1), some (.int x2), some (.int (x3 + (1 : Int32))), some (.int (F_Rules_levelOf x1 x3 hr))], [], (W_Rules hr))) 2 rfl ?_
          refine sv_Q.f (lo' := [some (.ref 0), some (.int x1), some (.int x2), some (.int (x3 + (1 : Int32))), none]) ⟨rfl, ⟨rfl, ⟨rfl, ⟨rfl, trivial⟩⟩⟩⟩ ?_
          exact ih x1 x2 (x3 + (1 : Int32)) hr
        · refine sv_Q.s (σ' := (46, [some (.ref 0), some (.int x1), some (.int x2), some (.int x3), some (.int (F_Rules_levelOf x1 x3 hr))], [.int (0 : Int32)], (W_Rules hr))) 1 rfl ?_
          exact sv_Q.z ⟨sv_01 (0 : Int32), rfl, Or.inl rfl, rfl⟩
def F_Rules_fits (N : Nat) (a0 : Int32) (a1 : Int32) (hr : Nat → Nat → Int32) : Option (Int32) := (sv_bs (L_Rules_fits_2 N N a0 a1 (0 : Int32) hr) id fun (v4 : Unit) => (some (1 : Int32)))
theorem r_Rules_fits {X : Nat × (Nat → Int32)} (N : Nat) (hr : Nat → Nat → Int32) (a0 : Int32) (a1 : Int32) : ∀ x, (F_Rules_fits N a0 a1 hr) = some x → sv_R X 3 M_Rules_fits [.ref 0, .int a0, .int a1] (W_Rules hr) (some (.int x)) (W_Rules hr) := by
  refine sv_Q.R (res := (fun (x : Int32) => (some (.int x), (W_Rules hr)))) g_Rules_fits rfl ?_
  unfold F_Rules_fits
  refine sv_Q.s (σ' := (2, [some (.ref 0), some (.int a0), some (.int a1), some (.int (0 : Int32)), none], [], (W_Rules hr))) 2 rfl ?_
  refine sv_Q.bs (l_Rules_fits_2 N N a0 a1 (0 : Int32) hr) (fun v4 => ?_) (fun r σ' h => h)
  · refine sv_Q.s (σ' := (54, [none, none, none, none, none], [.int (1 : Int32)], (W_Rules hr))) 1 rfl ?_
    exact sv_Q.z ⟨sv_01 (1 : Int32), rfl, Or.inr rfl, rfl⟩
def L_Rules_countFitting_5 (N : Nat) : Nat → Int32 → Int32 → Int64 → Int32 → (Nat → Nat → Int32) → Option (Int64)
  | 0, _, _, _, _, _ => none
  | n + 1, x1, x2, x3, x5, hr => (if x2 ≤ x5 then (some x3) else (Option.bind (F_Rules_fits N x1 x5 hr) fun (v2 : Int32) => (if v2 = 0 then (L_Rules_countFitting_5 N n x1 x2 x3 (x5 + (1 : Int32)) hr) else (L_Rules_countFitting_5 N n x1 x2 (x3 + (1 : Int64)) (x5 + (1 : Int32)) hr))))
theorem l_Rules_countFitting_5 {X : Nat × (Nat → Int32)} (N : Nat) : ∀ (n : Nat) (x1 : Int32) (x2 : Int32) (x3 : Int64) (x5 : Int32) (hr : Nat → Nat → Int32), sv_Q X 3 M_Rules_countFitting (5, [some (.ref 0), some (.int x1), some (.int x2), some (.long x3), none, some (.int x5)], [], (W_Rules hr)) (L_Rules_countFitting_5 N n x1 x2 x3 x5 hr) (fun v σ' => σ' = (31, [none, none, none, some (.long v), none, none], [], (W_Rules hr))) := by
  intro n
  induction n with
  | zero => intro x1 x2 x3 x5 hr; unfold L_Rules_countFitting_5; exact sv_Q.non
  | succ n ih =>
    intro x1 x2 x3 x5 hr
    unfold L_Rules_countFitting_5
    refine sv_Q.s (σ' := (8, [some (.ref 0), some (.int x1), some (.int x2), some (.long x3), none, some (.int x5)], [.int x2, .int x5], (W_Rules hr))) 2 rfl ?_
    refine sv_Q.b rfl (fun c1 => ?_) (fun c1 => ?_)
    · refine sv_Q.f (lo' := [none, none, none, some (.long x3), none, none]) ⟨rfl, trivial⟩ ?_
      exact sv_Q.z rfl
    · refine sv_Q.s (σ' := (15, [some (.ref 0), some (.int x1), some (.int x2), some (.long x3), none, some (.int x5)], [.int x5, .int x1, .ref 0], (W_Rules hr))) 3 rfl ?_
      refine sv_Q.o (fun v2 e3 => ?_)
      refine sv_Q.V (b := 0) (av := [.int x1, .int x5]) (ps := [0, 1, 2, 3, 4, 5, 6, 7]) (rest := []) (cs1 := (W_Rules hr)) (cs2 := (W_Rules hr)) (st' := [.int v2]) (cs' := (W_Rules hr)) (q := (15, .null, 0, 0, 0)) lk_Rules_70 (r_Rules_fits N hr x1 x5 v2 e3) rfl rfl rfl rfl rfl (Or.inl ⟨6, _, _, rfl, rfl, rfl⟩) rfl rfl (sc_Rules_Rules_0 hr) rfl rfl (pc_Rules_Rules_0 hr hr) ?_
      refine sv_Q.b rfl (fun c4 => ?_) (fun c4 => ?_)
      · refine sv_Q.s (σ' := (5, [some (.ref 0), some (.int x1), some (.int x2), some (.long x3), none, some (.int (x5 + (1 : Int32)))], [], (W_Rules hr))) 2 rfl ?_
        exact ih x1 x2 x3 (x5 + (1 : Int32)) hr
      · refine sv_Q.s (σ' := (5, [some (.ref 0), some (.int x1), some (.int x2), some (.long (x3 + (1 : Int64))), none, some (.int (x5 + (1 : Int32)))], [], (W_Rules hr))) 6 rfl ?_
        exact ih x1 x2 (x3 + (1 : Int64)) (x5 + (1 : Int32)) hr
def F_Rules_countFitting (N : Nat) (a0 : Int32) (a1 : Int32) (hr : Nat → Nat → Int32) : Option (Int64) := (Option.bind (L_Rules_countFitting_5 N N a0 a1 (0 : Int64) (0 : Int32) hr) fun (v5 : Int64) => (some v5))
theorem r_Rules_countFitting {X : Nat × (Nat → Int32)} (N : Nat) (hr : Nat → Nat → Int32) (a0 : Int32) (a1 : Int32) : ∀ x, (F_Rules_countFitting N a0 a1 hr) = some x → sv_R X 4 M_Rules_countFitting [.ref 0, .int a0, .int a1] (W_Rules hr) (some (.long x)) (W_Rules hr) := by
  refine sv_Q.R (res := (fun (x : Int64) => (some (.long x), (W_Rules hr)))) g_Rules_countFitting rfl ?_
  unfold F_Rules_countFitting
  refine sv_Q.s (σ' := (5, [some (.ref 0), some (.int a0), some (.int a1), some (.long (0 : Int64)), none, some (.int (0 : Int32))], [], (W_Rules hr))) 4 rfl ?_
  refine sv_Q.lo (fun v5 => (31, [none, none, none, some (.long v5), none, none], [], (W_Rules hr))) (fun v5 => ?_) (l_Rules_countFitting_5 N N a0 a1 (0 : Int64) (0 : Int32) hr)
  · refine sv_Q.s (σ' := (32, [none, none, none, some (.long v5), none, none], [.long v5], (W_Rules hr))) 1 rfl ?_
    exact sv_Q.z ⟨True, rfl, trivial, rfl⟩
def L_Rules_countWaysFrom_39 (N : Nat) (rec : Int32 → Int32 → (Nat → Nat → Int32) → Option (Int64 × (Nat → Nat → Int32))) : Nat → Int32 → Int32 → Int64 → Int32 → (Nat → Nat → Int32) → Option (Int64 × (Nat → Nat → Int32))
  | 0, _, _, _, _, _ => none
  | n + 1, x1, x2, x3, x5, hr => (if x2 ≤ x5 then (some (x3, hr)) else (Option.bind (F_Rules_fits N x1 x5 hr) fun (v6 : Int32) => (if v6 = 0 then (L_Rules_countWaysFrom_39 N rec n x1 x2 x3 (x5 + (1 : Int32)) hr) else (sv_let (sw hr 7 7 x1 x5) fun (hr_9 : Nat → Nat → Int32) => (Option.bind (rec (x1 + (1 : Int32)) x2 hr_9) fun (v10 : Int64 × (Nat → Nat → Int32)) => (L_Rules_countWaysFrom_39 N rec n x1 x2 (x3 + v10.1) (x5 + (1 : Int32)) v10.2))))))
theorem l_Rules_countWaysFrom_39 {X : Nat × (Nat → Int32)} (N : Nat) (dd : Nat) (rec : Int32 → Int32 → (Nat → Nat → Int32) → Option (Int64 × (Nat → Nat → Int32))) (hrec : ∀ (hr : Nat → Nat → Int32) (a0 : Int32) (a1 : Int32) x, rec a0 a1 hr = some x → sv_R X (dd + 5) M_Rules_countWaysFrom [.ref 0, .int a0, .int a1] (W_Rules hr) (some (.long x.1)) (W_Rules x.2)) : ∀ (n : Nat) (x1 : Int32) (x2 : Int32) (x3 : Int64) (x5 : Int32) (hr : Nat → Nat → Int32), sv_Q X (dd + 5) M_Rules_countWaysFrom (39, [some (.ref 0), some (.int x1), some (.int x2), some (.long x3), none, some (.int x5)], [], (W_Rules hr)) (L_Rules_countWaysFrom_39 N rec n x1 x2 x3 x5 hr) (fun v σ' => σ' = (82, [none, none, none, some (.long v.1), none, none], [], (W_Rules v.2))) := by
  intro n
  induction n with
  | zero => intro x1 x2 x3 x5 hr; unfold L_Rules_countWaysFrom_39; exact sv_Q.non
  | succ n ih =>
    intro x1 x2 x3 x5 hr
    unfold L_Rules_countWaysFrom_39
    refine sv_Q.s (σ' := (42, [some (.ref 0), some (.int x1), some (.int x2), some (.long x3), none, some (.int x5)], [.int x2, .int x5], (W_Rules hr))) 2 rfl ?_
    refine sv_Q.b rfl (fun c5 => ?_) (fun c5 => ?_)
    · refine sv_Q.f (lo' := [none, none, none, some (.long x3), none, none]) ⟨rfl, trivial⟩ ?_
      exact sv_Q.z rfl
    · refine sv_Q.s (σ' := (49, [some (.ref 0), some (.int x1), some (.int x2), some (.long x3), none, some (.int x5)], [.int x5, .int x1, .ref 0], (W_Rules hr))) 3 rfl ?_
      refine sv_Q.o (fun v6 e7 => ?_)
      refine sv_Q.V (b := 0) (av := [.int x1, .int x5]) (ps := [0, 1, 2, 3, 4, 5, 6, 7]) (rest := []) (cs1 := (W_Rules hr)) (cs2 := (W_Rules hr)) (st' := [.int v6]) (cs' := (W_Rules hr)) (q := (49, .null, 0, 0, 0)) lk_Rules_70 (r_Rules_fits N hr x1 x5 v6 e7) rfl rfl rfl rfl rfl (Or.inl ⟨6, _, _, rfl, rfl, rfl⟩) rfl rfl (sc_Rules_Rules_0 hr) rfl rfl (pc_Rules_Rules_0 hr hr) ?_
      refine sv_Q.b rfl (fun c8 => ?_) (fun c8 => ?_)
      · refine sv_Q.s (σ' := (39, [some (.ref 0), some (.int x1), some (.int x2), some (.long x3), none, some (.int (x5 + (1 : Int32)))], [], (W_Rules hr))) 2 rfl ?_
        exact ih x1 x2 x3 (x5 + (1 : Int32)) hr
      · refine sv_Q.s (σ' := (62, [some (.ref 0), some (.int x1), some (.int x2), some (.long x3), none, some (.int x5)], [.int x5, .int x1, .ref 7], (W_Rules hr))) 4 rfl ?_
        refine sv_Q.S (ps := [7]) (rest := []) (st' := []) (cs' := (W_Rules (sw hr 7 7 x1 x5))) (q := (62, .null, 0, 0, 0)) lk_Rules_43 (t_K_write 7 rfl (hr 7) x1 x5) rfl rfl rfl rfl rfl rfl rfl (su_Rules_7 hr) rfl rfl (pa_Rules_7 hr (wr 7 (hr 7) x1 x5)) ?_
        refine sv_Q.go (fun hr_9 => (65, [some (.ref 0), some (.int x1), some (.int x2), some (.long x3), none, some (.int x5)], [], (W_Rules hr_9))) (fun hr_9 => ?_)
        refine sv_Q.s (σ' := (71, [some (.ref 0), some (.int x1), some (.int x2), some (.long x3), none, some (.int x5)], [.int x2, .int (x1 + (1 : Int32)), .ref 0, .long x3], (W_Rules hr_9))) 6 rfl ?_
        refine sv_Q.o (fun v10 e11 => ?_)
        refine sv_Q.V (b := 0) (av := [.int (x1 + (1 : Int32)), .int x2]) (ps := [0, 1, 2, 3, 4, 5, 6, 7]) (rest := [.long x3]) (cs1 := (W_Rules hr_9)) (cs2 := (W_Rules v10.2)) (st' := [.long v10.1, .long x3]) (cs' := (W_Rules v10.2)) (q := (71, .null, 0, 0, 0)) lk_Rules_55 (hrec hr_9 (x1 + (1 : Int32)) x2 v10 e11) (Nat.ble_eq_true_of_le (Nat.le_refl _)) rfl rfl rfl rfl (Or.inl ⟨6, _, _, rfl, rfl, rfl⟩) rfl rfl (sc_Rules_Rules_0 hr_9) rfl rfl (pc_Rules_Rules_0 hr_9 v10.2) ?_
        refine sv_Q.s (σ' := (39, [some (.ref 0), some (.int x1), some (.int x2), some (.long (x3 + v10.1)), none, some (.int (x5 + (1 : Int32)))], [], (W_Rules v10.2))) 4 rfl ?_
        exact ih x1 x2 (x3 + v10.1) (x5 + (1 : Int32)) v10.2
def F_Rules_countWaysFrom (N : Nat) : Nat → Int32 → Int32 → (Nat → Nat → Int32) → Option (Int64 × (Nat → Nat → Int32))
  | 0, _, _, _ => none
  | dd + 1, a0, a1, hr => (if a0 < (hr 0 0) then (Option.bind (F_Rules_hasPartnerBehind N a0 hr) fun (v2 : Int32) => (if ¬ v2 = 0 then (Option.bind (L_Rules_countWaysFrom_39 N (F_Rules_countWaysFrom N dd) N a0 a1 (0 : Int64) (0 : Int32) hr) fun (v12 : Int64 × (Nat → Nat → Int32)) => (some (v12.1, v12.2))) else (Option.bind (F_Rules_countFitting N a0 a1 hr) fun (v13 : Int64) => (Option.bind (F_Rules_countWaysFrom N dd (a0 + (1 : Int32)) a1 hr) fun (v15 : Int64 × (Nat → Nat → Int32)) => (some ((v13 * v15.1), v15.2)))))) else (some ((1 : Int64), hr)))
theorem r_Rules_countWaysFrom {X : Nat × (Nat → Int32)} (N : Nat) : ∀ (dd : Nat) (hr : Nat → Nat → Int32) (a0 : Int32) (a1 : Int32) x, F_Rules_countWaysFrom N dd a0 a1 hr = some x → sv_R X (dd + 5) M_Rules_countWaysFrom [.ref 0, .int a0, .int a1] (W_Rules hr) (some (.long x.1)) (W_Rules x.2) := by
  intro dd
  induction dd with
  | zero => intro hr a0 a1 x hx; unfold F_Rules_countWaysFrom at hx; cases hx
  | succ dd ih =>
    intro hr a0 a1
    show ∀ x, _ → sv_R X (dd + 5 + 1) _ _ _ _ _
    refine sv_Q.R (res := (fun (x : Int64 × (Nat → Nat → Int32)) => (some (.long x.1), (W_Rules x.2)))) g_Rules_countWaysFrom rfl ?_
    unfold F_Rules_countWaysFrom
    refine sv_Q.s (σ' := (5, [some (.ref 0), some (.int a0), some (.int a1), none, none, none], [.int (hr 0 0), .int a0], (W_Rules hr))) 3 rfl ?_
    refine sv_Q.b rfl (fun c1 => ?_) (fun c1 => ?_)
    · refine sv_Q.s (σ' := (12, [some (.ref 0), some (.int a0), some (.int a1), none, none, none], [.int a0, .ref 0], (W_Rules hr))) 2 rfl ?_
      refine sv_Q.o (fun v2 e3 => ?_)
      refine sv_Q.V (b := 0) (av := [.int a0]) (ps := [0, 1, 2, 3, 4, 5, 6, 7]) (rest := []) (cs1 := (W_Rules hr)) (cs2 := (W_Rules hr)) (st' := [.int v2]) (cs' := (W_Rules hr)) (q := (12, .null, 0, 0, 0)) lk_Rules_63 (r_Rules_hasPartnerBehind N hr a0 v2 e3) rfl rfl rfl rfl rfl (Or.inl ⟨6, _, _, rfl, rfl, rfl⟩) rfl rfl (sc_Rules_Rules_0 hr) rfl rfl (pc_Rules_Rules_0 hr hr) ?_
      refine sv_Q.b rfl (fun c4 => ?_) (fun c4 => ?_)
      · refine sv_Q.s (σ' := (39, [some (.ref 0), some (.int a0), some (.int a1), some (.long (0 : Int64)), none, some (.int (0 : Int32))], [], (W_Rules hr))) 4 rfl ?_
        refine sv_Q.lo (fun v12 => (82, [none, none, none, some (.long v12.1), none, none], [], (W_Rules v12.2))) (fun v12 => ?_) (l_Rules_countWaysFrom_39 N dd (F_Rules_countWaysFrom N dd) ih N a0 a1 (0 : Int64) (0 : Int32) hr)
        · refine sv_Q.s (σ' := (83, [none, none, none, some (.long v12.1), none, none], [.long v12.1], (W_Rules v12.2))) 1 rfl ?_
          exact sv_Q.z ⟨True, rfl, trivial, rfl⟩
      · refine sv_Q.s (σ' := (21, [some (.ref 0), some (.int a0), some (.int a1), none, none, none], [.int a1, .int a0, .ref 0], (W_Rules hr))) 3 rfl ?_
        refine sv_Q.o (fun v13 e14 => ?_)
        refine sv_Q.V (b := 0) (av := [.int a0, .int a1]) (ps := [0, 1, 2, 3, 4, 5, 6, 7]) (rest := []) (cs1 := (W_Rules hr)) (cs2 := (W_Rules hr)) (st' := [.long v13]) (cs' := (W_Rules hr)) (q := (21, .null, 0, 0, 0)) lk_Rules_67 (r_Rules_countFitting N hr a0 a1 v13 e14) rfl rfl rfl rfl rfl (Or.inl ⟨6, _, _, rfl, rfl, rfl⟩) rfl rfl (sc_Rules_Rules_0 hr) rfl rfl (pc_Rules_Rules_0 hr hr) ?_
        refine sv_Q.s (σ' := (29, [some (.ref 0), some (.int a0), some (.int a1), none, none, none], [.int a1, .int (a0 + (1 : Int32)), .ref 0, .long v13], (W_Rules hr))) 5 rfl ?_
        refine sv_Q.o (fun v15 e16 => ?_)
        refine sv_Q.V (b := 0) (av := [.int (a0 + (1 : Int32)), .int a1]) (ps := [0, 1, 2, 3, 4, 5, 6, 7]) (rest := [.long v13]) (cs1 := (W_Rules hr)) (cs2 := (W_Rules v15.2)) (st' := [.long v15.1, .long v13]) (cs' := (W_Rules v15.2)) (q := (29, .null, 0, 0, 0)) lk_Rules_55 (ih hr (a0 + (1 : Int32)) a1 v15 e16) (Nat.ble_eq_true_of_le (Nat.le_refl _)) rfl rfl rfl rfl (Or.inl ⟨6, _, _, rfl, rfl, rfl⟩) rfl rfl (sc_Rules_Rules_0 hr) rfl rfl (pc_Rules_Rules_0 hr v15.2) ?_
        refine sv_Q.s (σ' := (33, [some (.ref 0), some (.int a0), some (.int a1), none, none, none], [.long (v13 * v15.1)], (W_Rules v15.2))) 1 rfl ?_
        exact sv_Q.z ⟨True, rfl, trivial, rfl⟩
    · refine sv_Q.s (σ' := (9, [some (.ref 0), some (.int a0), some (.int a1), none, none, none], [.long (1 : Int64)], (W_Rules hr))) 1 rfl ?_
      exact sv_Q.z ⟨True, rfl, trivial, rfl⟩
def F_Rules_countWays (N : Nat) (a0 : Int32) (hr : Nat → Nat → Int32) : Option (Int64 × (Nat → Nat → Int32)) := (Option.bind (F_Rules_countWaysFrom N 9 (0 : Int32) a0 hr) fun (v1 : Int64 × (Nat → Nat → Int32)) => (some (v1.1, v1.2)))
theorem r_Rules_countWays {X : Nat × (Nat → Int32)} (N : Nat) (hr : Nat → Nat → Int32) (a0 : Int32) : ∀ x, (F_Rules_countWays N a0 hr) = some x → sv_R X 15 M_Rules_countWays [.ref 0, .int a0] (W_Rules hr) (some (.long x.1)) (W_Rules x.2) := by
  refine sv_Q.R (res := (fun (x : Int64 × (Nat → Nat → Int32)) => (some (.long x.1), (W_Rules x.2)))) g_Rules_countWays rfl ?_
  unfold F_Rules_countWays
  refine sv_Q.s (σ' := (3, [some (.ref 0), some (.int a0)], [.int a0, .int (0 : Int32), .ref 0], (W_Rules hr))) 3 rfl ?_
  refine sv_Q.o (fun v1 e2 => ?_)
  refine sv_Q.V (b := 0) (av := [.int (0 : Int32), .int a0]) (ps := [0, 1, 2, 3, 4, 5, 6, 7]) (rest := []) (cs1 := (W_Rules hr)) (cs2 := (W_Rules v1.2)) (st' := [.long v1.1]) (cs' := (W_Rules v1.2)) (q := (3, .null, 0, 0, 0)) lk_Rules_55 (r_Rules_countWaysFrom N 9 hr (0 : Int32) a0 v1 e2) rfl rfl rfl rfl rfl (Or.inl ⟨6, _, _, rfl, rfl, rfl⟩) rfl rfl (sc_Rules_Rules_0 hr) rfl rfl (pc_Rules_Rules_0 hr v1.2) ?_
  exact sv_Q.z ⟨True, rfl, trivial, rfl⟩
def L_Rules_findWayFrom_12 (N : Nat) (rec : Int32 → Int32 → (Nat → Nat → Int32) → Option (Int32 × (Nat → Nat → Int32))) : Nat → Int32 → Int32 → Int32 → (Nat → Nat → Int32) → Option (((Nat → Nat → Int32)) ⊕ (Int32 × (Nat → Nat → Int32)))
  | 0, _, _, _, _ => none
  | n + 1, x1, x2, x3, hr => (if x2 ≤ x3 then (some (.inl hr)) else (Option.bind (F_Rules_fits N x1 x3 hr) fun (v3 : Int32) => (if v3 = 0 then (L_Rules_findWayFrom_12 N rec n x1 x2 (x3 + (1 : Int32)) hr) else (sv_let (sw hr 7 7 x1 x3) fun (hr_6 : Nat → Nat → Int32) => (Option.bind (rec (x1 + (1 : Int32)) x2 hr_6) fun (v7 : Int32 × (Nat → Nat → Int32)) => (if v7.1 = 0 then (Option.bind (F_Rules_hasPartnerBehind N x1 v7.2) fun (v10 : Int32) => (if ¬ v10 = 0 then (L_Rules_findWayFrom_12 N rec n x1 x2 (x3 + (1 : Int32)) v7.2) else (some (.inr ((0 : Int32), v7.2))))) else (some (.inr ((1 : Int32), v7.2)))))))))
theorem l_Rules_findWayFrom_12 {X : Nat × (Nat → Int32)} (N : Nat) (dd : Nat) (rec : Int32 → Int32 → (Nat → Nat → Int32) → Option (Int32 × (Nat → Nat → Int32))) (hrec : ∀ (hr : Nat → Nat → Int32) (a0 : Int32) (a1 : Int32) x, rec a0 a1 hr = some x → sv_R X (dd + 4) M_Rules_findWayFrom [.ref 0, .int a0, .int a1] (W_Rules hr) (some (.int x.1)) (W_Rules x.2)) : ∀ (n : Nat) (x1 : Int32) (x2 : Int32) (x3 : Int32) (hr : Nat → Nat → Int32), sv_Q X (dd + 4) M_Rules_findWayFrom (12, [some (.ref 0), some (.int x1), some (.int x2), some (.int x3)], [], (W_Rules hr)) (L_Rules_findWayFrom_12 N rec n x1 x2 x3 hr) (sv_K2 (fun (v : (Nat → Nat → Int32)) => (64, [none, none, none, none], [], (W_Rules v))) (sv_KR M_Rules_findWayFrom (fun (x : Int32 × (Nat → Nat → Int32)) => (some (.int x.1), (W_Rules x.2))))) := by
  intro n
  induction n with
  | zero => intro x1 x2 x3 hr; unfold L_Rules_findWayFrom_12; exact sv_Q.non
  | succ n ih =>
    intro x1 x2 x3 hr
    unfold L_Rules_findWayFrom_12
    refine sv_Q.s (σ' := (14, [some (.ref 0), some (.int x1), some (.int x2), some (.int x3)], [.int x2, .int x3], (W_Rules hr))) 2 rfl ?_
    refine sv_Q.b rfl (fun c2 => ?_) (fun c2 => ?_)
    · refine sv_Q.f (lo' := [none, none, none, none]) trivial ?_
      exact sv_Q.z rfl
    · refine sv_Q.s (σ' := (20, [some (.ref 0), some (.int x1), some (.int x2), some (.int x3)], [.int x3, .int x1, .ref 0], (W_Rules hr))) 3 rfl ?_
      refine sv_Q.o (fun v3 e4 => ?_)
      refine sv_Q.V (b := 0) (av := [.int x1, .int x3]) (ps := [0, 1, 2, 3, 4, 5, 6, 7]) (rest := []) (cs1 := (W_Rules hr)) (cs2 := (W_Rules hr)) (st' := [.int v3]) (cs' := (W_Rules hr)) (q := (20, .null, 0, 0, 0)) lk_Rules_70 (r_Rules_fits N hr x1 x3 v3 e4) rfl rfl rfl rfl rfl (Or.inl ⟨6, _, _, rfl, rfl, rfl⟩) rfl rfl (sc_Rules_Rules_0 hr) rfl rfl (pc_Rules_Rules_0 hr hr) ?_
      refine sv_Q.b rfl (fun c5 => ?_) (fun c5 => ?_)
      · refine sv_Q.s (σ' := (12, [some (.ref 0), some (.int x1), some (.int x2), some (.int (x3 + (1 : Int32)))], [], (W_Rules hr))) 2 rfl ?_
        exact ih x1 x2 (x3 + (1 : Int32)) hr
      · refine sv_Q.s (σ' := (32, [some (.ref 0), some (.int x1), some (.int x2), some (.int x3)], [.int x3, .int x1, .ref 7], (W_Rules hr))) 4 rfl ?_
        refine sv_Q.S (ps := [7]) (rest := []) (st' := []) (cs' := (W_Rules (sw hr 7 7 x1 x3))) (q := (32, .null, 0, 0, 0)) lk_Rules_43 (t_K_write 7 rfl (hr 7) x1 x3) rfl rfl rfl rfl rfl rfl rfl (su_Rules_7 hr) rfl rfl (pa_Rules_7 hr (wr 7 (hr 7) x1 x3)) ?_
        refine sv_Q.go (fun hr_6 => (35, [some (.ref 0), some (.int x1), some (.int x2), some (.int x3)], [], (W_Rules hr_6))) (fun hr_6 => ?_)
        refine sv_Q.s (σ' := (40, [some (.ref 0), some (.int x1), some (.int x2), some (.int x3)], [.int x2, .int (x1 + (1 : Int32)), .ref 0], (W_Rules hr_6))) 5 rfl ?_
        refine sv_Q.o (fun v7 e8 => ?_)
        refine sv_Q.V (b := 0) (av := [.int (x1 + (1 : Int32)), .int x2]) (ps := [0, 1, 2, 3, 4, 5, 6, 7]) (rest := []) (cs1 := (W_Rules hr_6)) (cs2 := (W_Rules v7.2)) (st' := [.int v7.1]) (cs' := (W_Rules v7.2)) (q := (40, .null, 0, 0, 0)) lk_Rules_59 (hrec hr_6 (x1 + (1 : Int32)) x2 v7 e8) (Nat.ble_eq_true_of_le (Nat.le_refl _)) rfl rfl rfl rfl (Or.inl ⟨6, _, _, rfl, rfl, rfl⟩) rfl rfl (sc_Rules_Rules_0 hr_6) rfl rfl (pc_Rules_Rules_0 hr_6 v7.2) ?_
        refine sv_Q.b rfl (fun c9 => ?_) (fun c9 => ?_)
        · refine sv_Q.s (σ' := (50, [some (.ref 0), some (.int x1), some (.int x2), some (.int x3)], [.int x1, .ref 0], (W_Rules v7.2))) 2 rfl ?_
          refine sv_Q.o (fun v10 e11 => ?_)
          refine sv_Q.V (b := 0) (av := [.int x1]) (ps := [0, 1, 2, 3, 4, 5, 6, 7]) (rest := []) (cs1 := (W_Rules v7.2)) (cs2 := (W_Rules v7.2)) (st' := [.int v10]) (cs' := (W_Rules v7.2)) (q := (50, .null, 0, 0, 0)) lk_Rules_63 (r_Rules_hasPartnerBehind N v7.2 x1 v10 e11) rfl rfl rfl rfl rfl (Or.inl ⟨6, _, _, rfl, rfl, rfl⟩) rfl rfl (sc_Rules_Rules_0 v7.2) rfl rfl (pc_Rules_Rules_0 v7.2 v7.2) ?_
          refine sv_Q.b rfl (fun c12 => ?_) (fun c12 => ?_)
          · refine sv_Q.s (σ' := (12, [some (.ref 0), some (.int x1), some (.int x2), some (.int (x3 + (1 : Int32)))], [], (W_Rules v7.2))) 2 rfl ?_
            exact ih x1 x2 (x3 + (1 : Int32)) v7.2
          · refine sv_Q.s (σ' := (57, [some (.ref 0), some (.int x1), some (.int x2), some (.int x3)], [.int (0 : Int32)], (W_Rules v7.2))) 1 rfl ?_
            exact sv_Q.z ⟨sv_01 (0 : Int32), rfl, Or.inl rfl, rfl⟩
        · refine sv_Q.s (σ' := (47, [some (.ref 0), some (.int x1), some (.int x2), some (.int x3)], [.int (1 : Int32)], (W_Rules v7.2))) 1 rfl ?_
          exact sv_Q.z ⟨sv_01 (1 : Int32), rfl, Or.inr rfl, rfl⟩
def F_Rules_findWayFrom (N : Nat) : Nat → Int32 → Int32 → (Nat → Nat → Int32) → Option (Int32 × (Nat → Nat → Int32))
  | 0, _, _, _ => none
  | dd + 1, a0, a1, hr => (if a0 < (hr 0 0) then (sv_bs (L_Rules_findWayFrom_12 N (F_Rules_findWayFrom N dd) N a0 a1 (0 : Int32) hr) id fun (v13 : (Nat → Nat → Int32)) => (some ((0 : Int32), v13))) else (some ((1 : Int32), hr)))
theorem r_Rules_findWayFrom {X : Nat × (Nat → Int32)} (N : Nat) : ∀ (dd : Nat) (hr : Nat → Nat → Int32) (a0 : Int32) (a1 : Int32) x, F_Rules_findWayFrom N dd a0 a1 hr = some x → sv_R X (dd + 4) M_Rules_findWayFrom [.ref 0, .int a0, .int a1] (W_Rules hr) (some (.int x.1)) (W_Rules x.2) := by
  intro dd
  induction dd with
  | zero => intro hr a0 a1 x hx; unfold F_Rules_findWayFrom at hx; cases hx
  | succ dd ih =>
    intro hr a0 a1
    show ∀ x, _ → sv_R X (dd + 4 + 1) _ _ _ _ _
    refine sv_Q.R (res := (fun (x : Int32 × (Nat → Nat → Int32)) => (some (.int x.1), (W_Rules x.2)))) g_Rules_findWayFrom rfl ?_
    unfold F_Rules_findWayFrom
    refine sv_Q.s (σ' := (5, [some (.ref 0), some (.int a0), some (.int a1), none], [.int (hr 0 0), .int a0], (W_Rules hr))) 3 rfl ?_
    refine sv_Q.b rfl (fun c1 => ?_) (fun c1 => ?_)
    · refine sv_Q.s (σ' := (12, [some (.ref 0), some (.int a0), some (.int a1), some (.int (0 : Int32))], [], (W_Rules hr))) 2 rfl ?_
      refine sv_Q.bs (l_Rules_findWayFrom_12 N dd (F_Rules_findWayFrom N dd) ih N a0 a1 (0 : Int32) hr) (fun v13 => ?_) (fun r σ' h => h)
      · refine sv_Q.s (σ' := (65, [none, none, none, none], [.int (0 : Int32)], (W_Rules v13))) 1 rfl ?_
        exact sv_Q.z ⟨sv_01 (0 : Int32), rfl, Or.inl rfl, rfl⟩
    · refine sv_Q.s (σ' := (9, [some (.ref 0), some (.int a0), some (.int a1), none], [.int (1 : Int32)], (W_Rules hr))) 1 rfl ?_
      exact sv_Q.z ⟨sv_01 (1 : Int32), rfl, Or.inr rfl, rfl⟩
def F_Rules_findWay (N : Nat) (a0 : Int32) (hr : Nat → Nat → Int32) : Option (Int32 × (Nat → Nat → Int32)) := (Option.bind (F_Rules_findWayFrom N 9 (0 : Int32) a0 hr) fun (v1 : Int32 × (Nat → Nat → Int32)) => (if v1.1 = 0 ∨ v1.1 = 1 then some (v1.1, v1.2) else none))
theorem r_Rules_findWay {X : Nat × (Nat → Int32)} (N : Nat) (hr : Nat → Nat → Int32) (a0 : Int32) : ∀ x, (F_Rules_findWay N a0 hr) = some x → sv_R X 14 M_Rules_findWay [.ref 0, .int a0] (W_Rules hr) (some (.int x.1)) (W_Rules x.2) := by
  refine sv_Q.R (res := (fun (x : Int32 × (Nat → Nat → Int32)) => (some (.int x.1), (W_Rules x.2)))) g_Rules_findWay rfl ?_
  unfold F_Rules_findWay
  refine sv_Q.s (σ' := (3, [some (.ref 0), some (.int a0)], [.int a0, .int (0 : Int32), .ref 0], (W_Rules hr))) 3 rfl ?_
  refine sv_Q.o (fun v1 e2 => ?_)
  refine sv_Q.V (b := 0) (av := [.int (0 : Int32), .int a0]) (ps := [0, 1, 2, 3, 4, 5, 6, 7]) (rest := []) (cs1 := (W_Rules hr)) (cs2 := (W_Rules v1.2)) (st' := [.int v1.1]) (cs' := (W_Rules v1.2)) (q := (3, .null, 0, 0, 0)) lk_Rules_59 (r_Rules_findWayFrom N 9 hr (0 : Int32) a0 v1 e2) rfl rfl rfl rfl rfl (Or.inl ⟨6, _, _, rfl, rfl, rfl⟩) rfl rfl (sc_Rules_Rules_0 hr) rfl rfl (pc_Rules_Rules_0 hr v1.2) ?_
  refine sv_Q.ite (fun c3 => ?_) (fun c3 => sv_Q.non)
  exact sv_Q.z ⟨sv_01 v1.1, rfl, c3, rfl⟩
def F_Rules_chosenBay (a0 : Int32) (hr : Nat → Nat → Int32) : Int32 := (rd 7 (hr 7) a0)
theorem r_Rules_chosenBay {X : Nat × (Nat → Int32)} (hr : Nat → Nat → Int32) (a0 : Int32) : ∀ x, some (F_Rules_chosenBay a0 hr) = some x → sv_R X 2 M_Rules_chosenBay [.ref 0, .int a0] (W_Rules hr) (some (.int x)) (W_Rules hr) := by
  refine sv_Q.R (res := (fun (x : Int32) => (some (.int x), (W_Rules hr)))) g_Rules_chosenBay rfl ?_
  unfold F_Rules_chosenBay
  refine sv_Q.s (σ' := (5, [some (.ref 0), some (.int a0)], [.int a0, .ref 7], (W_Rules hr))) 3 rfl ?_
  refine sv_Q.S (ps := [7]) (rest := []) (st' := [.int (rd 7 (hr 7) a0)]) (cs' := (W_Rules hr)) (q := (5, .null, 0, 0, 0)) lk_Rules_51 (t_K_read 7 rfl (hr 7) a0) rfl rfl rfl rfl rfl rfl rfl (su_Rules_7 hr) rfl rfl (pu_Rules_7 hr) ?_
  exact sv_Q.z ⟨True, rfl, trivial, rfl⟩
theorem t_Rules_chosenBay {X : Nat × (Nat → Int32)} (hr : Nat → Nat → Int32) (a0 : Int32) : sv_R X 2 M_Rules_chosenBay [.ref 0, .int a0] (W_Rules hr) (some (.int (F_Rules_chosenBay a0 hr))) (W_Rules hr) := r_Rules_chosenBay hr a0 _ rfl
