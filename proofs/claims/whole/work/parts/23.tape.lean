/-! the tape, by program out of the listing -/
theorem pa_Tape_1 (ht : Nat → Nat → Int32) (g : Nat → Int32) : sv_pt [1] (([.inl (0, 900, g)] : List sv_C).map (sv_r (sv_pi [1]))) 0 (W_Tape ht) = W_Tape (sr ht 1 g) := rfl
theorem su_Tape_1 (ht : Nat → Nat → Int32) : sv_sub [1] (W_Tape ht) [.inl (0, 900, ht 1)] := rfl
theorem pu_Tape_1 (ht : Nat → Nat → Int32) : sv_pt [1] (([.inl (0, 900, ht 1)] : List sv_C).map (sv_r (sv_pi [1]))) 0 (W_Tape ht) = W_Tape ht := rfl
theorem pc_Tape_Tape_0 (ht n0 : Nat → Nat → Int32) : sv_pt [0, 1] ((W_Tape n0).map (sv_r (sv_pi [0, 1]))) 0 (W_Tape ht) = W_Tape n0 := rfl
theorem sc_Tape_Tape_0 (ht : Nat → Nat → Int32) : sv_sub [0, 1] (W_Tape ht) (W_Tape ht) := rfl
def F_Tape_hasRoom (a0 : Int32) (ht : Nat → Nat → Int32) : Int32 := (if (900 : Int32) < ((ht 0 1) + a0) then (0 : Int32) else (1 : Int32))
theorem r_Tape_hasRoom {X : Nat × (Nat → Int32)} (ht : Nat → Nat → Int32) (a0 : Int32) : ∀ x, some (F_Tape_hasRoom a0 ht) = some x → sv_R X 1 M_Tape_hasRoom [.ref 0, .int a0] (W_Tape ht) (some (.int x)) (W_Tape ht) := by
  refine sv_Q.R (res := (fun (x : Int32) => (some (.int x), (W_Tape ht)))) g_Tape_hasRoom rfl ?_
  unfold F_Tape_hasRoom
  refine sv_Q.s (σ' := (9, [some (.ref 0), some (.int a0)], [.int (900 : Int32), .int ((ht 0 1) + a0)], (W_Tape ht))) 5 rfl ?_
  refine sv_Q.sb rfl (fun c1 => ?_) (fun c1 => ?_)
  · refine sv_Q.s (σ' := (17, [some (.ref 0), some (.int a0)], [.int (0 : Int32)], (W_Tape ht))) 1 rfl ?_
    exact sv_Q.z ⟨sv_01 (0 : Int32), rfl, Or.inl rfl, rfl⟩
  · refine sv_Q.s (σ' := (17, [some (.ref 0), some (.int a0)], [.int (1 : Int32)], (W_Tape ht))) 2 rfl ?_
    exact sv_Q.z ⟨sv_01 (1 : Int32), rfl, Or.inr rfl, rfl⟩
theorem t_Tape_hasRoom {X : Nat × (Nat → Int32)} (ht : Nat → Nat → Int32) (a0 : Int32) : sv_R X 1 M_Tape_hasRoom [.ref 0, .int a0] (W_Tape ht) (some (.int (F_Tape_hasRoom a0 ht))) (W_Tape ht) := r_Tape_hasRoom ht a0 _ rfl
theorem b_Tape_hasRoom (a0 : Int32) (ht : Nat → Nat → Int32) : sv_01 (F_Tape_hasRoom a0 ht) := by
  unfold F_Tape_hasRoom
  try simp only [sv_let]
  repeat' split
  all_goals first | exact Or.inl rfl | exact Or.inr rfl
def L_Tape_append_3 (N : Nat) : Nat → Int32 → Int32 → (Nat → Nat → Int32) → Option ((Nat → Nat → Int32))
  | 0, _, _, _ => none
  | n + 1, x1, x2, ht => (if x2 < 0 then (some ht) else (sv_let (sw ht 1 900 (ht 0 1) ((((x1).toUInt32 >>> ((x2).toUInt32 &&& Int32.toUInt32 31)).toInt32) &&& (255 : Int32))) fun (ht_2 : Nat → Nat → Int32) => (sv_let (ss ht_2 1 ((ht_2 0 1) + (1 : Int32))) fun (ht_3 : Nat → Nat → Int32) => (L_Tape_append_3 N n x1 (x2 + (-8 : Int32)) ht_3))))
theorem l_Tape_append_3 {X : Nat × (Nat → Int32)} (N : Nat) : ∀ (n : Nat) (x1 : Int32) (x2 : Int32) (ht : Nat → Nat → Int32), sv_Q X 1 M_Tape_append (3, [some (.ref 0), some (.int x1), some (.int x2)], [], (W_Tape ht)) (L_Tape_append_3 N n x1 x2 ht) (fun v σ' => σ' = (41, [none, none, none], [], (W_Tape v))) := by
  intro n
  induction n with
  | zero => intro x1 x2 ht; unfold L_Tape_append_3; exact sv_Q.non
  | succ n ih =>
    intro x1 x2 ht
    unfold L_Tape_append_3
    refine sv_Q.s (σ' := (4, [some (.ref 0), some (.int x1), some (.int x2)], [.int x2], (W_Tape ht))) 1 rfl ?_
    refine sv_Q.b rfl (fun c1 => ?_) (fun c1 => ?_)
    · refine sv_Q.f (lo' := [none, none, none]) trivial ?_
      exact sv_Q.z rfl
    · refine sv_Q.s (σ' := (22, [some (.ref 0), some (.int x1), some (.int x2)], [.int ((((x1).toUInt32 >>> ((x2).toUInt32 &&& Int32.toUInt32 31)).toInt32) &&& (255 : Int32)), .int (ht 0 1), .ref 1], (W_Tape ht))) 9 rfl ?_
      refine sv_Q.S (ps := [1]) (rest := []) (st' := []) (cs' := (W_Tape (sw ht 1 900 (ht 0 1) ((((x1).toUInt32 >>> ((x2).toUInt32 &&& Int32.toUInt32 31)).toInt32) &&& (255 : Int32))))) (q := (22, .null, 0, 0, 0)) lk_Tape_29 (t_K_write 900 rfl (ht 1) (ht 0 1) ((((x1).toUInt32 >>> ((x2).toUInt32 &&& Int32.toUInt32 31)).toInt32) &&& (255 : Int32))) rfl rfl rfl rfl rfl rfl rfl (su_Tape_1 ht) rfl rfl (pa_Tape_1 ht (wr 900 (ht 1) (ht 0 1) ((((x1).toUInt32 >>> ((x2).toUInt32 &&& Int32.toUInt32 31)).toInt32) &&& (255 : Int32)))) ?_
      refine sv_Q.go (fun ht_2 => (25, [some (.ref 0), some (.int x1), some (.int x2)], [], (W_Tape ht_2))) (fun ht_2 => ?_)
      refine sv_Q.s (σ' := (35, [some (.ref 0), some (.int x1), some (.int x2)], [], (W_Tape (ss ht_2 1 ((ht_2 0 1) + (1 : Int32)))))) 6 rfl ?_
      refine sv_Q.go (fun ht_3 => (35, [some (.ref 0), some (.int x1), some (.int x2)], [], (W_Tape ht_3))) (fun ht_3 => ?_)
      refine sv_Q.s (σ' := (3, [some (.ref 0), some (.int x1), some (.int (x2 + (-8 : Int32)))], [], (W_Tape ht_3))) 2 rfl ?_
      exact ih x1 (x2 + (-8 : Int32)) ht_3
def F_Tape_append (N : Nat) (a0 : Int32) (ht : Nat → Nat → Int32) : Option ((Nat → Nat → Int32)) := (Option.bind (L_Tape_append_3 N N a0 (24 : Int32) ht) fun (v4 : (Nat → Nat → Int32)) => (some v4))
theorem r_Tape_append {X : Nat × (Nat → Int32)} (N : Nat) (ht : Nat → Nat → Int32) (a0 : Int32) : ∀ x, (F_Tape_append N a0 ht) = some x → sv_R X 2 M_Tape_append [.ref 0, .int a0] (W_Tape ht) none (W_Tape x) := by
  refine sv_Q.R (res := (fun (x : (Nat → Nat → Int32)) => ((none : Option Value), (W_Tape x)))) g_Tape_append rfl ?_
  unfold F_Tape_append
  refine sv_Q.s (σ' := (3, [some (.ref 0), some (.int a0), some (.int (24 : Int32))], [], (W_Tape ht))) 2 rfl ?_
  refine sv_Q.lo (fun v4 => (41, [none, none, none], [], (W_Tape v4))) (fun v4 => ?_) (l_Tape_append_3 N N a0 (24 : Int32) ht)
  · exact sv_Q.z ⟨True, rfl, trivial, rfl⟩
def F_Tape_isBlank (a0 : Int32) : Int32 := (if a0 = (32 : Int32) then (1 : Int32) else (if ¬ a0 = (10 : Int32) then (0 : Int32) else (1 : Int32)))
theorem r_Tape_isBlank {X : Nat × (Nat → Int32)} (a0 : Int32) : ∀ x, some (F_Tape_isBlank a0) = some x → sv_R X 1 M_Tape_isBlank [.int a0] [] (some (.int x)) [] := by
  refine sv_Q.R (res := (fun (x : Int32) => (some (.int x), []))) g_Tape_isBlank rfl ?_
  unfold F_Tape_isBlank
  refine sv_Q.s (σ' := (3, [some (.int a0)], [.int (32 : Int32), .int a0], [])) 2 rfl ?_
  refine sv_Q.sb rfl (fun c1 => ?_) (fun c1 => ?_)
  · refine sv_Q.s (σ' := (17, [some (.int a0)], [.int (1 : Int32)], [])) 2 rfl ?_
    exact sv_Q.z ⟨sv_01 (1 : Int32), rfl, Or.inr rfl, rfl⟩
  · refine sv_Q.s (σ' := (9, [some (.int a0)], [.int (10 : Int32), .int a0], [])) 2 rfl ?_
    refine sv_Q.sb rfl (fun c2 => ?_) (fun c2 => ?_)
    · refine sv_Q.s (σ' := (17, [some (.int a0)], [.int (0 : Int32)], [])) 1 rfl ?_
      exact sv_Q.z ⟨sv_01 (0 : Int32), rfl, Or.inl rfl, rfl⟩
    · refine sv_Q.s (σ' := (17, [some (.int a0)], [.int (1 : Int32)], [])) 2 rfl ?_
      exact sv_Q.z ⟨sv_01 (1 : Int32), rfl, Or.inr rfl, rfl⟩
theorem t_Tape_isBlank {X : Nat × (Nat → Int32)} (a0 : Int32) : sv_R X 1 M_Tape_isBlank [.int a0] [] (some (.int (F_Tape_isBlank a0))) [] := r_Tape_isBlank a0 _ rfl
theorem b_Tape_isBlank (a0 : Int32) : sv_01 (F_Tape_isBlank a0) := by
  unfold F_Tape_isBlank
  try simp only [sv_let]
  repeat' split
  all_goals first | exact Or.inl rfl | exact Or.inr rfl
def F_Tape_isLetter (a0 : Int32) : Int32 := (if a0 < (97 : Int32) then (0 : Int32) else (if (122 : Int32) < a0 then (0 : Int32) else (1 : Int32)))
theorem r_Tape_isLetter {X : Nat × (Nat → Int32)} (a0 : Int32) : ∀ x, some (F_Tape_isLetter a0) = some x → sv_R X 1 M_Tape_isLetter [.int a0] [] (some (.int x)) [] := by
  refine sv_Q.R (res := (fun (x : Int32) => (some (.int x), []))) g_Tape_isLetter rfl ?_
  unfold F_Tape_isLetter
  refine sv_Q.s (σ' := (3, [some (.int a0)], [.int (97 : Int32), .int a0], [])) 2 rfl ?_
  refine sv_Q.sb rfl (fun c1 => ?_) (fun c1 => ?_)
  · refine sv_Q.s (σ' := (17, [some (.int a0)], [.int (0 : Int32)], [])) 1 rfl ?_
    exact sv_Q.z ⟨sv_01 (0 : Int32), rfl, Or.inl rfl, rfl⟩
  · refine sv_Q.s (σ' := (9, [some (.int a0)], [.int (122 : Int32), .int a0], [])) 2 rfl ?_
    refine sv_Q.sb rfl (fun c2 => ?_) (fun c2 => ?_)
    · refine sv_Q.s (σ' := (17, [some (.int a0)], [.int (0 : Int32)], [])) 1 rfl ?_
      exact sv_Q.z ⟨sv_01 (0 : Int32), rfl, Or.inl rfl, rfl⟩
    · refine sv_Q.s (σ' := (17, [some (.int a0)], [.int (1 : Int32)], [])) 2 rfl ?_
      exact sv_Q.z ⟨sv_01 (1 : Int32), rfl, Or.inr rfl, rfl⟩
theorem t_Tape_isLetter {X : Nat × (Nat → Int32)} (a0 : Int32) : sv_R X 1 M_Tape_isLetter [.int a0] [] (some (.int (F_Tape_isLetter a0))) [] := r_Tape_isLetter a0 _ rfl
theorem b_Tape_isLetter (a0 : Int32) : sv_01 (F_Tape_isLetter a0) := by
  unfold F_Tape_isLetter
  try simp only [sv_let]
  repeat' split
  all_goals first | exact Or.inl rfl | exact Or.inr rfl
def L_Tape_scanWord_5 (N : Nat) : Nat → (Nat → Nat → Int32) → Option ((Nat → Nat → Int32))
  | 0, _ => none
  | n + 1, ht => (if (ht 0 1) ≤ (ht 0 5) then (some ht) else (if (F_Tape_isLetter (rd 900 (ht 1) (ht 0 5))) = 0 then (some ht) else (sv_let (ss ht 5 ((ht 0 5) + (1 : Int32))) fun (ht_4 : Nat → Nat → Int32) => (L_Tape_scanWord_5 N n ht_4))))
theorem l_Tape_scanWord_5 {X : Nat × (Nat → Int32)} (N : Nat) : ∀ (n : Nat) (ht : Nat → Nat → Int32), sv_Q X 1 M_Tape_scanWord (5, [some (.ref 0)], [], (W_Tape ht)) (L_Tape_scanWord_5 N n ht) (fun v σ' => σ' = (46, [none], [], (W_Tape v))) := by
  intro n
  induction n with
  | zero => intro ht; unfold L_Tape_scanWord_5; exact sv_Q.non
  | succ n ih =>
    intro ht
    unfold L_Tape_scanWord_5
    refine sv_Q.s (σ' := (13, [some (.ref 0)], [.int (ht 0 1), .int (ht 0 5)], (W_Tape ht))) 4 rfl ?_
    refine sv_Q.b rfl (fun c2 => ?_) (fun c2 => ?_)
    · refine sv_Q.f (lo' := [none]) trivial ?_
      exact sv_Q.z rfl
    · refine sv_Q.s (σ' := (24, [some (.ref 0)], [.int (ht 0 5), .ref 1], (W_Tape ht))) 4 rfl ?_
      refine sv_Q.S (ps := [1]) (rest := []) (st' := [.int (rd 900 (ht 1) (ht 0 5))]) (cs' := (W_Tape ht)) (q := (24, .null, 0, 0, 0)) lk_Tape_38 (t_K_read 900 rfl (ht 1) (ht 0 5)) rfl rfl rfl rfl rfl rfl rfl (su_Tape_1 ht) rfl rfl (pu_Tape_1 ht) ?_
      refine sv_Q.S (ps := []) (rest := []) (cs1 := []) (cs2 := []) (st' := [.int (F_Tape_isLetter (rd 900 (ht 1) (ht 0 5)))]) (cs' := (W_Tape ht)) (q := (27, .null, 0, 0, 0)) lk_Tape_46 (t_Tape_isLetter (rd 900 (ht 1) (ht 0 5))) rfl rfl rfl rfl rfl rfl rfl rfl rfl rfl (sv_pt_nil _ _) ?_
      refine sv_Q.b rfl (fun c3 => ?_) (fun c3 => ?_)
      · refine sv_Q.f (lo' := [none]) trivial ?_
        exact sv_Q.z rfl
      · refine sv_Q.s (σ' := (43, [some (.ref 0)], [], (W_Tape (ss ht 5 ((ht 0 5) + (1 : Int32)))))) 6 rfl ?_
        refine sv_Q.go (fun ht_4 => (43, [some (.ref 0)], [], (W_Tape ht_4))) (fun ht_4 => ?_)
        refine sv_Q.s (σ' := (5, [some (.ref 0)], [], (W_Tape ht_4))) 1 rfl ?_
        exact ih  ht_4
def F_Tape_scanWord (N : Nat) (ht : Nat → Nat → Int32) : Option ((Nat → Nat → Int32)) := (sv_let (ss ht 2 (1 : Int32)) fun (ht_1 : Nat → Nat → Int32) => (Option.bind (L_Tape_scanWord_5 N N ht_1) fun (v5 : (Nat → Nat → Int32)) => (some v5)))
theorem r_Tape_scanWord {X : Nat × (Nat → Int32)} (N : Nat) (ht : Nat → Nat → Int32) : ∀ x, (F_Tape_scanWord N ht) = some x → sv_R X 2 M_Tape_scanWord [.ref 0] (W_Tape ht) none (W_Tape x) := by
  refine sv_Q.R (res := (fun (x : (Nat → Nat → Int32)) => ((none : Option Value), (W_Tape x)))) g_Tape_scanWord rfl ?_
  unfold F_Tape_scanWord
  refine sv_Q.s (σ' := (5, [some (.ref 0)], [], (W_Tape (ss ht 2 (1 : Int32))))) 3 rfl ?_
  refine sv_Q.go (fun ht_1 => (5, [some (.ref 0)], [], (W_Tape ht_1))) (fun ht_1 => ?_)
  refine sv_Q.lo (fun v5 => (46, [none], [], (W_Tape v5))) (fun v5 => ?_) (l_Tape_scanWord_5 N N ht_1)
  · exact sv_Q.z ⟨True, rfl, trivial, rfl⟩
def F_Tape_isDigit (a0 : Int32) : Int32 := (if a0 < (48 : Int32) then (0 : Int32) else (if (57 : Int32) < a0 then (0 : Int32) else (1 : Int32)))
theorem r_Tape_isDigit {X : Nat × (Nat → Int32)} (a0 : Int32) : ∀ x, some (F_Tape_isDigit a0) = some x → sv_R X 1 M_Tape_isDigit [.int a0] [] (some (.int x)) [] := by
  refine sv_Q.R (res := (fun (x : Int32) => (some (.int x), []))) g_Tape_isDigit rfl ?_
  unfold F_Tape_isDigit
  refine sv_Q.s (σ' := (3, [some (.int a0)], [.int (48 : Int32), .int a0], [])) 2 rfl ?_
  refine sv_Q.sb rfl (fun c1 => ?_) (fun c1 => ?_)
  · refine sv_Q.s (σ' := (17, [some (.int a0)], [.int (0 : Int32)], [])) 1 rfl ?_
    exact sv_Q.z ⟨sv_01 (0 : Int32), rfl, Or.inl rfl, rfl⟩
  · refine sv_Q.s (σ' := (9, [some (.int a0)], [.int (57 : Int32), .int a0], [])) 2 rfl ?_
    refine sv_Q.sb rfl (fun c2 => ?_) (fun c2 => ?_)
    · refine sv_Q.s (σ' := (17, [some (.int a0)], [.int (0 : Int32)], [])) 1 rfl ?_
      exact sv_Q.z ⟨sv_01 (0 : Int32), rfl, Or.inl rfl, rfl⟩
    · refine sv_Q.s (σ' := (17, [some (.int a0)], [.int (1 : Int32)], [])) 2 rfl ?_
      exact sv_Q.z ⟨sv_01 (1 : Int32), rfl, Or.inr rfl, rfl⟩
theorem t_Tape_isDigit {X : Nat × (Nat → Int32)} (a0 : Int32) : sv_R X 1 M_Tape_isDigit [.int a0] [] (some (.int (F_Tape_isDigit a0))) [] := r_Tape_isDigit a0 _ rfl
theorem b_Tape_isDigit (a0 : Int32) : sv_01 (F_Tape_isDigit a0) := by
  unfold F_Tape_isDigit
  try simp only [sv_let]
  repeat' split
  all_goals first | exact Or.inl rfl | exact Or.inr rfl
def L_Tape_scanNumber_10 (N : Nat) : Nat → (Nat → Nat → Int32) → Option ((Nat → Nat → Int32))
  | 0, _ => none
  | n + 1, ht => (if (ht 0 1) ≤ (ht 0 5) then (some ht) else (if (F_Tape_isDigit (rd 900 (ht 1) (ht 0 5))) = 0 then (some ht) else (sv_let (ss ht 4 (if ((((ht 0 4) * (10 : Int32)) + (rd 900 (ht 1) (ht 0 5))) - (48 : Int32)) < (100000 : Int32) then ((((ht 0 4) * (10 : Int32)) + (rd 900 (ht 1) (ht 0 5))) - (48 : Int32)) else (100000 : Int32))) fun (ht_5 : Nat → Nat → Int32) => (sv_let (ss ht_5 5 ((ht_5 0 5) + (1 : Int32))) fun (ht_6 : Nat → Nat → Int32) => (L_Tape_scanNumber_10 N n ht_6)))))
theorem l_Tape_scanNumber_10 {X : Nat × (Nat → Int32)} (N : Nat) : ∀ (n : Nat) (ht : Nat → Nat → Int32), sv_Q X 1 M_Tape_scanNumber (10, [some (.ref 0)], [], (W_Tape ht)) (L_Tape_scanNumber_10 N n ht) (fun v σ' => σ' = (82, [none], [], (W_Tape v))) := by
  intro n
  induction n with
  | zero => intro ht; unfold L_Tape_scanNumber_10; exact sv_Q.non
  | succ n ih =>
    intro ht
    unfold L_Tape_scanNumber_10
    refine sv_Q.s (σ' := (18, [some (.ref 0)], [.int (ht 0 1), .int (ht 0 5)], (W_Tape ht))) 4 rfl ?_
    refine sv_Q.b rfl (fun c3 => ?_) (fun c3 => ?_)
    · refine sv_Q.f (lo' := [none]) trivial ?_
      exact sv_Q.z rfl
    · refine sv_Q.s (σ' := (29, [some (.ref 0)], [.int (ht 0 5), .ref 1], (W_Tape ht))) 4 rfl ?_
      refine sv_Q.S (ps := [1]) (rest := []) (st' := [.int (rd 900 (ht 1) (ht 0 5))]) (cs' := (W_Tape ht)) (q := (29, .null, 0, 0, 0)) lk_Tape_38 (t_K_read 900 rfl (ht 1) (ht 0 5)) rfl rfl rfl rfl rfl rfl rfl (su_Tape_1 ht) rfl rfl (pu_Tape_1 ht) ?_
      refine sv_Q.S (ps := []) (rest := []) (cs1 := []) (cs2 := []) (st' := [.int (F_Tape_isDigit (rd 900 (ht 1) (ht 0 5)))]) (cs' := (W_Tape ht)) (q := (32, .null, 0, 0, 0)) lk_Tape_52 (t_Tape_isDigit (rd 900 (ht 1) (ht 0 5))) rfl rfl rfl rfl rfl rfl rfl rfl rfl rfl (sv_pt_nil _ _) ?_
      refine sv_Q.b rfl (fun c4 => ?_) (fun c4 => ?_)
      · refine sv_Q.f (lo' := [none]) trivial ?_
        exact sv_Q.z rfl
      · refine sv_Q.s (σ' := (56, [some (.ref 0)], [.int (ht 0 5), .ref 1, .int ((ht 0 4) * (10 : Int32)), .int (100000 : Int32), .ref 0], (W_Tape ht))) 10 rfl ?_
        refine sv_Q.S (ps := [1]) (rest := [.int ((ht 0 4) * (10 : Int32)), .int (100000 : Int32), .ref 0]) (st' := [.int (rd 900 (ht 1) (ht 0 5)), .int ((ht 0 4) * (10 : Int32)), .int (100000 : Int32), .ref 0]) (cs' := (W_Tape ht)) (q := (56, .null, 0, 0, 0)) lk_Tape_38 (t_K_read 900 rfl (ht 1) (ht 0 5)) rfl rfl rfl rfl rfl rfl rfl (su_Tape_1 ht) rfl rfl (pu_Tape_1 ht) ?_
        refine sv_Q.s (σ' := (69, [some (.ref 0)], [], (W_Tape (ss ht 4 (if ((((ht 0 4) * (10 : Int32)) + (rd 900 (ht 1) (ht 0 5))) - (48 : Int32)) < (100000 : Int32) then ((((ht 0 4) * (10 : Int32)) + (rd 900 (ht 1) (ht 0 5))) - (48 : Int32)) else (100000 : Int32)))))) 5 rfl ?_
        refine sv_Q.go (fun ht_5 => (69, [some (.ref 0)], [], (W_Tape ht_5))) (fun ht_5 => ?_)
        refine sv_Q.s (σ' := (79, [some (.ref 0)], [], (W_Tape (ss ht_5 5 ((ht_5 0 5) + (1 : Int32)))))) 6 rfl ?_
        refine sv_Q.go (fun ht_6 => (79, [some (.ref 0)], [], (W_Tape ht_6))) (fun ht_6 => ?_)
        refine sv_Q.s (σ' := (10, [some (.ref 0)], [], (W_Tape ht_6))) 1 rfl ?_
        exact ih  ht_6
def F_Tape_scanNumber (N : Nat) (ht : Nat → Nat → Int32) : Option ((Nat → Nat → Int32)) := (sv_let (ss ht 2 (2 : Int32)) fun (ht_1 : Nat → Nat → Int32) => (sv_let (ss ht_1 4 (0 : Int32)) fun (ht_2 : Nat → Nat → Int32) => (Option.bind (L_Tape_scanNumber_10 N N ht_2) fun (v7 : (Nat → Nat → Int32)) => (some v7))))
theorem r_Tape_scanNumber {X : Nat × (Nat → Int32)} (N : Nat) (ht : Nat → Nat → Int32) : ∀ x, (F_Tape_scanNumber N ht) = some x → sv_R X 2 M_Tape_scanNumber [.ref 0] (W_Tape ht) none (W_Tape x) := by
  refine sv_Q.R (res := (fun (x : (Nat → Nat → Int32)) => ((none : Option Value), (W_Tape x)))) g_Tape_scanNumber rfl ?_
  unfold F_Tape_scanNumber
  refine sv_Q.s (σ' := (5, [some (.ref 0)], [], (W_Tape (ss ht 2 (2 : Int32))))) 3 rfl ?_
  refine sv_Q.go (fun ht_1 => (5, [some (.ref 0)], [], (W_Tape ht_1))) (fun ht_1 => ?_)
  refine sv_Q.s (σ' := (10, [some (.ref 0)], [], (W_Tape (ss ht_1 4 (0 : Int32))))) 3 rfl ?_
  refine sv_Q.go (fun ht_2 => (10, [some (.ref 0)], [], (W_Tape ht_2))) (fun ht_2 => ?_)
  refine sv_Q.lo (fun v7 => (82, [none], [], (W_Tape v7))) (fun v7 => ?_) (l_Tape_scanNumber_10 N N ht_2)
  · exact sv_Q.z ⟨True, rfl, trivial, rfl⟩
def L_Tape_advance_8 (N : Nat) : Nat → (Nat → Nat → Int32) → Option ((Nat → Nat → Int32))
  | 0, _ => none
  | n + 1, ht => (if (ht 0 1) ≤ (ht 0 3) then (some ht) else (if (F_Tape_isBlank (rd 900 (ht 1) (ht 0 3))) = 0 then (some ht) else (sv_let (ss ht 3 ((ht 0 3) + (1 : Int32))) fun (ht_4 : Nat → Nat → Int32) => (L_Tape_advance_8 N n ht_4))))
theorem l_Tape_advance_8 {X : Nat × (Nat → Int32)} (N : Nat) : ∀ (n : Nat) (ht : Nat → Nat → Int32), sv_Q X 2 M_Tape_advance (8, [some (.ref 0)], [], (W_Tape ht)) (L_Tape_advance_8 N n ht) (fun v σ' => σ' = (49, [some (.ref 0)], [], (W_Tape v))) := by
  intro n
  induction n with
  | zero => intro ht; unfold L_Tape_advance_8; exact sv_Q.non
  | succ n ih =>
    intro ht
    unfold L_Tape_advance_8
    refine sv_Q.s (σ' := (16, [some (.ref 0)], [.int (ht 0 1), .int (ht 0 3)], (W_Tape ht))) 4 rfl ?_
    refine sv_Q.b rfl (fun c2 => ?_) (fun c2 => ?_)
    · exact sv_Q.z rfl
    · refine sv_Q.s (σ' := (27, [some (.ref 0)], [.int (ht 0 3), .ref 1], (W_Tape ht))) 4 rfl ?_
      refine sv_Q.S (ps := [1]) (rest := []) (st' := [.int (rd 900 (ht 1) (ht 0 3))]) (cs' := (W_Tape ht)) (q := (27, .null, 0, 0, 0)) lk_Tape_38 (t_K_read 900 rfl (ht 1) (ht 0 3)) rfl rfl rfl rfl rfl rfl rfl (su_Tape_1 ht) rfl rfl (pu_Tape_1 ht) ?_
      refine sv_Q.S (ps := []) (rest := []) (cs1 := []) (cs2 := []) (st' := [.int (F_Tape_isBlank (rd 900 (ht 1) (ht 0 3)))]) (cs' := (W_Tape ht)) (q := (30, .null, 0, 0, 0)) lk_Tape_42 (t_Tape_isBlank (rd 900 (ht 1) (ht 0 3))) rfl rfl rfl rfl rfl rfl rfl rfl rfl rfl (sv_pt_nil _ _) ?_
      refine sv_Q.b rfl (fun c3 => ?_) (fun c3 => ?_)
      · exact sv_Q.z rfl
      · refine sv_Q.s (σ' := (46, [some (.ref 0)], [], (W_Tape (ss ht 3 ((ht 0 3) + (1 : Int32)))))) 6 rfl ?_
        refine sv_Q.go (fun ht_4 => (46, [some (.ref 0)], [], (W_Tape ht_4))) (fun ht_4 => ?_)
        refine sv_Q.s (σ' := (8, [some (.ref 0)], [], (W_Tape ht_4))) 1 rfl ?_
        exact ih  ht_4
def F_Tape_advance (N : Nat) (ht : Nat → Nat → Int32) : Option ((Nat → Nat → Int32)) := (sv_let (ss ht 3 (ht 0 5)) fun (ht_1 : Nat → Nat → Int32) => (Option.bind (L_Tape_advance_8 N N ht_1) fun (v5 : (Nat → Nat → Int32)) => (sv_let (ss v5 5 (v5 0 3)) fun (ht_6 : Nat → Nat → Int32) => (if (ht_6 0 3) < (ht_6 0 1) then (if (F_Tape_isLetter (rd 900 (ht_6 1) (ht_6 0 3))) = 0 then (if (F_Tape_isDigit (rd 900 (ht_6 1) (ht_6 0 3))) = 0 then (sv_let (ss ht_6 2 (3 : Int32)) fun (ht_10 : Nat → Nat → Int32) => (sv_let (ss ht_10 5 ((ht_10 0 3) + (1 : Int32))) fun (ht_11 : Nat → Nat → Int32) => (some ht_11))) else (Option.bind (F_Tape_scanNumber N ht_6) fun (v12 : (Nat → Nat → Int32)) => (some v12))) else (Option.bind (F_Tape_scanWord N ht_6) fun (v14 : (Nat → Nat → Int32)) => (some v14))) else (sv_let (ss ht_6 2 (0 : Int32)) fun (ht_16 : Nat → Nat → Int32) => (some ht_16))))))
theorem r_Tape_advance {X : Nat × (Nat → Int32)} (N : Nat) (ht : Nat → Nat → Int32) : ∀ x, (F_Tape_advance N ht) = some x → sv_R X 3 M_Tape_advance [.ref 0] (W_Tape ht) none (W_Tape x) := by
  refine sv_Q.R (res := (fun (x : (Nat → Nat → Int32)) => ((none : Option Value), (W_Tape x)))) g_Tape_advance rfl ?_
  unfold F_Tape_advance
  refine sv_Q.s (σ' := (8, [some (.ref 0)], [], (W_Tape (ss ht 3 (ht 0 5))))) 4 rfl ?_
  refine sv_Q.go (fun ht_1 => (8, [some (.ref 0)], [], (W_Tape ht_1))) (fun ht_1 => ?_)
  refine sv_Q.lo (fun v5 => (49, [some (.ref 0)], [], (W_Tape v5))) (fun v5 => ?_) (l_Tape_advance_8 N N ht_1)
  · refine sv_Q.s (σ' := (57, [some (.ref 0)], [], (W_Tape (ss v5 5 (v5 0 3))))) 4 rfl ?_
    refine sv_Q.go (fun ht_6 => (57, [some (.ref 0)], [], (W_Tape ht_6))) (fun ht_6 => ?_)
    refine sv_Q.s (σ' := (65, [some (.ref 0)], [.int (ht_6 0 1), .int (ht_6 0 3)], (W_Tape ht_6))) 4 rfl ?_
    refine sv_Q.b rfl (fun c7 => ?_) (fun c7 => ?_)
    · refine sv_Q.s (σ' := (84, [some (.ref 0)], [.int (ht_6 0 3), .ref 1], (W_Tape ht_6))) 4 rfl ?_
      refine sv_Q.S (ps := [1]) (rest := []) (st' := [.int (rd 900 (ht_6 1) (ht_6 0 3))]) (cs' := (W_Tape ht_6)) (q := (84, .null, 0, 0, 0)) lk_Tape_38 (t_K_read 900 rfl (ht_6 1) (ht_6 0 3)) rfl rfl rfl rfl rfl rfl rfl (su_Tape_1 ht_6) rfl rfl (pu_Tape_1 ht_6) ?_
      refine sv_Q.S (ps := []) (rest := []) (cs1 := []) (cs2 := []) (st' := [.int (F_Tape_isLetter (rd 900 (ht_6 1) (ht_6 0 3)))]) (cs' := (W_Tape ht_6)) (q := (87, .null, 0, 0, 0)) lk_Tape_46 (t_Tape_isLetter (rd 900 (ht_6 1) (ht_6 0 3))) rfl rfl rfl rfl rfl rfl rfl rfl rfl rfl (sv_pt_nil _ _) ?_
      refine sv_Q.b rfl (fun c8 => ?_) (fun c8 => ?_)
      · refine sv_Q.s (σ' := (108, [some (.ref 0)], [.int (ht_6 0 3), .ref 1], (W_Tape ht_6))) 4 rfl ?_
        refine sv_Q.S (ps := [1]) (rest := []) (st' := [.int (rd 900 (ht_6 1) (ht_6 0 3))]) (cs' := (W_Tape ht_6)) (q := (108, .null, 0, 0, 0)) lk_Tape_38 (t_K_read 900 rfl (ht_6 1) (ht_6 0 3)) rfl rfl rfl rfl rfl rfl rfl (su_Tape_1 ht_6) rfl rfl (pu_Tape_1 ht_6) ?_
        refine sv_Q.S (ps := []) (rest := []) (cs1 := []) (cs2 := []) (st' := [.int (F_Tape_isDigit (rd 900 (ht_6 1) (ht_6 0 3)))]) (cs' := (W_Tape ht_6)) (q := (111, .null, 0, 0, 0)) lk_Tape_52 (t_Tape_isDigit (rd 900 (ht_6 1) (ht_6 0 3))) rfl rfl rfl rfl rfl rfl rfl rfl rfl rfl (sv_pt_nil _ _) ?_
        refine sv_Q.b rfl (fun c9 => ?_) (fun c9 => ?_)
        · refine sv_Q.s (σ' := (129, [some (.ref 0)], [], (W_Tape (ss ht_6 2 (3 : Int32))))) 3 rfl ?_
          refine sv_Q.go (fun ht_10 => (129, [some (.ref 0)], [], (W_Tape ht_10))) (fun ht_10 => ?_)
          refine sv_Q.s (σ' := (139, [some (.ref 0)], [], (W_Tape (ss ht_10 5 ((ht_10 0 3) + (1 : Int32)))))) 6 rfl ?_
          refine sv_Q.go (fun ht_11 => (139, [some (.ref 0)], [], (W_Tape ht_11))) (fun ht_11 => ?_)
          exact sv_Q.z ⟨True, rfl, trivial, rfl⟩
        · refine sv_Q.s (σ' := (118, [some (.ref 0)], [.ref 0], (W_Tape ht_6))) 1 rfl ?_
          refine sv_Q.o (fun v12 e13 => ?_)
          refine sv_Q.V (b := 0) (av := []) (ps := [0, 1]) (rest := []) (cs1 := (W_Tape ht_6)) (cs2 := (W_Tape v12)) (st' := []) (cs' := (W_Tape v12)) (q := (118, .null, 0, 0, 0)) lk_Tape_55 (r_Tape_scanNumber N ht_6 v12 e13) rfl rfl rfl rfl rfl (Or.inl ⟨9, _, _, rfl, rfl, rfl⟩) rfl rfl (sc_Tape_Tape_0 ht_6) rfl rfl (pc_Tape_Tape_0 ht_6 v12) ?_
          refine sv_Q.s (σ' := (139, [some (.ref 0)], [], (W_Tape v12))) 1 rfl ?_
          exact sv_Q.z ⟨True, rfl, trivial, rfl⟩
      · refine sv_Q.s (σ' := (94, [some (.ref 0)], [.ref 0], (W_Tape ht_6))) 1 rfl ?_
        refine sv_Q.o (fun v14 e15 => ?_)
        refine sv_Q.V (b := 0) (av := []) (ps := [0, 1]) (rest := []) (cs1 := (W_Tape ht_6)) (cs2 := (W_Tape v14)) (st' := []) (cs' := (W_Tape v14)) (q := (94, .null, 0, 0, 0)) lk_Tape_49 (r_Tape_scanWord N ht_6 v14 e15) rfl rfl rfl rfl rfl (Or.inl ⟨9, _, _, rfl, rfl, rfl⟩) rfl rfl (sc_Tape_Tape_0 ht_6) rfl rfl (pc_Tape_Tape_0 ht_6 v14) ?_
        refine sv_Q.s (σ' := (139, [some (.ref 0)], [], (W_Tape v14))) 1 rfl ?_
        exact sv_Q.z ⟨True, rfl, trivial, rfl⟩
    · refine sv_Q.s (σ' := (73, [some (.ref 0)], [], (W_Tape (ss ht_6 2 (0 : Int32))))) 3 rfl ?_
      refine sv_Q.go (fun ht_16 => (73, [some (.ref 0)], [], (W_Tape ht_16))) (fun ht_16 => ?_)
      refine sv_Q.s (σ' := (139, [some (.ref 0)], [], (W_Tape ht_16))) 1 rfl ?_
      exact sv_Q.z ⟨True, rfl, trivial, rfl⟩
def F_Tape_rewind (N : Nat) (ht : Nat → Nat → Int32) : Option ((Nat → Nat → Int32)) := (sv_let (ss ht 5 (0 : Int32)) fun (ht_1 : Nat → Nat → Int32) => (Option.bind (F_Tape_advance N ht_1) fun (v2 : (Nat → Nat → Int32)) => (some v2)))
theorem r_Tape_rewind {X : Nat × (Nat → Int32)} (N : Nat) (ht : Nat → Nat → Int32) : ∀ x, (F_Tape_rewind N ht) = some x → sv_R X 4 M_Tape_rewind [.ref 0] (W_Tape ht) none (W_Tape x) := by
  refine sv_Q.R (res := (fun (x : (Nat → Nat → Int32)) => ((none : Option Value), (W_Tape x)))) g_Tape_rewind rfl ?_
  unfold F_Tape_rewind
  refine sv_Q.s (σ' := (5, [some (.ref 0)], [], (W_Tape (ss ht 5 (0 : Int32))))) 3 rfl ?_
  refine sv_Q.go (fun ht_1 => (5, [some (.ref 0)], [], (W_Tape ht_1))) (fun ht_1 => ?_)
  refine sv_Q.s (σ' := (6, [some (.ref 0)], [.ref 0], (W_Tape ht_1))) 1 rfl ?_
  refine sv_Q.o (fun v2 e3 => ?_)
  refine sv_Q.V (b := 0) (av := []) (ps := [0, 1]) (rest := []) (cs1 := (W_Tape ht_1)) (cs2 := (W_Tape v2)) (st' := []) (cs' := (W_Tape v2)) (q := (6, .null, 0, 0, 0)) lk_Tape_35 (r_Tape_advance N ht_1 v2 e3) rfl rfl rfl rfl rfl (Or.inl ⟨9, _, _, rfl, rfl, rfl⟩) rfl rfl (sc_Tape_Tape_0 ht_1) rfl rfl (pc_Tape_Tape_0 ht_1 v2) ?_
  exact sv_Q.z ⟨True, rfl, trivial, rfl⟩
def L_Tape_matches_20 (N : Nat) : Nat → Nat → Int32 → (Nat → Nat → Int32) → Option ((Unit) ⊕ (Int32))
  | 0, _, _, _ => none
  | n + 1, x1, x2, ht => (if x1 < 19 then (if (nI (sv_len x1)) ≤ x2 then (some (.inl ())) else (if x1 < 19 ∧ sv_in x2 (sv_len x1) then (if (rd 900 (ht 1) ((ht 0 3) + x2)) = (sv_chr x1 (x2).toNatClampNeg) then (L_Tape_matches_20 N n x1 (x2 + (1 : Int32)) ht) else (some (.inr (0 : Int32)))) else none)) else none)
theorem l_Tape_matches_20 {X : Nat × (Nat → Int32)} (N : Nat) : ∀ (n : Nat) (x1 : Nat) (x2 : Int32) (ht : Nat → Nat → Int32), sv_Q X 6 M_Tape_matches (20, [some (.ref 0), some (.ref (x1 + 1000)), some (.int x2)], [], (W_Tape ht)) (L_Tape_matches_20 N n x1 x2 ht) (sv_K2 (fun (v : Unit) => (57, [none, none, none], [], (W_Tape ht))) (sv_KR M_Tape_matches (fun (x : Int32) => (some (.int x), (W_Tape ht))))) := by
  intro n
  induction n with
  | zero => intro x1 x2 ht; unfold L_Tape_matches_20; exact sv_Q.non
  | succ n ih =>
    intro x1 x2 ht
    unfold L_Tape_matches_20
    refine sv_Q.s (σ' := (22, [some (.ref 0), some (.ref (x1 + 1000)), some (.int x2)], [.ref (x1 + 1000), .int x2], (W_Tape ht))) 2 rfl ?_
    refine sv_Q.ite (fun c3 => ?_) (fun c3 => sv_Q.non)
    refine sv_Q.V (b := x1 + 1000) (av := []) (ps := []) (rest := [.int x2]) (cs1 := []) (cs2 := []) (st' := [.int (nI (sv_len x1)), .int x2]) (cs' := (W_Tape ht)) (q := (22, .null, 0, 0, 0)) lk_Tape_69 (t_J_length x1 c3) rfl rfl rfl rfl rfl (Or.inr ⟨x1, c3, Nat.add_comm _ _, rfl⟩) rfl rfl rfl rfl rfl (sv_pt_nil _ _) ?_
    refine sv_Q.b rfl (fun c4 => ?_) (fun c4 => ?_)
    · refine sv_Q.f (lo' := [none, none, none]) trivial ?_
      exact sv_Q.z rfl
    · refine sv_Q.s (σ' := (38, [some (.ref 0), some (.ref (x1 + 1000)), some (.int x2)], [.int ((ht 0 3) + x2), .ref 1], (W_Tape ht))) 6 rfl ?_
      refine sv_Q.S (ps := [1]) (rest := []) (st' := [.int (rd 900 (ht 1) ((ht 0 3) + x2))]) (cs' := (W_Tape ht)) (q := (38, .null, 0, 0, 0)) lk_Tape_38 (t_K_read 900 rfl (ht 1) ((ht 0 3) + x2)) rfl rfl rfl rfl rfl rfl rfl (su_Tape_1 ht) rfl rfl (pu_Tape_1 ht) ?_
      refine sv_Q.s (σ' := (43, [some (.ref 0), some (.ref (x1 + 1000)), some (.int x2)], [.int x2, .ref (x1 + 1000), .int (rd 900 (ht 1) ((ht 0 3) + x2))], (W_Tape ht))) 2 rfl ?_
      refine sv_Q.ite (fun c5 => ?_) (fun c5 => sv_Q.non)
      refine sv_Q.V (b := x1 + 1000) (av := [.int x2]) (ps := []) (rest := [.int (rd 900 (ht 1) ((ht 0 3) + x2))]) (cs1 := []) (cs2 := []) (st' := [.int (sv_chr x1 (x2).toNatClampNeg), .int (rd 900 (ht 1) ((ht 0 3) + x2))]) (cs' := (W_Tape ht)) (q := (43, .null, 0, 0, 0)) lk_Tape_75 (t_J_charAt x1 x2 c5.1 c5.2) rfl rfl rfl rfl rfl (Or.inr ⟨x1, c5.1, Nat.add_comm _ _, rfl⟩) rfl rfl rfl rfl rfl (sv_pt_nil _ _) ?_
      refine sv_Q.b rfl (fun c6 => ?_) (fun c6 => ?_)
      · refine sv_Q.s (σ' := (20, [some (.ref 0), some (.ref (x1 + 1000)), some (.int (x2 + (1 : Int32)))], [], (W_Tape ht))) 2 rfl ?_
        exact ih x1 (x2 + (1 : Int32)) ht
      · refine sv_Q.s (σ' := (50, [some (.ref 0), some (.ref (x1 + 1000)), some (.int x2)], [.int (0 : Int32)], (W_Tape ht))) 1 rfl ?_
        exact sv_Q.z ⟨sv_01 (0 : Int32), rfl, Or.inl rfl, rfl⟩
def F_Tape_matches (N : Nat) (a0 : Nat) (ht : Nat → Nat → Int32) : Option (Int32) := (if a0 < 19 then (if ((ht 0 5) - (ht 0 3)) = (nI (sv_len a0)) then (sv_bs (L_Tape_matches_20 N N a0 (0 : Int32) ht) id fun (v7 : Unit) => (some (1 : Int32))) else (some (0 : Int32))) else none)
theorem r_Tape_matches {X : Nat × (Nat → Int32)} (N : Nat) (ht : Nat → Nat → Int32) (a0 : Nat) : ∀ x, (F_Tape_matches N a0 ht) = some x → sv_R X 7 M_Tape_matches [.ref 0, .ref (a0 + 1000)] (W_Tape ht) (some (.int x)) (W_Tape ht) := by
  refine sv_Q.R (res := (fun (x : Int32) => (some (.int x), (W_Tape ht)))) g_Tape_matches rfl ?_
  unfold F_Tape_matches
  refine sv_Q.s (σ' := (10, [some (.ref 0), some (.ref (a0 + 1000)), none], [.ref (a0 + 1000), .int ((ht 0 5) - (ht 0 3))], (W_Tape ht))) 6 rfl ?_
  refine sv_Q.ite (fun c1 => ?_) (fun c1 => sv_Q.non)
  refine sv_Q.V (b := a0 + 1000) (av := []) (ps := []) (rest := [.int ((ht 0 5) - (ht 0 3))]) (cs1 := []) (cs2 := []) (st' := [.int (nI (sv_len a0)), .int ((ht 0 5) - (ht 0 3))]) (cs' := (W_Tape ht)) (q := (10, .null, 0, 0, 0)) lk_Tape_69 (t_J_length a0 c1) rfl rfl rfl rfl rfl (Or.inr ⟨a0, c1, Nat.add_comm _ _, rfl⟩) rfl rfl rfl rfl rfl (sv_pt_nil _ _) ?_
  refine sv_Q.b rfl (fun c2 => ?_) (fun c2 => ?_)
  · refine sv_Q.s (σ' := (20, [some (.ref 0), some (.ref (a0 + 1000)), some (.int (0 : Int32))], [], (W_Tape ht))) 2 rfl ?_
    refine sv_Q.bs (l_Tape_matches_20 N N a0 (0 : Int32) ht) (fun v7 => ?_) (fun r σ' h => h)
    · refine sv_Q.s (σ' := (58, [none, none, none], [.int (1 : Int32)], (W_Tape ht))) 1 rfl ?_
      exact sv_Q.z ⟨sv_01 (1 : Int32), rfl, Or.inr rfl, rfl⟩
  · refine sv_Q.s (σ' := (17, [some (.ref 0), some (.ref (a0 + 1000)), none], [.int (0 : Int32)], (W_Tape ht))) 1 rfl ?_
    exact sv_Q.z ⟨sv_01 (0 : Int32), rfl, Or.inl rfl, rfl⟩
def F_Tape_isWord (N : Nat) (a0 : Nat) (ht : Nat → Nat → Int32) : Option (Int32) := (if ¬ (ht 0 2) = (1 : Int32) then (some (0 : Int32)) else (Option.bind (F_Tape_matches N a0 ht) fun (v2 : Int32) => (if v2 = 0 then (some (0 : Int32)) else (some (1 : Int32)))))
theorem r_Tape_isWord {X : Nat × (Nat → Int32)} (N : Nat) (ht : Nat → Nat → Int32) (a0 : Nat) : ∀ x, (F_Tape_isWord N a0 ht) = some x → sv_R X 8 M_Tape_isWord [.ref 0, .ref (a0 + 1000)] (W_Tape ht) (some (.int x)) (W_Tape ht) := by
  refine sv_Q.R (res := (fun (x : Int32) => (some (.int x), (W_Tape ht)))) g_Tape_isWord rfl ?_
  unfold F_Tape_isWord
  refine sv_Q.s (σ' := (5, [some (.ref 0), some (.ref (a0 + 1000))], [.int (1 : Int32), .int (ht 0 2)], (W_Tape ht))) 3 rfl ?_
  refine sv_Q.b rfl (fun c1 => ?_) (fun c1 => ?_)
  · refine sv_Q.s (σ' := (21, [some (.ref 0), some (.ref (a0 + 1000))], [.int (0 : Int32)], (W_Tape ht))) 1 rfl ?_
    exact sv_Q.z ⟨sv_01 (0 : Int32), rfl, Or.inl rfl, rfl⟩
  · refine sv_Q.s (σ' := (10, [some (.ref 0), some (.ref (a0 + 1000))], [.ref (a0 + 1000), .ref 0], (W_Tape ht))) 2 rfl ?_
    refine sv_Q.o (fun v2 e3 => ?_)
    refine sv_Q.V (b := 0) (av := [.ref (a0 + 1000)]) (ps := [0, 1]) (rest := []) (cs1 := (W_Tape ht)) (cs2 := (W_Tape ht)) (st' := [.int v2]) (cs' := (W_Tape ht)) (q := (10, .null, 0, 0, 0)) lk_Tape_65 (r_Tape_matches N ht a0 v2 e3) rfl rfl rfl rfl rfl (Or.inl ⟨9, _, _, rfl, rfl, rfl⟩) rfl rfl (sc_Tape_Tape_0 ht) rfl rfl (pc_Tape_Tape_0 ht ht) ?_
    refine sv_Q.b rfl (fun c4 => ?_) (fun c4 => ?_)
    · refine sv_Q.s (σ' := (21, [some (.ref 0), some (.ref (a0 + 1000))], [.int (0 : Int32)], (W_Tape ht))) 1 rfl ?_
      exact sv_Q.z ⟨sv_01 (0 : Int32), rfl, Or.inl rfl, rfl⟩
    · refine sv_Q.s (σ' := (21, [some (.ref 0), some (.ref (a0 + 1000))], [.int (1 : Int32)], (W_Tape ht))) 2 rfl ?_
      exact sv_Q.z ⟨sv_01 (1 : Int32), rfl, Or.inr rfl, rfl⟩
def F_Tape_isSign (N : Nat) (a0 : Nat) (ht : Nat → Nat → Int32) : Option (Int32) := (if ¬ (ht 0 2) = (3 : Int32) then (some (0 : Int32)) else (Option.bind (F_Tape_matches N a0 ht) fun (v2 : Int32) => (if v2 = 0 then (some (0 : Int32)) else (some (1 : Int32)))))
theorem r_Tape_isSign {X : Nat × (Nat → Int32)} (N : Nat) (ht : Nat → Nat → Int32) (a0 : Nat) : ∀ x, (F_Tape_isSign N a0 ht) = some x → sv_R X 8 M_Tape_isSign [.ref 0, .ref (a0 + 1000)] (W_Tape ht) (some (.int x)) (W_Tape ht) := by
  refine sv_Q.R (res := (fun (x : Int32) => (some (.int x), (W_Tape ht)))) g_Tape_isSign rfl ?_
  unfold F_Tape_isSign
  refine sv_Q.s (σ' := (5, [some (.ref 0), some (.ref (a0 + 1000))], [.int (3 : Int32), .int (ht 0 2)], (W_Tape ht))) 3 rfl ?_
  refine sv_Q.b rfl (fun c1 => ?_) (fun c1 => ?_)
  · refine sv_Q.s (σ' := (21, [some (.ref 0), some (.ref (a0 + 1000))], [.int (0 : Int32)], (W_Tape ht))) 1 rfl ?_
    exact sv_Q.z ⟨sv_01 (0 : Int32), rfl, Or.inl rfl, rfl⟩
  · refine sv_Q.s (σ' := (10, [some (.ref 0), some (.ref (a0 + 1000))], [.ref (a0 + 1000), .ref 0], (W_Tape ht))) 2 rfl ?_
    refine sv_Q.o (fun v2 e3 => ?_)
    refine sv_Q.V (b := 0) (av := [.ref (a0 + 1000)]) (ps := [0, 1]) (rest := []) (cs1 := (W_Tape ht)) (cs2 := (W_Tape ht)) (st' := [.int v2]) (cs' := (W_Tape ht)) (q := (10, .null, 0, 0, 0)) lk_Tape_65 (r_Tape_matches N ht a0 v2 e3) rfl rfl rfl rfl rfl (Or.inl ⟨9, _, _, rfl, rfl, rfl⟩) rfl rfl (sc_Tape_Tape_0 ht) rfl rfl (pc_Tape_Tape_0 ht ht) ?_
    refine sv_Q.b rfl (fun c4 => ?_) (fun c4 => ?_)
    · refine sv_Q.s (σ' := (21, [some (.ref 0), some (.ref (a0 + 1000))], [.int (0 : Int32)], (W_Tape ht))) 1 rfl ?_
      exact sv_Q.z ⟨sv_01 (0 : Int32), rfl, Or.inl rfl, rfl⟩
    · refine sv_Q.s (σ' := (21, [some (.ref 0), some (.ref (a0 + 1000))], [.int (1 : Int32)], (W_Tape ht))) 2 rfl ?_
      exact sv_Q.z ⟨sv_01 (1 : Int32), rfl, Or.inr rfl, rfl⟩
