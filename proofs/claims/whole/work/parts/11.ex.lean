/-! ===== runs of the small machine ===== -/
abbrev sv_K : Type := sv_M → List Value → List sv_C → Option Value → List sv_C → Prop
/-- from a state, in at most so many steps, method M comes to its end with answer and cells r -/
def sv_Ex (X : Nat × (Nat → Int32)) (nw : List Jvm.Cond) (C : sv_K) (M : sv_M) (r : Option Value × List sv_C) : Nat → sv_S → Prop
  | 0, _ => False
  | n + 1, σ =>
    (∃ σ', sv_stp X M.2.2.2.2 σ = some σ' ∧ sv_Ex X nw C M r n σ') ∨
    (∃ lo', sv_le lo' σ.2.1 ∧ sv_Ex X nw C M r n (σ.1, lo', σ.2.2)) ∨
    (∃ P σ1 σ2, sv_br M.2.2.2.2 σ = some (P, σ1, σ2) ∧ (P → sv_Ex X nw C M r n σ1) ∧ (¬ P → sv_Ex X nw C M r n σ2)) ∨
    (∃ P σ', sv_gst X M.2.2.2.2 σ = some (P, σ') ∧ P ∧ sv_Ex X nw C M r n σ') ∨
    (∃ k P σ', sv_sw M.2.2.2.2 σ k = some (P, σ') ∧ P ∧ sv_Ex X nw C M r n σ') ∨
    (∃ P v, sv_rt M.2.2.2.2 M.2.2.2.1 σ = some (P, v) ∧ P ∧ r = (v, σ.2.2.2)) ∨
    (∃ (M' : sv_M) (i k b : Nat) (av rest : List Value) (ps : List Nat) (cs1 cs2 : List sv_C) (rv : Option Value), (∃ q : Nat × Value × Nat × Nat × Nat, sv_at M.2.2.2.2 σ.1 = some (q.1, .invokevirtual i, q.2)) ∧ sv_lnkV nw M.1.cls i M' k ∧ av.length = k ∧ σ.2.2.1 = ((Value.ref b :: av).map (sv_v (sv_pi ps))).reverse ++ rest ∧ sv_cat rest ≤ 8 ∧ sv_rcv σ.2.2.2 M'.1 (sv_pi ps b) ∧ va_nd ps = true ∧ ps.length ≤ 900 ∧ sv_sub ps σ.2.2.2 cs1 ∧ cs2.length = cs1.length ∧ C M' (.ref b :: av) cs1 rv cs2 ∧
      sv_Ex X nw C M r n (σ.1 + 3, σ.2.1, (rv.map (sv_v (sv_pi ps))).toList ++ rest, sv_pt ps (cs2.map (sv_r (sv_pi ps))) 0 σ.2.2.2)) ∨
    (∃ (M' : sv_M) (i k : Nat) (av rest : List Value) (ps : List Nat) (cs1 cs2 : List sv_C) (rv : Option Value), (∃ q : Nat × Value × Nat × Nat × Nat, sv_at M.2.2.2.2 σ.1 = some (q.1, .invokestatic i, q.2)) ∧ sv_lnkS nw M.1.cls i M' k ∧ av.length = k ∧ σ.2.2.1 = (av.map (sv_v (sv_pi ps))).reverse ++ rest ∧ sv_cat rest ≤ 8 ∧ va_nd ps = true ∧ ps.length ≤ 900 ∧ sv_sub ps σ.2.2.2 cs1 ∧ cs2.length = cs1.length ∧ C M' av cs1 rv cs2 ∧
      sv_Ex X nw C M r n (σ.1 + 3, σ.2.1, (rv.map (sv_v (sv_pi ps))).toList ++ rest, sv_pt ps (cs2.map (sv_r (sv_pi ps))) 0 σ.2.2.2))
section SVEx
variable {p : Program} {l : Launch} {e : Env} {R : Room} {s : State} {m : MethodId} {args : Array Value} {below : List Frame} {meth : Method} {c : Code} {cells slots : Nat} {Q : State → Prop}
variable {D : va_G} {cA : Nat → ClassId} {ρ : Nat → Nat} {A : Nat → Prop}
theorem sv_sound {X : Nat × (Nat → Int32)} {nw : List Jvm.Cond} (hn : ∀ w ∈ nw, sv_isN w) {C : sv_K} {d : Nat} (hC : ∀ M av cs v cs', C M av cs v cs' → sv_Met X nw l d M av cs v cs') {M : sv_M} (hB : sv_B X nw p R s m args c cells slots D cA ρ A M) (hfr : d + 2 ≤ R.frames) (hlo : 100 * (d + 2) ≤ R.locals) {r : Option Value × List sv_C}
    (hend : ∀ (σ : sv_S) (P : Prop) (v : Option Value), sv_rt M.2.2.2.2 M.2.2.2.1 σ = some (P, v) → P → r = (v, σ.2.2.2) → sv_J p l e R s m args below meth c cells slots Q D cA ρ A M.2.2.1 σ) :
    ∀ (n : Nat) (σ : sv_S), sv_Ex X nw C M r n σ → sv_J p l e R s m args below meth c cells slots Q D cA ρ A M.2.2.1 σ := by
  intro n
  induction n with
  | zero => intro σ h; exact absurd h (by simp [sv_Ex])
  | succ n ih =>
    intro σ h
    unfold sv_Ex at h
    rcases h with ⟨σ', h1, h2⟩ | ⟨lo', h1, h2⟩ | ⟨P, σ1, σ2, h1, h2, h3⟩ | ⟨P, σ', h1, h2, h3⟩ | ⟨k, P, σ', h1, h2, h3⟩ | ⟨P, v, h1, h2, h3⟩ | ⟨M', i, k, b, av, rest, ps, cs1, cs2, rv, ⟨q, h1⟩, h2, h3, h4, h5, h6, h7, h8, h9, h10, h11, h12⟩ | ⟨M', i, k, av, rest, ps, cs1, cs2, rv, ⟨q, h1⟩, h2, h3, h4, h5, h7, h8, h9, h10, h11, h12⟩
    · exact sv_stp_ok hB h1 (ih σ' h2)
    · have hj := ih _ h2
      exact fun H locs ls hP hD hS hl => hj H locs ls hP hD hS (hl.le h1)
    · exact sv_br_ok hB h1 (fun z => ih σ1 (h2 z)) (fun z => ih σ2 (h3 z))
    · exact sv_gst_ok hB h1 h2 (ih σ' h3)
    · exact sv_sw_ok hB h1 h2 (ih σ' h3)
    · exact hend σ P v h1 h2 h3
    · obtain ⟨pc, lo, st, cs⟩ := σ
      dsimp only at h1 h4 h6 h9 h12
      obtain ⟨-, hd, -⟩ := sv_row hB.2.2.1 h1
      rw [h4]
      exact sv_callV_ok hn hB hfr hlo (hC _ _ _ _ _ h11) h2 hd h3 h5 h6 h7 h8 h9 h10 (ih _ h12)
    · obtain ⟨pc, lo, st, cs⟩ := σ
      dsimp only at h1 h4 h9 h12
      obtain ⟨-, hd, -⟩ := sv_row hB.2.2.1 h1
      rw [h4]
      exact sv_callS_ok hn hB hfr hlo (hC _ _ _ _ _ h11) h2 hd h3 h5 h7 h8 h9 h10 (ih _ h12)
end SVEx
/-- the locals at a method's start -/
def sv_lo : Nat → List Value → List (Option Value)
  | 0, _ => []
  | n + 1, [] => none :: sv_lo n []
  | 1, v :: _ => [some v]
  | n + 2, v :: r => bif Nat.beq v.category 2 then some v :: none :: sv_lo n r else some v :: sv_lo (n + 1) r
theorem sv_lo_nil : ∀ (n i : Nat) (v : Value), ¬ sv_n (sv_lo n []) i = some (some v)
  | 0, i, v => by simp [sv_lo, sv_n]
  | n + 1, 0, v => by simp [sv_lo, sv_n]
  | n + 1, i + 1, v => by
    simp only [sv_lo, sv_n]
    exact sv_lo_nil n i v
theorem sv_lo_in : ∀ (n : Nat) (vs : List Value) (i o : Nat) (v : Value), sv_n (sv_lo n vs) i = some (some v) → (o + i, v) ∈ lv_args o vs
  | 0, vs, i, o, v, h => by simp [sv_lo, sv_n] at h
  | n + 1, [], i, o, v, h => absurd h (sv_lo_nil (n + 1) i v)
  | 1, w :: r, i, o, v, h => by
    cases i with
    | zero =>
      simp only [sv_lo, sv_n, Option.some.injEq] at h
      subst h
      simp [lv_args]
    | succ i => simp [sv_lo, sv_n] at h
  | n + 2, w :: r, i, o, v, h => by
    unfold sv_lo at h
    unfold lv_args
    cases hc : Nat.beq w.category 2 with
    | true =>
      rw [hc] at h
      dsimp only [cond] at h
      have hw := sv_beq hc
      rw [if_pos hw]
      match i, h with
      | 0, h =>
        simp only [sv_n, Option.some.injEq] at h
        subst h
        simp
      | 1, h => simp [sv_n] at h
      | i + 2, h =>
        simp only [sv_n] at h
        have := sv_lo_in n r i (o + 2) v h
        rw [show o + (i + 2) = o + 2 + i by omega]
        exact List.mem_cons_of_mem _ this
    | false =>
      rw [hc] at h
      dsimp only [cond] at h
      have hw : ¬ w.category = 2 := fun z => by rw [z] at hc; exact absurd hc (by decide)
      rw [if_neg hw]
      match i, h with
      | 0, h =>
        simp only [sv_n, Option.some.injEq] at h
        subst h
        simp
      | i + 1, h =>
        simp only [sv_n] at h
        have := sv_lo_in (n + 1) r i (o + 1) v h
        rw [show o + (i + 1) = o + 1 + i by omega]
        exact List.mem_cons_of_mem _ this
theorem sv_args_v (ρ : Nat → Nat) : ∀ (vs : List Value) (o : Nat), lv_args o (vs.map (sv_v ρ)) = (lv_args o vs).map (fun q => (q.1, sv_v ρ q.2))
  | [], o => rfl
  | v :: r, o => by simp [lv_args, sv_v_cat, sv_args_v ρ r]
/-- what a method answers: by depth -/
def sv_Ret (X : Nat × (Nat → Int32)) (nw : List Jvm.Cond) (C0 : sv_K) : Nat → sv_K
  | 0 => fun _ _ _ _ _ => False
  | d + 1 => fun M av cs v cs' => (5 ≤ d ∧ C0 M av cs v cs') ∨ (sv_good M ∧ (lg_sl av).length ≤ M.2.2.1 ∧ ∃ n, sv_Ex X nw (sv_Ret X nw C0 d) M (v, cs') n (0, sv_lo M.2.2.1 av, [], cs))
theorem sv_lgl (ρ : Nat → Nat) (vs : List Value) : (lg_sl (vs.map (sv_v ρ))).length = (lg_sl vs).length := by
  induction vs with
  | nil => rfl
  | cons v r ih =>
    have e : ∀ (w : Value) (t : List Value), (lg_sl (w :: t)).length = (if w.category = 2 then 2 else 1) + (lg_sl t).length := by
      intro w t
      simp only [lg_sl, List.flatMap_cons, List.length_append]
      split <;> simp
    rw [List.map_cons, e, e, sv_v_cat, ih]
theorem sv_met_of {X : Nat × (Nat → Int32)} {nw : List Jvm.Cond} (hn : ∀ w ∈ nw, sv_isN w) {l : Launch} {C : sv_K} {d : Nat} (hC : ∀ M av cs v cs', C M av cs v cs' → sv_Met X nw l d M av cs v cs') {M : sv_M} {av : List Value} {cs cs' : List sv_C} {v : Option Value} (hg : sv_good M) (hlen : (lg_sl av).length ≤ M.2.2.1) {n : Nat} (h : sv_Ex X nw C M (v, cs') n (0, sv_lo M.2.2.1 av, [], cs)) : sv_Met X nw l (d + 1) M av cs v cs' := by
  intro D cA ρ sz
  refine Met.ofW (cc := M.2.1) (maxL := M.2.2.1) (ret := M.2.2.2.1) hg.1 rfl ?_
  intro p e s m args below meth c s₁ B hml hv
  obtain ⟨rfl, hsz, hP, hK, hD0, hE⟩ := hv
  have hts := atoms_spec (ws := sv_ws M) B.pre
  have hlocks := B.notSynchronized
  have hr := B.returns
  subst hsz
  have hD := hD0.self (sz := s.heap.size)
  have hB : sv_B X nw p (sv_room (d + 1)) s m (av.map (sv_v ρ)).toArray c 0 0 D cA ρ (va_A (sv_w ρ cA cs) s.heap.size) M :=
    ⟨⟨B.exec, B.bytes, hml, findClass_of_methodNamed B.named, fun w hw => hts w (List.mem_cons_of_mem _ hw)⟩, ⟨hK, hE, fun q h => Or.inr h⟩, hg, by show 1 ≤ d + 1 + 1; omega, by show 100 ≤ 100 * (d + 1 + 1); omega, Nat.zero_le _, Nat.zero_le _⟩
  rw [lg_entry_eq]
  have hl := lv_entry (av.map (sv_v ρ)) (n := M.2.2.1) (by rw [sv_lgl]; exact hlen)
  refine sv_sound (C := C) hn hC hB (by show d + 2 ≤ d + 1 + 1; omega) (by show 100 * (d + 2) ≤ 100 * (d + 1 + 1); omega) (r := (v, cs')) ?_ n _ h s.heap [] _ hP hD va_S.rf ⟨_, hl, fun i w hi => ?_⟩
  · intro σ P w h1 h2 h3 H locs ls hP hD hS hl
    obtain ⟨pc, lo, st, cs1⟩ := σ
    cases h3
    unfold sv_rt at h1
    dsimp only at h1
    cases hat : sv_at M.2.2.2.2 pc with
    | none => rw [hat] at h1; cases h1
    | some i =>
      obtain ⟨pc0, ins, v0, a, b, j⟩ := i
      obtain ⟨-, hd, -⟩ := sv_row hg hat
      rw [hat] at h1
      dsimp only at h1 hd hP hD ⊢
      split at h1
      · rename_i hret
        cases h1
        rw [hret] at hr
        exact W.iret B.exec B.bytes hr (fun t ht hW => ⟨⟨rfl, by rw [ht]; exact hP⟩, hS.F ht⟩) hS.2.2 hd
      · rename_i hret
        cases h1
        rw [hret] at hr
        exact W.zret B.exec B.bytes hr (sv_01_n h2) (fun t ht hW => ⟨⟨rfl, by rw [ht]; exact hP⟩, hS.F ht⟩) hS.2.2 hd
      · rename_i hret
        cases h1
        rw [hret] at hr
        exact W.lret B.exec B.bytes hr (fun t ht hW => ⟨⟨rfl, by rw [ht]; exact hP⟩, hS.F ht⟩) hS.2.2 hd
      · rename_i hret
        cases h1
        rw [hret] at hr
        exact W.aret B.exec B.bytes hr (Or.inl ⟨_, rfl⟩) (Or.inr ⟨_, rfl⟩) (fun t ht hW => ⟨⟨rfl, by rw [ht]; exact hP⟩, hS.F ht⟩) hS.2.2 hd
      · rename_i hret
        cases h1
        rw [hret] at hr
        exact W.vret B.exec B.bytes hr (fun t ht hW => ⟨⟨rfl, by rw [ht]; exact hP⟩, hS.F ht⟩) hS.2.2 hd
      · cases h1
  · rw [sv_args_v]
    have := sv_lo_in M.2.2.1 av i 0 w hi
    rw [Nat.zero_add] at this
    exact List.mem_map.mpr ⟨(i, w), this, rfl⟩
/-- the small machine's answers are the machine's -/
theorem sv_Ret_met {X : Nat × (Nat → Int32)} {nw : List Jvm.Cond} (hn : ∀ w ∈ nw, sv_isN w) {l : Launch} {C0 : sv_K} (h0 : ∀ d M av cs v cs', 5 ≤ d → C0 M av cs v cs' → sv_Met X nw l (d + 1) M av cs v cs') : ∀ (d : Nat) (M : sv_M) (av : List Value) (cs : List sv_C) (v : Option Value) (cs' : List sv_C), sv_Ret X nw C0 d M av cs v cs' → sv_Met X nw l d M av cs v cs' := by
  intro d
  induction d with
  | zero => intro M av cs v cs' h; exact absurd h (by simp [sv_Ret])
  | succ d ih =>
    intro M av cs v cs' h
    unfold sv_Ret at h
    rcases h with ⟨h1, h2⟩ | ⟨h1, h2, n, h3⟩
    · exact h0 d M av cs v cs' h1 h2
    · exact sv_met_of hn ih h1 h2 h3
