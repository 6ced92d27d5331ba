/-! ===== each step of the small machine is one of the machine's ===== -/
section SVSound
variable {p : Program} {l : Launch} {e : Env} {R : Room} {s : State} {m : MethodId} {args : Array Value} {below : List Frame} {meth : Method} {c : Code} {cells slots : Nat} {Q : State → Prop}
variable {D : va_G} {cA : Nat → ClassId} {ρ : Nat → Nat} {A : Nat → Prop}
def sv_J (p : Program) (l : Launch) (e : Env) (R : Room) (s : State) (m : MethodId) (args : Array Value) (below : List Frame) (meth : Method) (c : Code) (cells slots : Nat) (Q : State → Prop) (D : va_G) (cA : Nat → ClassId) (ρ : Nat → Nat) (A : Nat → Prop) (nL : Nat) (σ : sv_S) : Prop :=
  ∀ (H : Heap) (locs : List Loc) (ls : Array Slot), va_P D vwCl (sv_w ρ cA σ.2.2.2) H → va_D A (sv_w ρ cA σ.2.2.2) → va_S A s.heap H locs → sv_has ρ ls nL σ.2.1 → W p l e R s m args below meth c H locs cells slots Q (F0 m σ.1 ls (σ.2.2.1.map (sv_v ρ)))
/-- what holds in a method's body all along -/
def sv_B (X : Nat × (Nat → Int32)) (nw : List Jvm.Cond) (p : Program) (R : Room) (s : State) (m : MethodId) (args : Array Value) (c : Code) (cells slots : Nat) (D : va_G) (cA : Nat → ClassId) (ρ : Nat → Nat) (A : Nat → Prop) (M : sv_M) : Prop :=
  (p.tables.exec = Jvm.exec ∧ c.code = M.2.1 ∧ c.maxLocals = M.2.2.1 ∧ s.vm.findClass M.1.cls = some m.cls ∧ ∀ w ∈ sv_Ts, w.before args s = true) ∧
  (va_K D vwCl (sv_t cA) s ∧ sv_E X nw ρ A s s.heap ∧ ∀ q, s.heap.size ≤ q → A q) ∧ sv_good M ∧ 1 ≤ R.frames ∧ 100 ≤ R.locals ∧ cells ≤ R.cells ∧ slots ≤ R.slots
theorem sv_row {M : sv_M} (hg : sv_good M) {pc : Nat} {i : sv_I} (h : sv_at M.2.2.2.2 pc = some i) : i.1 = pc ∧ decode M.2.1 pc = .ok (i.2.1, sv_il i.2.1 i.2.2.2.1) ∧ sv_ok2 M.1.cls M.2.2.1 pc i.2.1 i.2.2.1 i.2.2.2.1 i.2.2.2.2.1 i.2.2.2.2.2 = true := by
  obtain ⟨hm, rfl⟩ := sv_at_mem h
  have h1 := List.all_eq_true.mp hg.2.2 i hm
  simp only [sv_okb, Bool.and_eq_true, decide_eq_true_eq] at h1
  exact ⟨rfl, h1.1, h1.2⟩
theorem sv_tm {w : Jvm.Cond} {j : Nat} (h : lw_tbl[j]? = some w) (hg : goodWord w = true) : w ∈ sv_Ts := List.mem_filter.mpr ⟨List.mem_of_getElem? h, hg⟩
theorem sv_fld_spec {own : String} {i a b j : Nat} (h : sv_fld own i a b j = true) : ∃ q : vw_C, vwCl[a]? = some q ∧ b < q.2.2 ∧ Jvm.Cond.fieldLink own i (q.2.1 b).1 (q.2.1 b).2.1 (q.2.1 b).2.2.1 ∈ sv_Ts := by
  unfold sv_fld at h
  cases hq : vwCl[a]? with
  | none => rw [hq] at h; cases h
  | some q =>
    rw [hq] at h
    simp only [Bool.and_eq_true, decide_eq_true_eq] at h
    exact ⟨q, rfl, h.1, sv_tm h.2 rfl⟩
theorem sv_step_push {X : Nat × (Nat → Int32)} {nw : List Jvm.Cond} {M : sv_M} (hB : sv_B X nw p R s m args c cells slots D cA ρ A M) {pc n a b j : Nat} {ins : Instr} {v : Value} {H : Heap} {locs : List Loc} {ls : Array Slot} {st : List Value} (hs : sv_push ins = some n) (hd : decode M.2.1 pc = .ok (ins, sv_il ins a)) (hk : sv_ok2 M.1.cls M.2.2.1 pc ins v a b j = true)
    (k : W p l e R s m args below meth c H locs cells slots Q (F0 m (pc + n) ls (sv_v ρ v :: st))) : W p l e R s m args below meth c H locs cells slots Q (F0 m pc ls st) := by
  obtain ⟨⟨hx, hb, hml, hown, hts⟩, ⟨hK, hE, hA⟩, hg, hR⟩ := hB
  cases ins with
  | iconst x =>
    cases hs
    have hk : v = _ := of_decide_eq_true hk
    subst hk
    exact lv_iconst hx hb hd rfl k
  | bipush x =>
    cases hs
    have hk : v = _ := of_decide_eq_true hk
    subst hk
    exact lv_bipush hx hb hd rfl k
  | sipush x =>
    cases hs
    have hk : v = _ := of_decide_eq_true hk
    subst hk
    exact lv_sipush hx hb hd rfl k
  | lconst x =>
    cases hs
    have hk : v = _ := of_decide_eq_true hk
    subst hk
    exact lv_lconst hx hb hd rfl k
  | ldc i =>
    cases hs
    cases v with
    | int x =>
      have hk : lw_tbl[j]? = some (.constant M.1.cls i x) := of_decide_eq_true hk
      exact lv_ldc hx hb hown (hts _ (sv_tm hk rfl)) hd k
    | ref q =>
      have hk : sv_str M.1.cls i q b = true := hk
      unfold sv_str at hk
      cases hz : sv_strs[b]? with
      | none => rw [hz] at hk; cases hk
      | some z =>
        rw [hz] at hk
        simp only [Bool.and_eq_true, decide_eq_true_eq] at hk
        obtain ⟨⟨h1, h2⟩, h3⟩ := hk
        have hr := hE.2.2.1 z (List.mem_of_getElem? hz)
        rw [h1, h2] at hr
        rw [h3] at k
        exact va_ldcS hx hb hown hr hd k
    | _ => cases hk
  | ldc_w i =>
    cases hs
    cases v with
    | int x =>
      have hk : lw_tbl[j]? = some (.constant M.1.cls i x) := of_decide_eq_true hk
      exact lv_ldcw hx hb hown (hts _ (sv_tm hk rfl)) hd k
    | _ => cases hk
  | ldc2_w i =>
    cases hs
    cases v with
    | long x =>
      have hk : lw_tbl[j]? = some (.constantLong M.1.cls i x) := of_decide_eq_true hk
      exact lv_ldc2 hx hb hown (hts _ (sv_tm hk rfl)) hd k
    | _ => cases hk
  | _ => cases hs
theorem sv_step_load {X : Nat × (Nat → Int32)} {nw : List Jvm.Cond} {M : sv_M} (hB : sv_B X nw p R s m args c cells slots D cA ρ A M) {pc n a b j : Nat} {ins : Instr} {v w : Value} {H : Heap} {locs : List Loc} {ls : Array Slot} {st : List Value} (hs : sv_load ins = some n) (hd : decode M.2.1 pc = .ok (ins, sv_il ins a)) (hk : sv_ok2 M.1.cls M.2.2.1 pc ins v a b j = true) (hw : sv_lk ins w = true) (hl : ls[a]? = some (.val (sv_v ρ w)))
    (k : W p l e R s m args below meth c H locs cells slots Q (F0 m (pc + n) ls (sv_v ρ w :: st))) : W p l e R s m args below meth c H locs cells slots Q (F0 m pc ls st) := by
  obtain ⟨⟨hx, hb, hml, hown, hts⟩, ⟨hK, hE, hA⟩, hg, hR⟩ := hB
  cases ins with
  | iload_n i =>
    cases hs
    have hk : (i : Nat) = a := of_decide_eq_true hk
    cases w with
    | int x => exact lv_iload_n hx hb hd hk hl k
    | _ => cases hw
  | iload i =>
    cases hs
    have hk : i = a := of_decide_eq_true hk
    subst hk
    cases w with
    | int x => exact lv_iload hx hb hd hl k
    | _ => cases hw
  | lload_n i =>
    cases hs
    have hk : (i : Nat) = a := of_decide_eq_true hk
    cases w with
    | long x => exact lv_lload_n hx hb hd hk hl k
    | _ => cases hw
  | lload i =>
    cases hs
    have hk : i = a := of_decide_eq_true hk
    subst hk
    cases w with
    | long x => exact lv_lload hx hb hd hl k
    | _ => cases hw
  | aload_n i =>
    cases hs
    have hk : (i : Nat) = a := of_decide_eq_true hk
    cases w with
    | ref x => exact lv_aload_n hx hb hd hk hl k
    | _ => cases hw
  | aload i =>
    cases hs
    have hk : i = a := of_decide_eq_true hk
    subst hk
    cases w with
    | ref x => exact lv_aload hx hb hd hl k
    | _ => cases hw
  | _ => cases hs
theorem sv_step_bin {X : Nat × (Nat → Int32)} {nw : List Jvm.Cond} {M : sv_M} (hB : sv_B X nw p R s m args c cells slots D cA ρ A M) {pc a : Nat} {ins : Instr} {f : Int32 → Int32 → Int32} {x y : Int32} {H : Heap} {locs : List Loc} {ls : Array Slot} {st : List Value} (hs : sv_bin ins = some f) (hd : decode M.2.1 pc = .ok (ins, sv_il ins a))
    (k : W p l e R s m args below meth c H locs cells slots Q (F0 m (pc + 1) ls (.int (f x y) :: st))) : W p l e R s m args below meth c H locs cells slots Q (F0 m pc ls (.int y :: .int x :: st)) := by
  obtain ⟨⟨hx, hb, hml, hown, hts⟩, ⟨hK, hE, hA⟩, hg, hR⟩ := hB
  cases ins with
  | iadd => cases hs; exact lv_iadd hx hb hd k
  | isub => cases hs; exact lv_isub hx hb hd k
  | imul => cases hs; exact lv_imul hx hb hd k
  | iand => cases hs; exact lv_iand hx hb hd k
  | ior => cases hs; exact lv_ior hx hb hd k
  | ixor => cases hs; exact lv_ixor hx hb hd k
  | ishl => cases hs; exact lv_ishl hx hb hd k
  | ishr => cases hs; exact lv_ishr hx hb hd k
  | iushr => cases hs; exact lv_iushr hx hb hd rfl k
  | _ => cases hs
theorem sv_step_lbin {X : Nat × (Nat → Int32)} {nw : List Jvm.Cond} {M : sv_M} (hB : sv_B X nw p R s m args c cells slots D cA ρ A M) {pc a : Nat} {ins : Instr} {f : Int64 → Int64 → Int64} {x y : Int64} {H : Heap} {locs : List Loc} {ls : Array Slot} {st : List Value} (hs : sv_lbin ins = some f) (hd : decode M.2.1 pc = .ok (ins, sv_il ins a))
    (k : W p l e R s m args below meth c H locs cells slots Q (F0 m (pc + 1) ls (.long (f x y) :: st))) : W p l e R s m args below meth c H locs cells slots Q (F0 m pc ls (.long y :: .long x :: st)) := by
  obtain ⟨⟨hx, hb, hml, hown, hts⟩, ⟨hK, hE, hA⟩, hg, hR⟩ := hB
  cases ins with
  | ladd => cases hs; exact lv_ladd hx hb hd k
  | lsub => cases hs; exact lv_lsub hx hb hd k
  | lmul => cases hs; exact lv_lmul hx hb hd k
  | _ => cases hs
end SVSound
