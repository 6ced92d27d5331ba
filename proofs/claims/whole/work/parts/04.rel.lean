/-! ===== the small machine's words: what its lists say of the heap, when an instruction's row is right ===== -/
def sv_v (ρ : Nat → Nat) (v : Value) : Value := match v with
  | .ref a => .ref (ρ a)
  | v => v
theorem sv_v_cat (ρ : Nat → Nat) (v : Value) : (sv_v ρ v).category = v.category := by cases v <;> rfl
theorem sv_v_comp (ρ π : Nat → Nat) (v : Value) : sv_v ρ (sv_v π v) = sv_v (fun i => ρ (π i)) v := by cases v <;> rfl
def sv_e (ρ : Nat → Nat) (cA : Nat → ClassId) (c : sv_C) : va_E := match c with
  | .inl x => .inl (cA x.1, x.2.1, .inl x.2.2)
  | .inr o => .inr (o.1, o.2.map (sv_v ρ))
def sv_w (ρ : Nat → Nat) (cA : Nat → ClassId) (cs : List sv_C) : va_W := cs.mapIdx fun i c => (ρ i, sv_e ρ cA c)
theorem sv_w_get (ρ : Nat → Nat) (cA : Nat → ClassId) (cs : List sv_C) (k : Nat) : (sv_w ρ cA cs)[k]? = (cs[k]?).map fun c => (ρ k, sv_e ρ cA c) := by simp [sv_w]
theorem sv_w_at {ρ : Nat → Nat} {cA : Nat → ClassId} {cs : List sv_C} {k : Nat} {c : sv_C} (h : sv_n cs k = some c) : (sv_w ρ cA cs)[k]? = some (ρ k, sv_e ρ cA c) := by
  rw [sv_n_eq] at h
  rw [sv_w_get, h]; rfl
theorem sv_w_set (ρ : Nat → Nat) (cA : Nat → ClassId) (cs : List sv_C) (k : Nat) (c : sv_C) : sv_w ρ cA (sv_u cs k c) = (sv_w ρ cA cs).set k (ρ k, sv_e ρ cA c) := by
  rw [sv_u_eq]
  apply List.ext_getElem?
  intro i
  rw [sv_w_get, List.getElem?_set, List.getElem?_set]
  have hl : (sv_w ρ cA cs).length = cs.length := by simp [sv_w]
  rw [hl]
  by_cases hk : k = i
  · subst hk
    by_cases h2 : k < cs.length <;> simp [h2]
  · simp only [if_neg hk]
    rw [sv_w_get]
/-- a cell, its references by other places -/
def sv_r (π : Nat → Nat) (c : sv_C) : sv_C := match c with
  | .inl x => .inl x
  | .inr o => .inr (o.1, o.2.map (sv_v π))
theorem sv_e_r (ρ π : Nat → Nat) (cA : Nat → ClassId) (c : sv_C) : sv_e ρ cA (sv_r π c) = sv_e (fun i => ρ (π i)) cA c := by
  cases c with
  | inl x => rfl
  | inr o =>
    simp only [sv_r, sv_e, List.map_map]
    congr 2
    apply List.map_congr_left
    intro v _
    exact sv_v_comp ρ π v
def sv_t (cA : Nat → ClassId) : List (ClassId × FieldType) := [(cA 0, .int), (cA 1, .byte), (cA 2, .boolean)]
def sv_has (ρ : Nat → Nat) (ls : Array Slot) (nL : Nat) (lo : List (Option Value)) : Prop := ∃ l : List (Nat × Value), lv_has ls nL l ∧ ∀ (i : Nat) (v : Value), sv_n lo i = some (some v) → (i, sv_v ρ v) ∈ l
theorem sv_has.get {ρ : Nat → Nat} {ls : Array Slot} {nL : Nat} {lo : List (Option Value)} (h : sv_has ρ ls nL lo) {i : Nat} {v : Value} (hi : sv_n lo i = some (some v)) : ls[i]? = some (.val (sv_v ρ v)) := by
  obtain ⟨l, h1, h2⟩ := h
  exact h1.2.2 _ (h2 i v hi)
theorem sv_has.size {ρ : Nat → Nat} {ls : Array Slot} {nL : Nat} {lo : List (Option Value)} (h : sv_has ρ ls nL lo) : ls.size = nL := by
  obtain ⟨l, h1, h2⟩ := h
  exact h1.1
def sv_le (lo' lo : List (Option Value)) : Prop := ∀ (i : Nat) (v : Value), sv_n lo' i = some (some v) → sv_n lo i = some (some v)
theorem sv_has.le {ρ : Nat → Nat} {ls : Array Slot} {nL : Nat} {lo lo' : List (Option Value)} (h : sv_has ρ ls nL lo) (hl : sv_le lo' lo) : sv_has ρ ls nL lo' := by
  obtain ⟨l, h1, h2⟩ := h
  exact ⟨l, h1, fun i v hi => h2 i v (hl i v hi)⟩
/-- by places: fewer are known -/
def sv_leb : List (Option Value) → List (Option Value) → Prop
  | [], _ => True
  | none :: r, [] => sv_leb r []
  | some _ :: _, [] => False
  | none :: r, _ :: t => sv_leb r t
  | some v :: r, w :: t => w = some v ∧ sv_leb r t
theorem sv_leb_le : ∀ (a b : List (Option Value)), sv_leb a b → sv_le a b
  | [], b, _ => fun i v h => by simp [sv_n] at h
  | none :: r, [], h => fun i v hi => by
    cases i with
    | zero => simp [sv_n] at hi
    | succ i => exact absurd (sv_leb_le r [] h i v hi) (by simp [sv_n])
  | some _ :: _, [], h => by simp [sv_leb] at h
  | none :: r, x :: t, h => fun i v hi => by
    cases i with
    | zero => simp [sv_n] at hi
    | succ i => exact sv_leb_le r t h i v hi
  | some w :: r, x :: t, h => fun i v hi => by
    obtain ⟨h1, h2⟩ := h
    cases i with
    | zero => simp only [sv_n] at hi ⊢; rw [h1]; exact hi
    | succ i => exact sv_leb_le r t h2 i v hi
theorem sv_n_u {α : Type} (l : List α) (k : Nat) (y : α) (i : Nat) : sv_n (sv_u l k y) i = if k = i then (if k < l.length then some y else none) else sv_n l i := by
  rw [sv_n_eq, sv_u_eq, List.getElem?_set, sv_n_eq]
theorem sv_st1_spec {lo : List (Option Value)} {i j : Nat} {v w : Value} (h : sv_n (sv_st1 lo i v) j = some (some w)) : (j = i ∧ w = v) ∨ (j ≠ i ∧ sv_n lo j = some (some w) ∧ ¬ (j + 1 = i ∧ w.category = 2)) := by
  unfold sv_st1 at h
  cases i with
  | zero =>
    dsimp only at h
    rw [sv_n_u] at h
    by_cases hj : 0 = j
    · rw [if_pos hj] at h
      split at h
      · cases h; exact Or.inl ⟨hj.symm, rfl⟩
      · cases h
    · rw [if_neg hj] at h
      exact Or.inr ⟨fun q => hj q.symm, h, fun q => by omega⟩
  | succ i =>
    dsimp only at h
    cases hc : sv_c2 (sv_n lo i) with
    | true =>
      rw [hc] at h
      dsimp only [cond] at h
      rw [sv_n_u] at h
      by_cases hj : i = j
      · rw [if_pos hj] at h
        split at h <;> cases h
      · rw [if_neg hj, sv_n_u] at h
        by_cases hj2 : i + 1 = j
        · rw [if_pos hj2] at h
          split at h
          · cases h; exact Or.inl ⟨hj2.symm, rfl⟩
          · cases h
        · rw [if_neg hj2] at h
          exact Or.inr ⟨fun q => hj2 q.symm, h, fun q => hj (by omega)⟩
    | false =>
      rw [hc] at h
      dsimp only [cond] at h
      rw [sv_n_u] at h
      by_cases hj2 : i + 1 = j
      · rw [if_pos hj2] at h
        split at h
        · cases h; exact Or.inl ⟨hj2.symm, rfl⟩
        · cases h
      · rw [if_neg hj2] at h
        refine Or.inr ⟨fun q => hj2 q.symm, h, fun q => ?_⟩
        have hji : j = i := by omega
        subst hji
        rw [h] at hc
        simp only [sv_c2, q.2] at hc
        exact absurd hc (by decide)
theorem sv_has.st1 {ρ : Nat → Nat} {nL : Nat} {lo : List (Option Value)} {l : List (Nat × Value)} (h2 : ∀ (i : Nat) (v : Value), sv_n lo i = some (some v) → (i, sv_v ρ v) ∈ l) {i : Nat} {v : Value} {ls' : Array Slot} (h1 : lv_has ls' nL ((i, sv_v ρ v) :: l.filter (fun q => !(q.1 == i) && !(q.1 + 1 == i && q.2.category == 2)))) : sv_has ρ ls' nL (sv_st1 lo i v) := by
  refine ⟨_, h1, fun j w hj => ?_⟩
  rcases sv_st1_spec hj with ⟨rfl, rfl⟩ | ⟨n1, hg, n2⟩
  · exact List.mem_cons_self
  · refine List.mem_cons_of_mem _ (List.mem_filter.mpr ⟨h2 j w hg, ?_⟩)
    simp only [sv_v_cat, Bool.and_eq_true, Bool.not_eq_true', beq_eq_false_iff_ne, ne_eq, Bool.and_eq_false_iff]
    refine ⟨n1, ?_⟩
    by_cases hq : j + 1 = i
    · exact Or.inr (fun z => n2 ⟨hq, z⟩)
    · exact Or.inl hq
theorem sv_has.st2 {ρ : Nat → Nat} {nL : Nat} {lo : List (Option Value)} {l : List (Nat × Value)} (h2 : ∀ (i : Nat) (v : Value), sv_n lo i = some (some v) → (i, sv_v ρ v) ∈ l) {i : Nat} {v : Value} {ls' : Array Slot} (h1 : lv_has ls' nL ((i, sv_v ρ v) :: l.filter (fun q => !(q.1 == i) && (!(q.1 == i + 1) && !(q.1 + 1 == i && q.2.category == 2))))) : sv_has ρ ls' nL (sv_st2 lo i v) := by
  refine ⟨_, h1, fun j w hj => ?_⟩
  unfold sv_st2 at hj
  rw [sv_n_u] at hj
  by_cases hj1 : i + 1 = j
  · rw [if_pos hj1] at hj
    split at hj <;> cases hj
  rw [if_neg hj1] at hj
  rcases sv_st1_spec hj with ⟨rfl, rfl⟩ | ⟨n1, hg, n2⟩
  · exact List.mem_cons_self
  · refine List.mem_cons_of_mem _ (List.mem_filter.mpr ⟨h2 j w hg, ?_⟩)
    simp only [sv_v_cat, Bool.and_eq_true, Bool.not_eq_true', beq_eq_false_iff_ne, ne_eq, Bool.and_eq_false_iff]
    refine ⟨n1, fun z => hj1 z.symm, ?_⟩
    by_cases hq : j + 1 = i
    · exact Or.inr (fun z => n2 ⟨hq, z⟩)
    · exact Or.inl hq
/-- how long an instruction is -/
def sv_il (ins : Instr) (a : Nat) : Nat := match ins with
  | .bipush _ => 2
  | .iload _ => 2
  | .lload _ => 2
  | .aload _ => 2
  | .istore _ => 2
  | .lstore _ => 2
  | .astore _ => 2
  | .ldc _ => 2
  | .sipush _ => 3
  | .ldc_w _ => 3
  | .ldc2_w _ => 3
  | .iinc _ _ => 3
  | .goto _ => 3
  | .ifCond _ _ => 3
  | .if_icmp _ _ => 3
  | .getfield _ => 3
  | .putfield _ => 3
  | .invokevirtual _ => 3
  | .invokestatic _ => 3
  | .invokespecial _ => 3
  | .new _ => 3
  | .newarray _ => 2
  | .tableswitch _ _ _ _ => a
  | .lookupswitch _ _ => a
  | _ => 1
def sv_fld (own : String) (i a b j : Nat) : Bool := match vwCl[a]? with
  | some q => decide (b < q.2.2) && decide (lw_tbl[j]? = some (.fieldLink own i (q.2.1 b).1 (q.2.1 b).2.1 (q.2.1 b).2.2.1))
  | none => false
def sv_fin (a b : Nat) : Bool := match vwCl[a]? with
  | some q => !(q.2.1 b).2.2.2
  | none => false
def sv_fty (v : Value) (ty : FieldType) : Bool := match v, ty with
  | .retAddr 0, .int => true
  | .retAddr 1, .boolean => true
  | .retAddr 2, .object _ => true
  | _, _ => false
def sv_str (own : String) (i q b : Nat) : Bool := match sv_strs[b]? with
  | some z => decide (z.1 = own) && decide (z.2.1 = i) && decide (q = 1000 + z.2.2.2)
  | none => false
def sv_prim (k : Nat) : Option MethodName := match k with
  | 1 => some Lib.Math.abs.name
  | 2 => some Lib.Math.min.name
  | 3 => some Lib.Math.max.name
  | 4 => some Lib.MathLoose.abs_long.x
  | 5 => some arraycopyName
  | _ => none
def sv_ok2 (own : String) (nL : Nat) (pc : Nat) (ins : Instr) (v : Value) (a b j : Nat) : Bool := match ins with
  | .iconst n => decide (v = .int (Int32.ofInt n))
  | .bipush n => decide (v = .int (Int8.ofInt n).toInt32)
  | .sipush n => decide (v = .int (Int16.ofInt n).toInt32)
  | .lconst n => decide (v = .long (Int64.ofNat n))
  | .ldc i => match v with
    | .int x => decide (lw_tbl[j]? = some (.constant own i x))
    | .ref q => sv_str own i q b
    | _ => false
  | .ldc_w i => match v with
    | .int x => decide (lw_tbl[j]? = some (.constant own i x))
    | _ => false
  | .ldc2_w i => match v with
    | .long x => decide (lw_tbl[j]? = some (.constantLong own i x))
    | _ => false
  | .iload_n k => decide ((k : Nat) = a)
  | .lload_n k => decide ((k : Nat) = a)
  | .aload_n k => decide ((k : Nat) = a)
  | .iload i => decide (i = a)
  | .lload i => decide (i = a)
  | .aload i => decide (i = a)
  | .istore_n k => decide ((k : Nat) = a) && decide (a < nL)
  | .astore_n k => decide ((k : Nat) = a) && decide (a < nL)
  | .lstore_n k => decide ((k : Nat) = a) && decide (a + 1 < nL)
  | .istore i => decide (i = a) && decide (a < nL)
  | .astore i => decide (i = a) && decide (a < nL)
  | .lstore i => decide (i = a) && decide (a + 1 < nL)
  | .iinc i n => decide (i = a) && decide (a < nL) && decide (v = .int (Int32.ofInt n))
  | .goto off => decide ((pc : Int) + off = (a : Int))
  | .ifCond _ off => decide ((pc : Int) + off = (a : Int))
  | .if_icmp _ off => decide ((pc : Int) + off = (a : Int))
  | .getfield i => sv_fld own i a b j
  | .putfield i => sv_fld own i a b j && sv_fin a b && sv_fty v (sv_ty a b)
  | .invokestatic i => match v with
    | .retAddr k => match sv_prim k with
      | some y => decide (lw_tbl[j]? = some (.methodLink own i y))
      | none => false
    | _ => true
  | _ => true
def sv_okb (own : String) (cc : ByteArray) (nL : Nat) (e : sv_I) : Bool := decide (decode cc e.1 = .ok (e.2.1, sv_il e.2.1 e.2.2.2.1)) && sv_ok2 own nL e.1 e.2.1 e.2.2.1 e.2.2.2.1 e.2.2.2.2.1 e.2.2.2.2.2
/-- a method whose rows are right -/
def sv_good (M : sv_M) : Prop := plainName M.1.cls = true ∧ M.2.2.1 ≤ 60 ∧ M.2.2.2.2.all (sv_okb M.1.cls M.2.1 M.2.2.1) = true
/-- what doesn't change: the script, the string constants, two statics, the nest's links -/
def sv_E (X : Nat × (Nat → Int32)) (nw : List Jvm.Cond) (ρ : Nat → Nat) (A : Nat → Prop) (U : State) (H : Heap) : Prop :=
  (va_X (ρ 999) X.1 X.2 U H ∧ ρ 999 < H.size ∧ ¬ A (ρ 999)) ∧
  (∀ i : Nat, i < 19 → va_O "java/lang/String" (ρ (1000 + i)) A U H ∧ va_OF "java/lang/String" "coder" "B" (.int 0) (ρ (1000 + i)) A U H ∧ ∃ t : Nat, va_OF "java/lang/String" "value" "[B" (.ref t) (ρ (1000 + i)) A U H ∧ va_T .byte t (sv_len i) (fun j => .int (sv_chr i j)) A U H) ∧
  (∀ q ∈ sv_strs, vk_R q.1 q.2.1 q.2.2.1 (ρ (1000 + q.2.2.2)) U) ∧
  (va_Z "java/lang/String" "COMPACT_STRINGS" "Z" (.int 1) A U H ∧ va_Zq "jdk/internal/util/Preconditions" "SIOOBE_FORMATTER" "Ljava/util/function/BiFunction;" A U H) ∧
  ∀ w ∈ nw, va_Nw w U
def sv_isN (w : Jvm.Cond) : Prop := ∃ (a : String) (i : Nat) (x : MethodName) (h : String), w = .methodLinkNest a i x h
theorem sv_E.go {X : Nat × (Nat → Int32)} {nw : List Jvm.Cond} (hn : ∀ w ∈ nw, sv_isN w) {ρ : Nat → Nat} {A B : Nat → Prop} {s U : State} {H : Heap} (h : sv_E X nw ρ A s s.heap) (hW : s.WarmedH U.vm) (hsz : s.heap.size ≤ H.size) (hk : ∀ q : Nat, q < s.heap.size → ¬ A q → H[q]? = s.heap[q]?) (hAB : ∀ q, B q → A q) : sv_E X nw ρ B U H := by
  obtain ⟨⟨a1, a2, a3⟩, b, c, ⟨d1, d2⟩, f⟩ := h
  have hal := hW.alike
  refine ⟨⟨(a1.moved hal).kept (hk _ a2 a3), Nat.lt_of_lt_of_le a2 hsz, fun z => a3 (hAB _ z)⟩, fun i hi => ?_, fun q hq => (c q hq).warm hW, ⟨((d1.moved hal).kept hk).narrow hAB, ((d2.moved hal).kept hk).narrow hAB⟩, fun w hw => ?_⟩
  · obtain ⟨b1, b2, t, b3, b4⟩ := b i hi
    exact ⟨((b1.moved hal).kept hk).narrow hAB, ((b2.moved hal).kept hk).narrow hAB, t, ((b3.moved hal).kept hk).narrow hAB, ((b4.moved hal).kept hk).narrow hAB⟩
  · obtain ⟨a, i, x, h, rfl⟩ := hn w hw
    exact va_Nw.warmM hW (f _ hw)
theorem sv_E.same {X : Nat × (Nat → Int32)} {nw : List Jvm.Cond} (hn : ∀ w ∈ nw, sv_isN w) {ρ : Nat → Nat} {A : Nat → Prop} {s U : State} (h : sv_E X nw ρ A s s.heap) (hv : U.vm = s.vm) (hh : U.heap = s.heap) : sv_E X nw ρ A U U.heap := by
  refine sv_E.go hn h (by rw [hv]; exact State.WarmedH.refl s) (by rw [hh]; exact Nat.le_refl _) (fun q _ _ => by rw [hh]) (fun q z => z)
