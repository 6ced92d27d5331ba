/-! ===== a small machine over lists: its states, its steps ===== -/
/-- a cell: an array (kind 0 int, 1 byte, 2 boolean; length; contents), or an object (number of its class, fields); references are places in the list of cells; 999: the law's script; from 1000 on: string constants -/
abbrev sv_C : Type := (Nat × Nat × (Nat → Int32)) ⊕ (Nat × List Value)
/-- pc, locals, operands, cells -/
abbrev sv_S : Type := Nat × List (Option Value) × List Value × List sv_C
/-- pc, instruction, a value, two numbers, a place in the tables' words -/
abbrev sv_I : Type := Nat × Instr × Value × Nat × Nat × Nat
/-- name, bytes, locals, answer's type, instructions -/
abbrev sv_M : Type := MethodName × ByteArray × Nat × Option FieldType × List sv_I
def sv_n {α : Type} : List α → Nat → Option α
  | [], _ => none
  | x :: _, 0 => some x
  | _ :: r, k + 1 => sv_n r k
theorem sv_n_eq {α : Type} : ∀ (l : List α) (k : Nat), sv_n l k = l[k]?
  | [], k => by simp [sv_n]
  | x :: r, 0 => by simp [sv_n]
  | x :: r, k + 1 => by simp [sv_n, sv_n_eq r k]
def sv_u {α : Type} : List α → Nat → α → List α
  | [], _, _ => []
  | _ :: r, 0, y => y :: r
  | x :: r, k + 1, y => x :: sv_u r k y
theorem sv_u_eq {α : Type} : ∀ (l : List α) (k : Nat) (y : α), sv_u l k y = l.set k y
  | [], k, y => by simp [sv_u]
  | x :: r, 0, y => by simp [sv_u]
  | x :: r, k + 1, y => by simp [sv_u, sv_u_eq r k y]
def sv_at : List sv_I → Nat → Option sv_I
  | [], _ => none
  | i :: r, pc => bif Nat.beq i.1 pc then some i else sv_at r pc
theorem sv_at_mem : ∀ {c : List sv_I} {pc : Nat} {i : sv_I}, sv_at c pc = some i → i ∈ c ∧ i.1 = pc
  | [], pc, i, h => by simp [sv_at] at h
  | x :: r, pc, i, h => by
    unfold sv_at at h
    cases hb : Nat.beq x.1 pc with
    | true =>
      rw [hb] at h
      cases h
      exact ⟨List.mem_cons_self, Nat.eq_of_beq_eq_true hb⟩
    | false =>
      rw [hb] at h
      obtain ⟨h1, h2⟩ := sv_at_mem (c := r) h
      exact ⟨List.mem_cons_of_mem _ h1, h2⟩
/-- locals: a value of one place, of two places, comes to a place -/
def sv_c2 (o : Option (Option Value)) : Bool := match o with
  | some (some v) => Nat.beq v.category 2
  | _ => false
def sv_st1 (lo : List (Option Value)) (i : Nat) (v : Value) : List (Option Value) := match i with
  | 0 => sv_u lo 0 (some v)
  | j + 1 => bif sv_c2 (sv_n lo j) then sv_u (sv_u lo (j + 1) (some v)) j none else sv_u lo (j + 1) (some v)
def sv_st2 (lo : List (Option Value)) (i : Nat) (v : Value) : List (Option Value) := sv_u (sv_st1 lo i v) (i + 1) none
def sv_bin (ins : Instr) : Option (Int32 → Int32 → Int32) := match ins with
  | .iadd => some fun x y => x + y
  | .isub => some fun x y => x - y
  | .imul => some fun x y => x * y
  | .iand => some fun x y => x &&& y
  | .ior => some fun x y => x ||| y
  | .ixor => some fun x y => x ^^^ y
  | .ishl => some fun x y => x <<< (y &&& 31)
  | .ishr => some fun x y => x >>> (y &&& 31)
  | .iushr => some fun x y => (x.toUInt32 >>> (y.toUInt32 &&& Int32.toUInt32 31)).toInt32
  | _ => none
def sv_lbin (ins : Instr) : Option (Int64 → Int64 → Int64) := match ins with
  | .ladd => some fun x y => x + y
  | .lsub => some fun x y => x - y
  | .lmul => some fun x y => x * y
  | _ => none
def sv_push (ins : Instr) : Option Nat := match ins with
  | .iconst _ => some 1
  | .bipush _ => some 2
  | .sipush _ => some 3
  | .lconst _ => some 1
  | .ldc _ => some 2
  | .ldc_w _ => some 3
  | .ldc2_w _ => some 3
  | _ => none
def sv_load (ins : Instr) : Option Nat := match ins with
  | .iload_n _ => some 1
  | .iload _ => some 2
  | .lload_n _ => some 1
  | .lload _ => some 2
  | .aload_n _ => some 1
  | .aload _ => some 2
  | _ => none
/-- which kind of value a load takes: 0 int, 1 long, 2 a reference -/
def sv_lk (ins : Instr) (v : Value) : Bool := match ins, v with
  | .iload_n _, .int _ => true
  | .iload _, .int _ => true
  | .lload_n _, .long _ => true
  | .lload _, .long _ => true
  | .aload_n _, .ref _ => true
  | .aload _, .ref _ => true
  | _, _ => false
def sv_math (k : Nat) (st : List Value) : Option (List Value) := match k, st with
  | 1, .int x :: r => some (.int (if 0 ≤ x then x else 0 - x) :: r)
  | 2, .int y :: .int x :: r => some (.int (if y < x then y else x) :: r)
  | 3, .int y :: .int x :: r => some (.int (if x < y then y else x) :: r)
  | 4, .long x :: r => some (.long (if 0 < x then x else -x) :: r)
  | _, _ => none
def sv_cat : List Value → Nat
  | [] => 0
  | v :: r => v.category + sv_cat r
def sv_01 (x : Int32) : Prop := x = 0 ∨ x = 1
def sv_dfl (ins : Instr) (v : Value) (a pc : Nat) (lo : List (Option Value)) (st : List Value) (cs : List sv_C) : Option sv_S := match sv_push ins with
  | some n => some (pc + n, lo, v :: st, cs)
  | none => match sv_load ins with
    | some n => match sv_n lo a with
      | some (some w) => bif sv_lk ins w then some (pc + n, lo, w :: st, cs) else none
      | _ => none
    | none => match sv_bin ins with
      | some f => match st with
        | .int y :: .int x :: r => some (pc + 1, lo, .int (f x y) :: r, cs)
        | _ => none
      | none => match sv_lbin ins with
        | some f => match st with
          | .long y :: .long x :: r => some (pc + 1, lo, .long (f x y) :: r, cs)
          | _ => none
        | none => none
/-- a step that asks nothing of the numbers -/
def sv_stp (X : Nat × (Nat → Int32)) (code : List sv_I) (σ : sv_S) : Option sv_S := match sv_at code σ.1 with
  | none => none
  | some (_, ins, v, a, b, _) => match ins with
    | .istore_n _ => match σ.2.2.1 with
      | .int x :: r => some (σ.1 + 1, sv_st1 σ.2.1 a (.int x), r, σ.2.2.2)
      | _ => none
    | .istore _ => match σ.2.2.1 with
      | .int x :: r => some (σ.1 + 2, sv_st1 σ.2.1 a (.int x), r, σ.2.2.2)
      | _ => none
    | .astore_n _ => match σ.2.2.1 with
      | .ref x :: r => some (σ.1 + 1, sv_st1 σ.2.1 a (.ref x), r, σ.2.2.2)
      | _ => none
    | .astore _ => match σ.2.2.1 with
      | .ref x :: r => some (σ.1 + 2, sv_st1 σ.2.1 a (.ref x), r, σ.2.2.2)
      | _ => none
    | .lstore_n _ => match σ.2.2.1 with
      | .long x :: r => some (σ.1 + 1, sv_st2 σ.2.1 a (.long x), r, σ.2.2.2)
      | _ => none
    | .lstore _ => match σ.2.2.1 with
      | .long x :: r => some (σ.1 + 2, sv_st2 σ.2.1 a (.long x), r, σ.2.2.2)
      | _ => none
    | .iinc _ _ => match v, sv_n σ.2.1 a with
      | .int n, some (some (.int x)) => some (σ.1 + 3, sv_st1 σ.2.1 a (.int (x + n)), σ.2.2.1, σ.2.2.2)
      | _, _ => none
    | .goto _ => some (a, σ.2.1, σ.2.2.1, σ.2.2.2)
    | .dup => match σ.2.2.1 with
      | x :: r => bif Nat.beq x.category 1 then some (σ.1 + 1, σ.2.1, x :: x :: r, σ.2.2.2) else none
      | _ => none
    | .pop => match σ.2.2.1 with
      | x :: r => bif Nat.beq x.category 1 then some (σ.1 + 1, σ.2.1, r, σ.2.2.2) else none
      | _ => none
    | .dup2 => match σ.2.2.1 with
      | x :: y :: r => bif Nat.beq x.category 1 then (bif Nat.beq y.category 1 then some (σ.1 + 1, σ.2.1, x :: y :: x :: y :: r, σ.2.2.2) else none) else none
      | _ => none
    | .i2l => match σ.2.2.1 with
      | .int x :: r => some (σ.1 + 1, σ.2.1, .long x.toInt64 :: r, σ.2.2.2)
      | _ => none
    | .l2i => match σ.2.2.1 with
      | .long x :: r => some (σ.1 + 1, σ.2.1, .int x.toInt32 :: r, σ.2.2.2)
      | _ => none
    | .i2b => match σ.2.2.1 with
      | .int x :: r => some (σ.1 + 1, σ.2.1, .int x.toInt8.toInt32 :: r, σ.2.2.2)
      | _ => none
    | .ineg => match σ.2.2.1 with
      | .int x :: r => some (σ.1 + 1, σ.2.1, .int (-x) :: r, σ.2.2.2)
      | _ => none
    | .lneg => match σ.2.2.1 with
      | .long x :: r => some (σ.1 + 1, σ.2.1, .long (-x) :: r, σ.2.2.2)
      | _ => none
    | .lcmp => match σ.2.2.1 with
      | .long y :: .long x :: r => some (σ.1 + 1, σ.2.1, .int (lg_cmp x y) :: r, σ.2.2.2)
      | _ => none
    | .getfield _ => match σ.2.2.1 with
      | .ref q :: r => match sv_n σ.2.2.2 q with
        | some (.inr (ci, fs)) => bif Nat.beq ci a then (match sv_n fs b with
          | some w => some (σ.1 + 3, σ.2.1, w :: r, σ.2.2.2)
          | none => none) else none
        | _ => none
      | _ => none
    | .putfield _ => match v, σ.2.2.1 with
      | .retAddr 0, .int x :: .ref q :: r => match sv_n σ.2.2.2 q with
        | some (.inr (ci, fs)) => bif Nat.beq ci a then (match sv_n fs b with
          | some _ => some (σ.1 + 3, σ.2.1, r, sv_u σ.2.2.2 q (.inr (ci, sv_u fs b (.int x))))
          | none => none) else none
        | _ => none
      | .retAddr 2, .ref x :: .ref q :: r => match sv_n σ.2.2.2 q with
        | some (.inr (ci, fs)) => bif Nat.beq ci a then (match sv_n fs b with
          | some _ => some (σ.1 + 3, σ.2.1, r, sv_u σ.2.2.2 q (.inr (ci, sv_u fs b (.ref x))))
          | none => none) else none
        | _ => none
      | _, _ => none
    | .arraylength => match σ.2.2.1 with
      | .ref q :: r => match sv_n σ.2.2.2 q with
        | some (.inl (t, n, _)) => bif Nat.ble t 2 then some (σ.1 + 1, σ.2.1, .int (Int32.ofNat n) :: r, σ.2.2.2) else none
        | some (.inr _) => none
        | none => bif Nat.beq q 999 then some (σ.1 + 1, σ.2.1, .int (Int32.ofNat X.1) :: r, σ.2.2.2) else none
      | _ => none
    | .invokestatic _ => match v with
      | .retAddr k => bif Nat.ble (sv_cat σ.2.2.1) 20 then (match sv_math k σ.2.2.1 with
        | some st => some (σ.1 + 3, σ.2.1, st, σ.2.2.2)
        | none => none) else none
      | _ => none
    | ins => sv_dfl ins v a σ.1 σ.2.1 σ.2.2.1 σ.2.2.2
/-- a branch: its condition, where it goes, where else -/
def sv_br (code : List sv_I) (σ : sv_S) : Option (Prop × sv_S × sv_S) := match sv_at code σ.1 with
  | none => none
  | some (_, ins, _, a, _, _) => match ins, σ.2.2.1 with
    | .ifCond .eq _, .int x :: r => some (x = 0, (a, σ.2.1, r, σ.2.2.2), (σ.1 + 3, σ.2.1, r, σ.2.2.2))
    | .ifCond .ne _, .int x :: r => some (¬ x = 0, (a, σ.2.1, r, σ.2.2.2), (σ.1 + 3, σ.2.1, r, σ.2.2.2))
    | .ifCond .lt _, .int x :: r => some (x < 0, (a, σ.2.1, r, σ.2.2.2), (σ.1 + 3, σ.2.1, r, σ.2.2.2))
    | .ifCond .ge _, .int x :: r => some (0 ≤ x, (a, σ.2.1, r, σ.2.2.2), (σ.1 + 3, σ.2.1, r, σ.2.2.2))
    | .ifCond .gt _, .int x :: r => some (0 < x, (a, σ.2.1, r, σ.2.2.2), (σ.1 + 3, σ.2.1, r, σ.2.2.2))
    | .ifCond .le _, .int x :: r => some (x ≤ 0, (a, σ.2.1, r, σ.2.2.2), (σ.1 + 3, σ.2.1, r, σ.2.2.2))
    | .if_icmp .eq _, .int y :: .int x :: r => some (x = y, (a, σ.2.1, r, σ.2.2.2), (σ.1 + 3, σ.2.1, r, σ.2.2.2))
    | .if_icmp .ne _, .int y :: .int x :: r => some (¬ x = y, (a, σ.2.1, r, σ.2.2.2), (σ.1 + 3, σ.2.1, r, σ.2.2.2))
    | .if_icmp .lt _, .int y :: .int x :: r => some (x < y, (a, σ.2.1, r, σ.2.2.2), (σ.1 + 3, σ.2.1, r, σ.2.2.2))
    | .if_icmp .ge _, .int y :: .int x :: r => some (y ≤ x, (a, σ.2.1, r, σ.2.2.2), (σ.1 + 3, σ.2.1, r, σ.2.2.2))
    | .if_icmp .gt _, .int y :: .int x :: r => some (y < x, (a, σ.2.1, r, σ.2.2.2), (σ.1 + 3, σ.2.1, r, σ.2.2.2))
    | .if_icmp .le _, .int y :: .int x :: r => some (x ≤ y, (a, σ.2.1, r, σ.2.2.2), (σ.1 + 3, σ.2.1, r, σ.2.2.2))
    | _, _ => none
/-- a step that asks something of the numbers -/
def sv_gst (X : Nat × (Nat → Int32)) (code : List sv_I) (σ : sv_S) : Option (Prop × sv_S) := match sv_at code σ.1 with
  | none => none
  | some (_, ins, v, a, b, _) => match ins, σ.2.2.1 with
    | .iaload, .int i :: .ref q :: r => match sv_n σ.2.2.2 q with
      | some (.inl (t, n, f)) => bif Nat.beq t 0 then some (vp_in i n, (σ.1 + 1, σ.2.1, .int (f i.toNatClampNeg) :: r, σ.2.2.2)) else none
      | some (.inr _) => none
      | none => bif Nat.beq q 999 then some (vp_in i X.1, (σ.1 + 1, σ.2.1, .int (X.2 i.toNatClampNeg) :: r, σ.2.2.2)) else none
    | .baload, .int i :: .ref q :: r => match sv_n σ.2.2.2 q with
      | some (.inl (t, n, f)) => bif Nat.beq t 1 then some (vp_in i n, (σ.1 + 1, σ.2.1, .int (f i.toNatClampNeg) :: r, σ.2.2.2)) else bif Nat.beq t 2 then some (vp_in i n, (σ.1 + 1, σ.2.1, .int (f i.toNatClampNeg) :: r, σ.2.2.2)) else none
      | _ => none
    | .iastore, .int x :: .int i :: .ref q :: r => match sv_n σ.2.2.2 q with
      | some (.inl (t, n, f)) => bif Nat.beq t 0 then some (vp_in i n, (σ.1 + 1, σ.2.1, r, sv_u σ.2.2.2 q (.inl (t, n, upd f i.toNatClampNeg x)))) else none
      | _ => none
    | .bastore, .int x :: .int i :: .ref q :: r => match sv_n σ.2.2.2 q with
      | some (.inl (t, n, f)) => bif Nat.beq t 1 then some (vp_in i n, (σ.1 + 1, σ.2.1, r, sv_u σ.2.2.2 q (.inl (t, n, upd f i.toNatClampNeg (vp_nar .byte x)))))
        else bif Nat.beq t 2 then some (vp_in i n, (σ.1 + 1, σ.2.1, r, sv_u σ.2.2.2 q (.inl (t, n, upd f i.toNatClampNeg (vp_nar .boolean x))))) else none
      | _ => none
    | .idiv, .int y :: .int x :: r => some (¬ y = 0, (σ.1 + 1, σ.2.1, .int (x / y) :: r, σ.2.2.2))
    | .irem, .int y :: .int x :: r => some (¬ y = 0, (σ.1 + 1, σ.2.1, .int (x - x / y * y) :: r, σ.2.2.2))
    | .putfield _, .int x :: .ref q :: r => match v, sv_n σ.2.2.2 q with
      | .retAddr 1, some (.inr (ci, fs)) => bif Nat.beq ci a then (match sv_n fs b with
        | some _ => some (sv_01 x, (σ.1 + 3, σ.2.1, r, sv_u σ.2.2.2 q (.inr (ci, sv_u fs b (.int x)))))
        | none => none) else none
      | _, _ => none
    | .invokestatic _, .int n :: .int dp :: .ref q1 :: .int sp :: .ref q0 :: r => match v, sv_n σ.2.2.2 q0, sv_n σ.2.2.2 q1 with
      | .retAddr 5, some (.inl (t0, n0, f0)), some (.inl (t1, n1, f1)) => bif Nat.beq t0 0 && Nat.beq t1 0 && Nat.ble (sv_cat r) 20 then some ((¬ sp < 0 ∧ ¬ dp < 0 ∧ ¬ n < 0) ∧ sp.toNatClampNeg + n.toNatClampNeg ≤ n0 ∧ dp.toNatClampNeg + n.toNatClampNeg ≤ n1, (σ.1 + 3, σ.2.1, r, sv_u σ.2.2.2 q1 (.inl (t1, n1, va_cpy f0 f1 sp.toNatClampNeg dp.toNatClampNeg n.toNatClampNeg)))) else none
      | _, _, _ => none
    | _, _ => none
/-- a method's end: its answer -/
def sv_rt (code : List sv_I) (ret : Option FieldType) (σ : sv_S) : Option (Prop × Option Value) := match sv_at code σ.1 with
  | none => none
  | some (_, ins, _, _, _, _) => match ins, σ.2.2.1, ret with
    | .ireturn, [.int x], some .int => some (True, some (.int x))
    | .ireturn, [.int x], some .boolean => some (sv_01 x, some (.int x))
    | .lreturn, [.long x], some .long => some (True, some (.long x))
    | .areturn, [.ref x], some (.object _) => some (True, some (.ref x))
    | .return_, [], none => some (True, none)
    | _, _, _ => none
/-- a switch, at the case k (none: the default; of lookupswitch: where it goes) -/
def sv_sw (code : List sv_I) (σ : sv_S) (k : Option Nat) : Option (Prop × sv_S) := match sv_at code σ.1 with
  | none => none
  | some (_, ins, _, _, _, _) => match ins, σ.2.2.1, k with
    | .tableswitch dflt lo hi _, .int x :: r, none => some ((x.toInt < lo ∨ hi < x.toInt) ∧ 0 ≤ (σ.1 : Int) + dflt, (((σ.1 : Int) + dflt).toNat, σ.2.1, r, σ.2.2.2))
    | .tableswitch _ lo hi offs, .int x :: r, some k => match offs[k]? with
      | some off => some ((¬ x.toInt < lo ∧ ¬ hi < x.toInt ∧ (x.toInt - lo).toNat = k) ∧ 0 ≤ (σ.1 : Int) + off, (((σ.1 : Int) + off).toNat, σ.2.1, r, σ.2.2.2))
      | none => none
    | .lookupswitch dflt ps, .int x :: r, some tgt => some ((ps.toList.zip (ps.toList.drop 1)).all (fun (a, next) => a.1 < next.1) = true ∧ (σ.1 : Int) + Op.lookupswitch.offset ps.toList dflt x.toInt = (tgt : Int), (tgt, σ.2.1, r, σ.2.2.2))
    | _, _, _ => none
