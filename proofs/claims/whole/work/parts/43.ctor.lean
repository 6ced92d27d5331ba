/-! ===== constructors: straight rows that make cells ===== -/
def cv_tt (t : Nat) : FieldType := match t with
  | 0 => .int
  | 1 => .byte
  | _ => .boolean
def cv_at (t : Nat) : ArrayType := match t with
  | 0 => .int
  | 1 => .byte
  | _ => .boolean
def cv_df (ty : FieldType) : Value := match ty with
  | .object _ => .null
  | .array _ => .null
  | _ => .int 0
def cv_fty (v : Value) (ty : FieldType) : Bool := match v, ty with
  | .int _, .int => true
  | .int x, .boolean => decide (x = 0 ∨ x = 1)
  | .ref _, .object _ => true
  | .ref _, .array _ => true
  | _, _ => false
theorem cv_arr : Jvm.Cond.arrayClass .int ∈ sv_Ts ∧ Jvm.Cond.arrayClass .byte ∈ sv_Ts ∧ Jvm.Cond.arrayClass .boolean ∈ sv_Ts := ⟨sv_tm (j := 195) (by decide +kernel) (by decide +kernel), sv_tm (j := 823) (by decide +kernel) (by decide +kernel), sv_tm (j := 1727) (by decide +kernel) (by decide +kernel)⟩
theorem cv_obj : Jvm.Cond.instanceMethod Lib.objectInit ∈ sv_Ts ∧ Jvm.Cond.code Lib.objectInit ⟨#[0xb1]⟩ 1 none ∈ sv_Ts := ⟨sv_tm (j := 158) (by decide +kernel) (by decide +kernel), sv_tm (j := 159) (by decide +kernel) (by decide +kernel)⟩
/-- a value, a cell whose references are below n -/
def cv_vb (n : Nat) (v : Value) : Bool := match v with
  | .ref a => Nat.blt a n
  | _ => true
def cv_cb (n : Nat) (c : sv_C) : Bool := match c with
  | .inl _ => true
  | .inr o => o.2.all (cv_vb n)
theorem cv_v_of {ρ ρ' : Nat → Nat} {n : Nat} (h : ∀ i, i < n → ρ' i = ρ i) {v : Value} (hv : cv_vb n v = true) : sv_v ρ' v = sv_v ρ v := by
  cases v with
  | ref a =>
    have ha : a < n := Nat.le_of_ble_eq_true hv
    show Value.ref (ρ' a) = .ref (ρ a)
    rw [h a ha]
  | _ => rfl
theorem cv_vs_of {ρ ρ' : Nat → Nat} {n : Nat} (h : ∀ i, i < n → ρ' i = ρ i) {vs : List Value} (hv : vs.all (cv_vb n) = true) : vs.map (sv_v ρ') = vs.map (sv_v ρ) := List.map_congr_left fun v hm => cv_v_of h (List.all_eq_true.mp hv v hm)
theorem cv_e_of {ρ ρ' : Nat → Nat} {n : Nat} (h : ∀ i, i < n → ρ' i = ρ i) (cA : Nat → ClassId) {c : sv_C} (hc : cv_cb n c = true) : sv_e ρ' cA c = sv_e ρ cA c := by
  cases c with
  | inl x => rfl
  | inr o =>
    show (.inr (o.1, o.2.map (sv_v ρ')) : va_E) = .inr (o.1, o.2.map (sv_v ρ))
    rw [cv_vs_of h hc]
theorem cv_w_of {ρ ρ' : Nat → Nat} {n : Nat} (h : ∀ i, i < n → ρ' i = ρ i) (cA : Nat → ClassId) {cs : List sv_C} (hl : cs.length ≤ n) (hc : cs.all (cv_cb n) = true) : sv_w ρ' cA cs = sv_w ρ cA cs := by
  apply List.ext_getElem?
  intro k
  rw [sv_w_get, sv_w_get]
  cases hk : cs[k]? with
  | none => rfl
  | some x =>
    have hlt : k < cs.length := (List.getElem?_eq_some_iff.mp hk).1
    show some (ρ' k, sv_e ρ' cA x) = some (ρ k, sv_e ρ cA x)
    rw [h k (by omega), cv_e_of h cA (List.all_eq_true.mp hc x (List.mem_of_getElem? hk))]
theorem cv_w_app (ρ : Nat → Nat) (cA : Nat → ClassId) (a b : List sv_C) : sv_w ρ cA (a ++ b) = sv_w ρ cA a ++ b.mapIdx (fun i c => (ρ (a.length + i), sv_e ρ cA c)) := by
  unfold sv_w
  rw [List.mapIdx_append]
  congr 1
  apply List.mapIdx_eq_mapIdx_iff.mpr
  intro i h
  rw [Nat.add_comm]
def cv_x (ρ : Nat → Nat) (n q : Nat) : Nat → Nat := fun i => if i = n then q else ρ i
theorem cv_x_lt (ρ : Nat → Nat) (n q : Nat) : ∀ i, i < n → cv_x ρ n q i = ρ i := fun i h => if_neg (Nat.ne_of_lt h)
theorem cv_x_at (ρ : Nat → Nat) (n q : Nat) : cv_x ρ n q n = q := if_pos rfl
def cv_g (h0 : Option Nat) (ρ : Nat → Nat) : Prop := ∀ a, h0 = some a → ρ 0 = a
theorem cv_nf (ρ : Nat → Nat) {v : Value} {ty : FieldType} (h : cv_fty v ty = true) : narrow ty (sv_v ρ v) = sv_v ρ v ∧ fits ty (sv_v ρ v) = true := by
  unfold cv_fty at h
  split at h
  · exact ⟨rfl, rfl⟩
  · have h01 := of_decide_eq_true h
    rcases h01 with rfl | rfl <;> exact ⟨rfl, rfl⟩
  · exact ⟨rfl, rfl⟩
  · exact ⟨rfl, rfl⟩
  · cases h
section CV
variable {p : Program} {l : Launch} {e : Env} {R : Room} {s : State} {m : MethodId} {args : Array Value} {below : List Frame} {meth : Method} {c : Code} {Q : State → Prop}
variable {D : va_G} {cA : Nat → ClassId} {A : Nat → Prop} {h0 : Option Nat} {nL : Nat} {own : String} {cc : ByteArray}
/-- in a body that makes cells -/
def cv_J (p : Program) (l : Launch) (e : Env) (R : Room) (s : State) (m : MethodId) (args : Array Value) (below : List Frame) (meth : Method) (c : Code) (Q : State → Prop) (D : va_G) (cA : Nat → ClassId) (A : Nat → Prop) (h0 : Option Nat) (nL : Nat) (lo : List (Nat × Value)) (kc ks : Nat) (pc : Nat) (st : List Value) (cs : List sv_C) : Prop :=
  ∀ (ρ : Nat → Nat) (H : Heap) (locs : List Loc) (ls : Array Slot), cv_g h0 ρ → va_P D vwCl (sv_w ρ cA cs) H → va_D A (sv_w ρ cA cs) → va_S A s.heap H locs → lv_has ls nL (lo.map fun q => (q.1, sv_v ρ q.2)) → W p l e R s m args below meth c H locs kc ks Q (F0 m pc ls (st.map (sv_v ρ)))
def cv_B (p : Program) (R : Room) (s : State) (m : MethodId) (args : Array Value) (c : Code) (D : va_G) (cA : Nat → ClassId) (A : Nat → Prop) (own : String) (cc : ByteArray) (nL : Nat) : Prop :=
  (p.tables.exec = Jvm.exec ∧ c.code = cc ∧ c.maxLocals = nL ∧ s.vm.findClass own = some m.cls ∧ ∀ w ∈ sv_Ts, w.before args s = true) ∧ va_K D vwCl (sv_t cA) s ∧ (∀ q, s.heap.size ≤ q → A q) ∧ 1 ≤ R.frames ∧ 100 ≤ R.locals
theorem cv_put (hB : cv_B p R s m args c D cA A own cc nL) (hin : meth.name = "<init>") {lo : List (Nat × Value)} {kc ks pc i a b j q : Nat} {v x0 : Value} {st fs : List Value} {cs : List sv_C} (hd : decode cc pc = .ok (.putfield i, 3)) (hf : sv_fld own i a b j = true) (hc : ∀ z, vwCl[a]? = some z → (z.2.1 b).1 = own) (hty : cv_fty v (sv_ty a b) = true) (hq : sv_n cs q = some (.inr (a, fs))) (hx : sv_n fs b = some x0) {cs' : List sv_C} (hcs : sv_u cs q (.inr (a, sv_u fs b v)) = cs')
    (k : cv_J p l e R s m args below meth c Q D cA A h0 nL lo kc ks (pc + 3) st cs') : cv_J p l e R s m args below meth c Q D cA A h0 nL lo kc ks pc (v :: .ref q :: st) cs := by
  subst hcs
  intro ρ H locs ls hg hP hD hS hl
  obtain ⟨⟨hx0, hb, hml, hown, hts⟩, hK, hA, hR⟩ := hB
  obtain ⟨r, hr, hbr, hlk⟩ := sv_fld_spec hf
  obtain ⟨h1, h2, h3⟩ := sv_cls a r hr
  have hdecl := hc r hr
  obtain ⟨C, T, N⟩ := r
  have hnf := cv_nf ρ hty
  have hlen : b < (fs.map (sv_v ρ)).length := by
    rw [sv_n_eq] at hx
    rw [List.length_map]
    exact (List.getElem?_eq_some_iff.mp hx).1
  have hset : (sv_w ρ cA cs).set q (ρ q, .inr (a, (fs.map (sv_v ρ)).set b (sv_v ρ v))) = sv_w ρ cA (sv_u cs q (.inr (a, sv_u fs b v))) := by
    rw [sv_w_set]
    simp only [sv_e, sv_u_eq, List.map_set]
  have kk : ∀ (H1 : Heap) (locs1 : List Loc), va_P D vwCl ((sv_w ρ cA cs).set q (ρ q, .inr (a, (fs.map (sv_v ρ)).set b (sv_v ρ v)))) H1 → va_D A ((sv_w ρ cA cs).set q (ρ q, .inr (a, (fs.map (sv_v ρ)).set b (sv_v ρ v)))) → va_S A s.heap H1 locs1 → W p l e R s m args below meth c H1 locs1 kc ks Q (F0 m (pc + 3) ls (st.map (sv_v ρ))) := by
    intro H1 locs1 a1 a2 a3
    rw [hset] at a1 a2
    exact k ρ H1 locs1 ls hg a1 a2 a3 hl
  cases hfin : (T b).2.2.2 with
  | false => exact va_put (C := C) (T := T) (N := N) (own := own) hx0 hb hts h1 (sv_ty a) h3 h2 hown hK hP hD hS q (sv_w_at hq) hr b hbr (hts _ hlk) (fun x h => h) hfin (h3 b hbr) hnf.1 hnf.2 hlen hd kk
  | true => exact va_putF (C := C) (T := T) (N := N) (own := own) hx0 hb hts h1 (sv_ty a) h3 h2 hown hK hP hD hS q (sv_w_at hq) hr b hbr (hts _ hlk) (fun x h => h) hfin hin hdecl (h3 b hbr) hnf.1 hnf.2 hlen hd kk
theorem cv_grow {ρ : Nat → Nat} {cs : List sv_C} {x : sv_C} {q : Nat} (hw : cs.all (cv_cb cs.length) = true) (hx : cv_cb cs.length x = true) (cA : Nat → ClassId) : sv_w (cv_x ρ cs.length q) cA (cs ++ [x]) = sv_w ρ cA cs ++ [(q, sv_e ρ cA x)] := by
  rw [cv_w_app, cv_w_of (cv_x_lt ρ cs.length q) cA (Nat.le_refl _) hw]
  simp [cv_x_at, cv_e_of (cv_x_lt ρ cs.length q) cA hx]
theorem cv_g_x {ρ : Nat → Nat} {n q : Nat} (hg : cv_g h0 ρ) (hn : h0 = none ∨ 0 < n) : cv_g h0 (cv_x ρ n q) := by
  intro a ha
  rcases hn with h | h
  · rw [h] at ha; cases ha
  · rw [cv_x_lt ρ n q 0 h]; exact hg a ha
theorem cv_lo_of {ρ ρ' : Nat → Nat} {n : Nat} (h : ∀ i, i < n → ρ' i = ρ i) {lo : List (Nat × Value)} (hv : lo.all (fun q => cv_vb n q.2) = true) : (lo.map fun q => (q.1, sv_v ρ' q.2)) = lo.map fun q => (q.1, sv_v ρ q.2) := List.map_congr_left fun q hm => by rw [cv_v_of h (List.all_eq_true.mp hv q hm)]
theorem cv_arrn (hB : cv_B p R s m args c D cA A own cc nL) {lo : List (Nat × Value)} {kc ks pc t N : Nat} {n : Int32} {st : List Value} {cs : List sv_C} (ht : t ≤ 2) (hd : decode cc pc = .ok (.newarray (cv_at t), 2)) (hn : ¬ n < 0) (hN : n.toNatClampNeg = N) (hN2 : N ≤ 100000) (hc : kc + 1 ≤ R.cells) (hs : ks + N ≤ R.slots) (h1 : h0 = none ∨ 0 < cs.length) (hw : cs.all (cv_cb cs.length) = true) (hst : st.all (cv_vb cs.length) = true) (hlo : lo.all (fun q => cv_vb cs.length q.2) = true)
    (k : cv_J p l e R s m args below meth c Q D cA A h0 nL lo (kc + 1) (ks + N) (pc + 2) (.ref cs.length :: st) (cs ++ [.inl (t, N, fun _ => 0)])) : cv_J p l e R s m args below meth c Q D cA A h0 nL lo kc ks pc (.int n :: st) cs := by
  intro ρ H locs ls hg hP hD hS hl
  obtain ⟨⟨hx0, hb, hml, hown, hts⟩, hK, hA, hR⟩ := hB
  have harr : (Jvm.Cond.arrayClass (newarray.typeOf (cv_at t))).before args s = true := by
    match t, ht with
    | 0, _ => exact hts _ cv_arr.1
    | 1, _ => exact hts _ cv_arr.2.1
    | 2, _ => exact hts _ cv_arr.2.2
  refine va_newa (ty := newarray.typeOf (cv_at t)) (a0 := (N, .inl fun _ => 0)) hx0 hb harr rfl hK hP hD hS hA (fun cB => ?_) hn hN ?_ hc hs hd (fun q cB H1 hK1 hP1 hD1 hS1 => ?_)
  · match t, ht with
    | 0, _ => rfl
    | 1, _ => rfl
    | 2, _ => rfl
  · match t, ht with
    | 0, _ => show N * 4 ≤ 536870912; omega
    | 1, _ => show N * 1 ≤ 536870912; omega
    | 2, _ => show N * 1 ≤ 536870912; omega
  · have hcl : cB = cA t := by
      have h2 := (hK1.2 3 (cB, newarray.typeOf (cv_at t)) rfl).2
      match t, ht, h2 with
      | 0, _, h2 => exact Option.some.inj (h2.symm.trans (hK.2 0 (cA 0, .int) rfl).2)
      | 1, _, h2 => exact Option.some.inj (h2.symm.trans (hK.2 1 (cA 1, .byte) rfl).2)
      | 2, _, h2 => exact Option.some.inj (h2.symm.trans (hK.2 2 (cA 2, .boolean) rfl).2)
    subst hcl
    have hgr := cv_grow (ρ := ρ) (q := q) (x := .inl (t, N, fun _ => 0)) hw rfl cA
    have hgo := k (cv_x ρ cs.length q) H1 locs ls (cv_g_x hg h1) (by rw [hgr]; exact hP1) (by rw [hgr]; exact hD1) hS1 (by rw [cv_lo_of (cv_x_lt ρ cs.length q) hlo]; exact hl)
    rw [List.map_cons, cv_vs_of (cv_x_lt ρ cs.length q) hst] at hgo
    have e1 : sv_v (cv_x ρ cs.length q) (.ref cs.length) = .ref q := by
      show Value.ref (cv_x ρ cs.length q cs.length) = _
      rw [cv_x_at]
    rw [e1] at hgo
    exact hgo
theorem cv_newo (hB : cv_B p R s m args c D cA A own cc nL) {lo : List (Nat × Value)} {kc ks pc i ci j : Nat} {C : String} {T : u_T} {N : Nat} {fs : List Value} {st : List Value} {cs : List sv_C} (hcl : vwCl[ci]? = some (C, T, N)) (hfs : ∀ j, j < N → defaultValue (sv_ty ci j) = vp_V fs j) (hnr : fs.all (cv_vb 0) = true) (hd : decode cc pc = .ok (.new i, 3)) (w1 : Jvm.Cond.classLink own i C ∈ sv_Ts) (w2 : Jvm.Cond.instantiable C N ∈ sv_Ts) (w3 : Jvm.Cond.initialized C ∈ sv_Ts) (hc : kc + 1 ≤ R.cells) (hs : ks + N ≤ R.slots) (h1 : h0 = none ∨ 0 < cs.length) (hw : cs.all (cv_cb cs.length) = true) (hst : st.all (cv_vb cs.length) = true) (hlo : lo.all (fun q => cv_vb cs.length q.2) = true)
    (k : cv_J p l e R s m args below meth c Q D cA A h0 nL lo (kc + 1) (ks + N) (pc + 3) (.ref cs.length :: st) (cs ++ [.inr (ci, fs)])) : cv_J p l e R s m args below meth c Q D cA A h0 nL lo kc ks pc st cs := by
  intro ρ H locs ls hg hP hD hS hl
  obtain ⟨⟨hx0, hb, hml, hown, hts⟩, hK, hA, hR⟩ := hB
  obtain ⟨g1, g2, g3⟩ := sv_cls ci _ hcl
  have hnr0 : ∀ v ∈ fs, ∀ n, cv_vb n v = true := by
    intro v hv n
    have h := List.all_eq_true.mp hnr v hv
    cases v with
    | ref a => simp [cv_vb, Nat.blt] at h
    | _ => rfl
  have hid : fs.map (sv_v ρ) = fs := by
    have : fs.map (sv_v ρ) = fs.map id := List.map_congr_left fun v hv => by
      have h := List.all_eq_true.mp hnr v hv
      cases v with
      | ref a => simp [cv_vb, Nat.blt] at h
      | _ => rfl
    rw [this, List.map_id]
  refine va_new (ci := ci) (fs := fs) (C := C) (T := T) (N := N) hx0 hb hts g1 (sv_ty ci) g3 hown (hts _ w1) (hts _ w2) (hts _ w3) hK hP hD hS hA hcl hfs hc hs hd (fun q H1 hP1 hD1 hS1 => ?_)
  have hgr := cv_grow (ρ := ρ) (q := q) (x := .inr (ci, fs)) hw (List.all_eq_true.mpr fun v hv => hnr0 v hv _) cA
  have hee : sv_e ρ cA (.inr (ci, fs)) = .inr (ci, fs) := by
    show (.inr (ci, fs.map (sv_v ρ)) : va_E) = _
    rw [hid]
  rw [hee] at hgr
  have hgo := k (cv_x ρ cs.length q) H1 locs ls (cv_g_x hg h1) (by rw [hgr]; exact hP1) (by rw [hgr]; exact hD1) hS1 (by rw [cv_lo_of (cv_x_lt ρ cs.length q) hlo]; exact hl)
  rw [List.map_cons, cv_vs_of (cv_x_lt ρ cs.length q) hst] at hgo
  have e1 : sv_v (cv_x ρ cs.length q) (.ref cs.length) = .ref q := by
    show Value.ref (cv_x ρ cs.length q cs.length) = _
    rw [cv_x_at]
  rw [e1] at hgo
  exact hgo
theorem cv_push (hB : cv_B p R s m args c D cA A own cc nL) {lo : List (Nat × Value)} {kc ks pc n a b j : Nat} {ins : Instr} {v : Value} {st : List Value} {cs : List sv_C} (hs : sv_push ins = some n) (hi : ∀ i, ins ≠ .ldc i) (hi2 : ∀ i, ins ≠ .ldc_w i) (hi3 : ∀ i, ins ≠ .ldc2_w i) (hd : decode cc pc = .ok (ins, sv_il ins a)) (hk : sv_ok2 own nL pc ins v a b j = true)
    (k : cv_J p l e R s m args below meth c Q D cA A h0 nL lo kc ks (pc + n) (v :: st) cs) : cv_J p l e R s m args below meth c Q D cA A h0 nL lo kc ks pc st cs := by
  intro ρ H locs ls hg hP hD hS hl
  obtain ⟨⟨hx, hb, hml, hown, hts⟩, hK, hA, hR⟩ := hB
  have kk := k ρ H locs ls hg hP hD hS hl
  cases ins with
  | iconst x =>
    cases hs
    have hk : v = _ := of_decide_eq_true hk
    subst hk
    exact lv_iconst hx hb hd rfl kk
  | bipush x =>
    cases hs
    have hk : v = _ := of_decide_eq_true hk
    subst hk
    exact lv_bipush hx hb hd rfl kk
  | sipush x =>
    cases hs
    have hk : v = _ := of_decide_eq_true hk
    subst hk
    exact lv_sipush hx hb hd rfl kk
  | lconst x =>
    cases hs
    have hk : v = _ := of_decide_eq_true hk
    subst hk
    exact lv_lconst hx hb hd rfl kk
  | ldc i => exact absurd rfl (hi i)
  | ldc_w i => exact absurd rfl (hi2 i)
  | ldc2_w i => exact absurd rfl (hi3 i)
  | _ => cases hs
theorem cv_this (hB : cv_B p R s m args c D cA A own cc nL) {kc ks pc : Nat} {lo : List (Nat × Value)} {st : List Value} {cs : List sv_C} (hd : decode cc pc = .ok (.aload_n 0, 1))
    (k : cv_J p l e R s m args below meth c Q D cA A h0 nL ((0, .ref 0) :: lo) kc ks (pc + 1) (.ref 0 :: st) cs) : cv_J p l e R s m args below meth c Q D cA A h0 nL ((0, .ref 0) :: lo) kc ks pc st cs := by
  intro ρ H locs ls hg hP hD hS hl
  obtain ⟨⟨hx, hb, hml, hown, hts⟩, hK, hA, hR⟩ := hB
  exact lv_aload_n hx hb hd rfl (lv_at hl 0 rfl) (k ρ H locs ls hg hP hD hS hl)
theorem cv_dup (hB : cv_B p R s m args c D cA A own cc nL) {kc ks pc q : Nat} {lo : List (Nat × Value)} {st : List Value} {cs : List sv_C} (hd : decode cc pc = .ok (.dup, 1))
    (k : cv_J p l e R s m args below meth c Q D cA A h0 nL lo kc ks (pc + 1) (.ref q :: .ref q :: st) cs) : cv_J p l e R s m args below meth c Q D cA A h0 nL lo kc ks pc (.ref q :: st) cs := by
  intro ρ H locs ls hg hP hD hS hl
  obtain ⟨⟨hx, hb, hml, hown, hts⟩, hK, hA, hR⟩ := hB
  exact lv_dup hx hb hd rfl (k ρ H locs ls hg hP hD hS hl)
theorem cv_super (hB : cv_B p R s m args c D cA A own cc nL) {kc ks pc i : Nat} {lo : List (Nat × Value)} {cs : List sv_C} (hd : decode cc pc = .ok (.invokespecial i, 3)) (w1 : Jvm.Cond.methodLink own i Lib.objectInit ∈ sv_Ts)
    (k : cv_J p l e R s m args below meth c Q D cA A h0 nL lo kc ks (pc + 3) [] cs) : cv_J p l e R s m args below meth c Q D cA A h0 nL lo kc ks pc [.ref 0] cs := by
  intro ρ H locs ls hg hP hD hS hl
  obtain ⟨⟨hx, hb, hml, hown, hts⟩, hK, hA, hR1, hR2⟩ := hB
  refine W.objInit hx hb hown (hts _ w1) (hts _ cv_obj.1) (hts _ cv_obj.2) rfl (by rw [hml]; exact hl.1) (rest := []) rfl hd hR1 ?_ ?_
  · show 2 * 0 + 0 + 12 ≤ R.locals
    omega
  · exact k ρ H locs ls hg hP hD hS hl
end CV
