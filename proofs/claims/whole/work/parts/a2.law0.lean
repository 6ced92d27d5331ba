/-! ===== the law's first rows: the two objects made ===== -/
section CL
variable {p : Program} {l : Launch} {e : Env} {R : Room} {s : State} {m : MethodId} {args : Array Value} {below : List Frame} {meth : Method} {c : Code} {Q : State → Prop}
variable {D : va_G} {cA : Nat → ClassId} {A : Nat → Prop} {nL : Nat} {own : String} {cc : ByteArray} {b : Nat}
/-- in a body that makes cells, whose first local is the cell b -/
def cl_J (p : Program) (l : Launch) (e : Env) (R : Room) (s : State) (m : MethodId) (args : Array Value) (below : List Frame) (meth : Method) (c : Code) (Q : State → Prop) (D : va_G) (cA : Nat → ClassId) (A : Nat → Prop) (nL b : Nat) (lo : List (Nat × Value)) (kc ks : Nat) (pc : Nat) (st : List Value) (cs : List sv_C) : Prop :=
  ∀ (ρ : Nat → Nat) (H : Heap) (locs : List Loc) (ls : Array Slot), va_P D vwCl (sv_w ρ cA cs) H → va_D A (sv_w ρ cA cs) → va_S A s.heap H locs → lv_has ls nL ((lo.map fun q => (q.1, sv_v ρ q.2)) ++ [(0, .ref b)]) → W p l e R s m args below meth c H locs kc ks Q (F0 m pc ls (st.map (sv_v ρ)))
theorem cl_newo (hB : cv_B p R s m args c D cA A own cc nL) {lo : List (Nat × Value)} {kc ks pc i ci : Nat} {C : String} {T : u_T} {N : Nat} {fs : List Value} {st : List Value} {cs : List sv_C} (hcl : vwCl[ci]? = some (C, T, N)) (hfs : ∀ j, j < N → defaultValue (sv_ty ci j) = vp_V fs j) (hnr : fs.all (cv_vb 0) = true) (hd : decode cc pc = .ok (.new i, 3)) (w1 : Jvm.Cond.classLink own i C ∈ sv_Ts) (w2 : Jvm.Cond.instantiable C N ∈ sv_Ts) (w3 : Jvm.Cond.initialized C ∈ sv_Ts) (hc : kc + 1 ≤ R.cells) (hs : ks + N ≤ R.slots) (hw : cs.all (cv_cb cs.length) = true) (hst : st.all (cv_vb cs.length) = true) (hlo : lo.all (fun q => cv_vb cs.length q.2) = true)
    (k : cl_J p l e R s m args below meth c Q D cA A nL b lo (kc + 1) (ks + N) (pc + 3) (.ref cs.length :: st) (cs ++ [.inr (ci, fs)])) : cl_J p l e R s m args below meth c Q D cA A nL b lo kc ks pc st cs := by
  intro ρ H locs ls hP hD hS hl
  obtain ⟨⟨hx0, hb, hml, hown, hts⟩, hK, hA, hR⟩ := hB
  obtain ⟨g1, g2, g3⟩ := sv_cls ci _ hcl
  have hnr0 : ∀ v ∈ fs, ∀ n, cv_vb n v = true := by
    intro v hv n
    have h := List.all_eq_true.mp hnr v hv
    cases v with
    | ref a => simp [cv_vb, Nat.blt] at h
    | _ => rfl
  have hid : fs.map (sv_v ρ) = fs := by
    have : fs.map (sv_v ρ) = fs.map id := List.map_congr_left fun v hv => by
      have h := List.all_eq_true.mp hnr v hv
      cases v with
      | ref a => simp [cv_vb, Nat.blt] at h
      | _ => rfl
    rw [this, List.map_id]
  refine va_new (ci := ci) (fs := fs) (C := C) (T := T) (N := N) hx0 hb hts g1 (sv_ty ci) g3 hown (hts _ w1) (hts _ w2) (hts _ w3) hK hP hD hS hA hcl hfs hc hs hd (fun q H1 hP1 hD1 hS1 => ?_)
  have hgr := cv_grow (ρ := ρ) (q := q) (x := .inr (ci, fs)) hw (List.all_eq_true.mpr fun v hv => hnr0 v hv _) cA
  have hee : sv_e ρ cA (.inr (ci, fs)) = .inr (ci, fs) := by
    show (.inr (ci, fs.map (sv_v ρ)) : va_E) = _
    rw [hid]
  rw [hee] at hgr
  have hgo := k (cv_x ρ cs.length q) H1 locs ls (by rw [hgr]; exact hP1) (by rw [hgr]; exact hD1) hS1 (by rw [cv_lo_of (cv_x_lt ρ cs.length q) hlo]; exact hl)
  rw [List.map_cons, cv_vs_of (cv_x_lt ρ cs.length q) hst] at hgo
  have e1 : sv_v (cv_x ρ cs.length q) (.ref cs.length) = .ref q := by
    show Value.ref (cv_x ρ cs.length q cs.length) = _
    rw [cv_x_at]
  rw [e1] at hgo
  exact hgo
theorem cl_dup (hB : cv_B p R s m args c D cA A own cc nL) {kc ks pc q : Nat} {lo : List (Nat × Value)} {st : List Value} {cs : List sv_C} (hd : decode cc pc = .ok (.dup, 1))
    (k : cl_J p l e R s m args below meth c Q D cA A nL b lo kc ks (pc + 1) (.ref q :: .ref q :: st) cs) : cl_J p l e R s m args below meth c Q D cA A nL b lo kc ks pc (.ref q :: st) cs := by
  intro ρ H locs ls hP hD hS hl
  obtain ⟨⟨hx, hb, hml, hown, hts⟩, hK, hA, hR⟩ := hB
  exact lv_dup hx hb hd rfl (k ρ H locs ls hP hD hS hl)
theorem cl_astore (hB : cv_B p R s m args c D cA A own cc nL) {kf : Fin 4} {kc ks pc q i : Nat} {lo : List (Nat × Value)} {st : List Value} {cs : List sv_C} (hd : decode cc pc = .ok (.astore_n kf, 1)) (hi : (kf : Nat) = i) (hn : i < nL) (hf : ∀ ρ : Nat → Nat, ((i, Value.ref (ρ q)) :: (((lo.map fun (q : Nat × Value) => ((q.1, sv_v ρ q.2) : Nat × Value)) ++ [((0, Value.ref b) : Nat × Value)]).filter (fun (q : Nat × Value) => !(q.1 == i) && !(q.1 + 1 == i && q.2.category == 2)))) = ((((i, Value.ref q) :: lo).map fun (q : Nat × Value) => ((q.1, sv_v ρ q.2) : Nat × Value)) ++ [((0, Value.ref b) : Nat × Value)]))
    (k : cl_J p l e R s m args below meth c Q D cA A nL b ((i, .ref q) :: lo) kc ks (pc + 1) st cs) : cl_J p l e R s m args below meth c Q D cA A nL b lo kc ks pc (.ref q :: st) cs := by
  intro ρ H locs ls hP hD hS hl
  obtain ⟨⟨hx, hb, hml, hown, hts⟩, hK, hA, hR⟩ := hB
  exact lv_astore_n hx hb hd hi hl hn (hf ρ) (fun ls' hl' => k ρ H locs ls' hP hD hS hl')
set_option maxHeartbeats 1000000 in
theorem cl_call (hB : cv_B p R s m args c D cA A own cc nL) (hN : ∀ w ∈ sv_nw, va_Nw w s) {lo : List (Nat × Value)} {kc ks pc i ci d mc ms : Nat} {y : MethodName} {bytes : ByteArray} {fs : List Value} {st : List Value} {cs0 CI : List sv_C} (hM : cv_Met l y bytes d ci fs CI mc ms) (hcode : Jvm.Cond.code y bytes 1 none ∈ sv_Ts) (hini : Jvm.Cond.initialized y.cls ∈ sv_Ts) (hinst : Jvm.Cond.instanceMethod y ∈ sv_Ts) (hlk : Jvm.Cond.methodLink own i y ∈ sv_Ts) (hy : y.name = "<init>") (hy2 : y.cls ≠ "java/lang/invoke/MethodHandle" ∧ y.cls ≠ "java/lang/invoke/VarHandle" ∧ (parseMethodDescriptor y.desc).map (fun d => d.parameters.length) = some 0)
    (hfr : d + 2 ≤ R.frames) (hlc : 100 * (d + 2) ≤ R.locals) (hc : kc + mc ≤ R.cells) (hs : ks + ms ≤ R.slots) (hd : decode cc pc = .ok (.invokespecial i, 3)) (hnr : fs.all (cv_vb 0) = true) (hw : cs0.all (cv_cb cs0.length) = true) (hst : st.all (cv_vb (cs0.length + 1)) = true) (hct : Nat.ble (sv_cat st) 8 = true) (hlo : lo.all (fun q => cv_vb (cs0.length + 1) q.2) = true) {cs' : List sv_C} (hcs : cs0 ++ CI.map (sv_r (fun i => cs0.length + i)) = cs')
    (k : cl_J p l e R s m args below meth c Q D cA A nL b lo (kc + mc) (ks + ms) (pc + 3) st cs') : cl_J p l e R s m args below meth c Q D cA A nL b lo kc ks pc (.ref cs0.length :: st) (cs0 ++ [.inr (ci, fs)]) := by
  subst hcs
  intro ρ H locs ls hP hD hS hl
  obtain ⟨⟨hx, hb, hml, hown, hts⟩, hK, hA, hR1, hR2⟩ := hB
  have hid : fs.map (sv_v ρ) = fs := by
    have : fs.map (sv_v ρ) = fs.map id := List.map_congr_left fun v hv => by
      have h := List.all_eq_true.mp hnr v hv
      cases v with
      | ref a => simp [cv_vb, Nat.blt] at h
      | _ => rfl
    rw [this, List.map_id]
  have hlw : (sv_w ρ cA (cs0 ++ [.inr (ci, fs)])).length = cs0.length + 1 := by simp [sv_w]
  have hat : (sv_w ρ cA (cs0 ++ [.inr (ci, fs)]))[cs0.length]? = some (ρ cs0.length, .inr (ci, fs)) := by
    rw [sv_w_get, List.getElem?_append_right (Nat.le_refl _), Nat.sub_self]
    show some (ρ cs0.length, (.inr (ci, fs.map (sv_v ρ)) : va_E)) = _
    rw [hid]
  have hC : [cs0.length].map (fun i => (sv_w ρ cA (cs0 ++ [.inr (ci, fs)]))[i]?) = [(ρ cs0.length, (.inr (ci, fs) : va_E))].map some := by
    simp only [List.map_cons, List.map_nil, hat]
  have hF := va_free hD hS hA [cs0.length] hC
  have hPc := hP.sub [cs0.length] (sv_fm _ _ _ hC)
  have hDc := hD.sub [cs0.length] rfl hC
  have hmet := hM D cA (ρ cs0.length) H.size
  have hrm : 8 + (1 + 11) + (cv_room d mc ms).locals ≤ R.locals := by
    show 8 + (1 + 11) + 100 * (d + 1) ≤ R.locals
    omega
  have hrf : (cv_room d mc ms).frames + 1 ≤ R.frames := by
    show d + 1 + 1 ≤ R.frames
    omega
  have hca : (((st.map (sv_v ρ)).map fun v => v.category).sum) ≤ 8 := by rw [sv_cat_eq, sv_cat_v]; exact Nat.le_of_ble_eq_true hct
  have hGI : GoodIn sv_Ts (Jvm.Cond.code y bytes 1 none :: sv_Ts) := by
    intro w hw
    have hw2 : w ∈ sv_Ts := by
      rcases List.mem_cons.mp hw with rfl | h2
      · exact hcode
      · exact h2
    exact ⟨hw2, good_of_word (List.mem_filter.mp hw2).2⟩
  have hpre : PreS s H (va_Pc [.ref (ρ cs0.length)] (fun U => U.heap.size = H.size ∧ va_P D vwCl [(ρ cs0.length, .inr (ci, fs))] U.heap ∧ va_K D vwCl (sv_t cA) U ∧ va_D (fun _ => True) [(ρ cs0.length, .inr (ci, fs))] ∧ ∀ w ∈ sv_nw, va_Nw w U)) (.ref (ρ cs0.length) :: []) := by
    refine ⟨fun a U g mk q => ?_, fun U hU hW => ⟨rfl, by rw [hU], by rw [hU]; exact hPc, va_K.moved hW.alike hK, hDc.weaken (fun _ _ _ _ => trivial), cv_Nw hN hW⟩⟩
    obtain ⟨q0, q1, qP, qK, qD, qN⟩ := q
    exact ⟨q0, q1, qP, va_K.moved (u := U) (U := U.calling g mk a) (Vm.Alike.refl U.vm) qK, qD, cv_Nw_same (U := U.calling g mk a) qN rfl⟩
  have hr : ∃ a : Array Value, va_Run p l e R s m args below meth c H locs kc ks mc ms (F0 m pc ls ((Value.ref cs0.length :: st).map (sv_v ρ))) (st.map (sv_v ρ)) ((fun _ st oc t => (oc = .returned none ∧ ∃ ρc : Nat → Nat, ρc 0 = ρ cs0.length ∧ va_P D vwCl (sv_w ρc cA CI) t.heap ∧ va_D (va_A [(ρ cs0.length, .inr (ci, fs))] H.size) (sv_w ρc cA CI)) ∧ va_F (va_A [(ρ cs0.length, .inr (ci, fs))] H.size) st t) a) (va_A [(ρ cs0.length, .inr (ci, fs))] H.size) :=
    ⟨#[], va_runI (As := []) (rest := st.map (sv_v ρ)) ⟨hx, hb, hml, hown, hts⟩ hmet ⟨callB_of 0 hts hGI rfl rfl rfl (hts _ hini) (hts _ hlk) hy2 ⟨hrf, hrm⟩, hy, hts _ hinst⟩ hpre rfl rfl hl.1 rfl (lv_room hca) hd ⟨hc, hs⟩⟩
  obtain ⟨aa, hr⟩ := hr
  intro T hT X
  obtain ⟨v, st₀, t, T', L, e0, X', hL, e1, e2, ⟨⟨hv, ρc, hρ0, hP1, hD1⟩, hz, hk⟩, stp⟩ := hr T hT X
  cases hv
  rw [e0] at hz hk
  rw [← e1] at hP1 hz hk
  have hS1 : va_S A s.heap T'.heap (locs ++ L) := by
    refine ⟨Nat.le_trans hS.1 hz, fun q h1 h2 => ?_, fun q hq => ?_⟩
    · have hq := Nat.lt_of_lt_of_le h1 hS.1
      rw [hk q hq (fun z => h2 (hF q z))]
      exact hS.2.1 q h1 h2
    · rcases List.mem_append.mp hq with h | h
      · exact hS.2.2 q h
      · exact hF _ (hL q h)
  have htk : (sv_w ρ cA (cs0 ++ [.inr (ci, fs)])).take cs0.length = sv_w ρ cA cs0 := by
    rw [cv_w_app, List.take_append_of_le_length (by simp [sv_w])]
    rw [List.take_of_length_le (by simp [sv_w])]
  have hRr := cv_rng (sv_w ρ cA (cs0 ++ [.inr (ci, fs)])) cs0.length (by omega)
  rw [htk] at hRr
  obtain ⟨hPj, hDj⟩ := va_join hP hD [cs0.length] (List.range cs0.length) hC hRr (cv_nd _) (fun i hi h => by
    have h1 := List.mem_range.mp hi
    simp only [List.mem_singleton] at h
    omega) hk hF hP1 hD1
  let ρ' : Nat → Nat := fun i => if i < cs0.length then ρ i else ρc (i - cs0.length)
  have hρ : ∀ i, i < cs0.length + 1 → ρ' i = ρ i := by
    intro i hi
    show (if i < cs0.length then ρ i else ρc (i - cs0.length)) = ρ i
    by_cases h : i < cs0.length
    · rw [if_pos h]
    · rw [if_neg h]
      have : i = cs0.length := by omega
      subst this
      rw [Nat.sub_self, hρ0]
  have hρ2 : (fun j => ρ' (cs0.length + j)) = ρc := by
    funext j
    show (if cs0.length + j < cs0.length then ρ (cs0.length + j) else ρc (cs0.length + j - cs0.length)) = ρc j
    rw [if_neg (by omega), Nat.add_sub_cancel_left]
  have heq : sv_w ρ' cA (cs0 ++ CI.map (sv_r (fun i => cs0.length + i))) = sv_w ρ cA cs0 ++ sv_w ρc cA CI := by
    rw [cv_w_app, cv_w_of (fun i hi => hρ i (by omega)) cA (Nat.le_refl _) hw]
    congr 1
    apply List.ext_getElem?
    intro j
    rw [List.getElem?_mapIdx, List.getElem?_map, sv_w_get]
    cases CI[j]? with
    | none => rfl
    | some x =>
      show some (ρ' (cs0.length + j), sv_e ρ' cA (sv_r (fun i => cs0.length + i) x)) = some (ρc j, sv_e ρc cA x)
      rw [sv_e_r, hρ2, ← congrFun hρ2 j]
  have hgo := k ρ' T'.heap (locs ++ L) ls (by rw [heq]; exact hPj) (by rw [heq]; exact hDj) hS1 (by rw [cv_lo_of hρ hlo]; exact hl)
  rw [cv_vs_of hρ hst] at hgo
  obtain ⟨t2, a1, b1⟩ := hgo T' rfl X'
  exact ⟨t2, stp t2 a1, b1⟩
/-- the cells once both objects are made -/
def kd_L : List cd := CJ_K ++ CJ_Mo.map (cd_r (fun i => CJ_K.length + i))
set_option maxRecDepth 100000 in
theorem cl_law (hB : cv_B p room_1 s m args c D cA A "KeptApartLaw" code 4) (hN : ∀ w ∈ sv_nw, va_Nw w s)
    (k : cl_J p l e room_1 s m args below meth c Q D cA A 4 b [(2, .ref (cds CJ_K).length), (1, .ref 0)] 90 6171 16 [] (cds kd_L)) : cl_J p l e room_1 s m args below meth c Q D cA A 4 b [] 0 0 0 [] [] := by
  refine cl_newo hB (ci := 11) (fs := [.null, .null, .null, .null, .null, .null, .null, .int 0]) (kc := 0) (ks := 0) (cs := []) rfl (by decide +kernel) rfl (by decide +kernel : decode code 0 = .ok (.new 7, 3)) (sv_tm (j := 152) (by decide +kernel) (by decide +kernel)) (sv_tm (j := 153) (by decide +kernel) (by decide +kernel)) (sv_tm (j := 131) (by decide +kernel) (by decide +kernel)) (Nat.le_of_ble_eq_true rfl) (Nat.le_of_ble_eq_true rfl) rfl rfl rfl ?_
  refine cl_dup hB (by decide +kernel : decode code 3 = .ok (.dup, 1)) ?_
  refine cl_call hB hN (cs0 := []) (CI := cds CJ_K) (cs' := cds CJ_K) (kc := 1) (ks := 8) (cM_K l) (sv_tm (j := 156) (by decide +kernel) (by decide +kernel)) (sv_tm (j := 131) (by decide +kernel) (by decide +kernel)) (sv_tm (j := 155) (by decide +kernel) (by decide +kernel)) (sv_tm (j := 154) (by decide +kernel) (by decide +kernel)) rfl (by decide +kernel) (Nat.le_of_ble_eq_true rfl) (Nat.le_of_ble_eq_true rfl) (Nat.le_of_ble_eq_true rfl) (Nat.le_of_ble_eq_true rfl) (by decide +kernel : decode code 4 = .ok (.invokespecial 9, 3)) rfl rfl rfl rfl rfl ?_ ?_
  · rw [cds_r]
    exact congrArg cds (show CJ_K.map (cd_r (fun i => 0 + i)) = CJ_K by decide +kernel)
  refine cl_astore hB (i := 1) (by decide +kernel : decode code 7 = .ok (.astore_n 1, 1)) rfl (by decide) (fun ρ => rfl) ?_
  refine cl_newo hB (ci := 12) (fs := [.int 0, .int 0, .null, .null, .null, .int 0, .int 0, .null, .null, .null, .null, .int 0, .null, .null, .int 0, .int 0, .int 0, .int 0, .int 0, .int 0, .int 0, .int 0, .int 0, .null, .int 0, .int 0, .int 0, .int 0, .null, .null, .int 0, .null, .int 0, .null, .null, .int 0, .int 0, .int 0, .null, .int 0, .null, .null, .null, .null, .null, .null, .int 0]) (kc := 67) (ks := 3189) (cs := cds CJ_K) rfl (by decide +kernel) rfl (by decide +kernel : decode code 8 = .ok (.new 10, 3)) (sv_tm (j := 1580) (by decide +kernel) (by decide +kernel)) (sv_tm (j := 1581) (by decide +kernel) (by decide +kernel)) (sv_tm (j := 143) (by decide +kernel) (by decide +kernel)) (Nat.le_of_ble_eq_true rfl) (Nat.le_of_ble_eq_true rfl) (by rw [cds_b, cds_len]; decide +kernel) rfl (by rw [cds_len]; decide +kernel) ?_
  refine cl_dup hB (by decide +kernel : decode code 11 = .ok (.dup, 1)) ?_
  refine cl_call hB hN (cs0 := cds CJ_K) (CI := cds CJ_Mo) (cs' := cds kd_L) (kc := 68) (ks := 3236) (CE_Mo ▸ cM_Mo l) (sv_tm (j := 1584) (by decide +kernel) (by decide +kernel)) (sv_tm (j := 143) (by decide +kernel) (by decide +kernel)) (sv_tm (j := 1583) (by decide +kernel) (by decide +kernel)) (sv_tm (j := 1582) (by decide +kernel) (by decide +kernel)) rfl (by decide +kernel) (Nat.le_of_ble_eq_true rfl) (Nat.le_of_ble_eq_true rfl) (Nat.le_of_ble_eq_true rfl) (Nat.le_of_ble_eq_true rfl) (by decide +kernel : decode code 12 = .ok (.invokespecial 12, 3)) rfl (by rw [cds_b, cds_len]; decide +kernel) (by rw [cds_len]; decide +kernel) rfl (by rw [cds_len]; decide +kernel) ?_ ?_
  · unfold kd_L
    rw [cds_r, cds_len, cds_app]
  refine cl_astore hB (i := 2) (by decide +kernel : decode code 15 = .ok (.astore_n 2, 1)) rfl (by decide) (fun ρ => rfl) ?_
  exact k
end CL
