/-! ===== constructors: their contracts, and calls of them ===== -/
def cv_room (d mc ms : Nat) : Room := { frames := d + 1, cells := mc, slots := ms, locals := 100 * (d + 1) }
/-- a constructor, on a new object: the object and what it makes are the cells CI then -/
def cv_Met (l : Launch) (y : MethodName) (bytes : ByteArray) (d ci : Nat) (fs : List Value) (CI : List sv_C) (mc ms : Nat) : Prop :=
  ∀ (D : va_G) (cA : Nat → ClassId) (h0 sz : Nat), Met l y (Jvm.Cond.code y bytes 1 none :: sv_Ts) (cv_room d mc ms)
    (va_Pc [.ref h0] (fun U => U.heap.size = sz ∧ va_P D vwCl [(h0, .inr (ci, fs))] U.heap ∧ va_K D vwCl (sv_t cA) U ∧ va_D (fun _ => True) [(h0, .inr (ci, fs))] ∧ ∀ w ∈ sv_nw, va_Nw w U))
    (fun _ st oc t => (oc = .returned none ∧ ∃ ρ : Nat → Nat, ρ 0 = h0 ∧ va_P D vwCl (sv_w ρ cA CI) t.heap ∧ va_D (va_A [(h0, .inr (ci, fs))] sz) (sv_w ρ cA CI)) ∧ va_F (va_A [(h0, .inr (ci, fs))] sz) st t) mc ms (va_A [(h0, .inr (ci, fs))] sz)
theorem cv_Nw {s U : State} (h : ∀ w ∈ sv_nw, va_Nw w s) (hW : s.WarmedH U.vm) : ∀ w ∈ sv_nw, va_Nw w U := by
  intro w hw
  obtain ⟨a, i, x, hh, rfl⟩ := sv_nw_ok w hw
  exact va_Nw.warmM hW (h _ hw)
theorem cv_Nw_same {s U : State} (h : ∀ w ∈ sv_nw, va_Nw w s) (hv : s.vm = U.vm) : ∀ w ∈ sv_nw, va_Nw w U := by
  intro w hw
  have h2 := h w hw
  obtain ⟨a, i, x, hh, rfl⟩ := sv_nw_ok w hw
  exact va_Nw.same rfl hv h2
theorem cv_rng (ws : va_W) (n : Nat) (hn : n ≤ ws.length) : (List.range n).map (fun i => ws[i]?) = (ws.take n).map some := by
  apply List.ext_getElem?
  intro k
  rw [List.getElem?_map, List.getElem?_map, List.getElem?_take]
  by_cases hk : k < n
  · rw [List.getElem?_range hk, if_pos hk]
    rw [List.getElem?_eq_getElem (by omega)]
    simp
  · rw [if_neg hk, List.getElem?_eq_none (by simp; omega)]
    rfl
theorem cv_nd : ∀ n : Nat, va_nd (List.range n) = true := by
  intro n
  have key : ∀ l : List Nat, l.Nodup → va_nd l = true := by
    intro l
    induction l with
    | nil => intro _; rfl
    | cons a l ih =>
      intro h
      obtain ⟨h1, h2⟩ := List.nodup_cons.mp h
      simp only [va_nd, Bool.and_eq_true, decide_eq_true_eq]
      exact ⟨h1, ih h2⟩
  exact key _ List.nodup_range
section CV2
variable {p : Program} {l : Launch} {e : Env} {R : Room} {s : State} {m : MethodId} {args : Array Value} {below : List Frame} {meth : Method} {c : Code} {Q : State → Prop}
variable {D : va_G} {cA : Nat → ClassId} {A : Nat → Prop} {h0 : Option Nat} {nL : Nat} {own : String} {cc : ByteArray}
set_option maxHeartbeats 1000000 in
theorem cv_call (hB : cv_B p R s m args c D cA A own cc nL) (hN : ∀ w ∈ sv_nw, va_Nw w s) {lo : List (Nat × Value)} {kc ks pc i ci d mc ms : Nat} {y : MethodName} {bytes : ByteArray} {fs : List Value} {st : List Value} {cs0 CI : List sv_C} (hM : cv_Met l y bytes d ci fs CI mc ms) (hcode : Jvm.Cond.code y bytes 1 none ∈ sv_Ts) (hini : Jvm.Cond.initialized y.cls ∈ sv_Ts) (hinst : Jvm.Cond.instanceMethod y ∈ sv_Ts) (hlink : Jvm.Cond.methodLink own i y ∈ sv_Ts ∨ ∃ host : String, Jvm.Cond.methodLinkNest own i y host ∈ sv_nw) (hy : y.name = "<init>") (hy2 : y.cls ≠ "java/lang/invoke/MethodHandle" ∧ y.cls ≠ "java/lang/invoke/VarHandle" ∧ (parseMethodDescriptor y.desc).map (fun d => d.parameters.length) = some 0)
    (hfr : d + 2 ≤ R.frames) (hlc : 100 * (d + 2) ≤ R.locals) (hc : kc + mc ≤ R.cells) (hs : ks + ms ≤ R.slots) (hd : decode cc pc = .ok (.invokespecial i, 3)) (hnr : fs.all (cv_vb 0) = true) (hw : cs0.all (cv_cb cs0.length) = true) (hst : st.all (cv_vb (cs0.length + 1)) = true) (hct : Nat.ble (sv_cat st) 8 = true) (hlo : lo.all (fun q => cv_vb (cs0.length + 1) q.2) = true) {cs' : List sv_C} (hcs : cs0 ++ CI.map (sv_r (fun i => cs0.length + i)) = cs')
    (k : cv_J p l e R s m args below meth c Q D cA A h0 nL lo (kc + mc) (ks + ms) (pc + 3) st cs') : cv_J p l e R s m args below meth c Q D cA A h0 nL lo kc ks pc (.ref cs0.length :: st) (cs0 ++ [.inr (ci, fs)]) := by
  subst hcs
  intro ρ H locs ls hg hP hD hS hl
  obtain ⟨⟨hx, hb, hml, hown, hts⟩, hK, hA, hR1, hR2⟩ := hB
  have hid : fs.map (sv_v ρ) = fs := by
    have : fs.map (sv_v ρ) = fs.map id := List.map_congr_left fun v hv => by
      have h := List.all_eq_true.mp hnr v hv
      cases v with
      | ref a => simp [cv_vb, Nat.blt] at h
      | _ => rfl
    rw [this, List.map_id]
  have hlw : (sv_w ρ cA (cs0 ++ [.inr (ci, fs)])).length = cs0.length + 1 := by simp [sv_w]
  have hat : (sv_w ρ cA (cs0 ++ [.inr (ci, fs)]))[cs0.length]? = some (ρ cs0.length, .inr (ci, fs)) := by
    rw [sv_w_get, List.getElem?_append_right (Nat.le_refl _), Nat.sub_self]
    show some (ρ cs0.length, (.inr (ci, fs.map (sv_v ρ)) : va_E)) = _
    rw [hid]
  have hC : [cs0.length].map (fun i => (sv_w ρ cA (cs0 ++ [.inr (ci, fs)]))[i]?) = [(ρ cs0.length, (.inr (ci, fs) : va_E))].map some := by
    simp only [List.map_cons, List.map_nil, hat]
  have hF := va_free hD hS hA [cs0.length] hC
  have hPc := hP.sub [cs0.length] (sv_fm _ _ _ hC)
  have hDc := hD.sub [cs0.length] rfl hC
  have hmet := hM D cA (ρ cs0.length) H.size
  have hrm : 8 + (1 + 11) + (cv_room d mc ms).locals ≤ R.locals := by
    show 8 + (1 + 11) + 100 * (d + 1) ≤ R.locals
    omega
  have hrf : (cv_room d mc ms).frames + 1 ≤ R.frames := by
    show d + 1 + 1 ≤ R.frames
    omega
  have hca : (((st.map (sv_v ρ)).map fun v => v.category).sum) ≤ 8 := by rw [sv_cat_eq, sv_cat_v]; exact Nat.le_of_ble_eq_true hct
  have hGI : GoodIn sv_Ts (Jvm.Cond.code y bytes 1 none :: sv_Ts) := by
    intro w hw
    have hw2 : w ∈ sv_Ts := by
      rcases List.mem_cons.mp hw with rfl | h2
      · exact hcode
      · exact h2
    exact ⟨hw2, good_of_word (List.mem_filter.mp hw2).2⟩
  have hpre : PreS s H (va_Pc [.ref (ρ cs0.length)] (fun U => U.heap.size = H.size ∧ va_P D vwCl [(ρ cs0.length, .inr (ci, fs))] U.heap ∧ va_K D vwCl (sv_t cA) U ∧ va_D (fun _ => True) [(ρ cs0.length, .inr (ci, fs))] ∧ ∀ w ∈ sv_nw, va_Nw w U)) (.ref (ρ cs0.length) :: []) := by
    refine ⟨fun a U g mk q => ?_, fun U hU hW => ⟨rfl, by rw [hU], by rw [hU]; exact hPc, va_K.moved hW.alike hK, hDc.weaken (fun _ _ _ _ => trivial), cv_Nw hN hW⟩⟩
    obtain ⟨q0, q1, qP, qK, qD, qN⟩ := q
    exact ⟨q0, q1, qP, va_K.moved (u := U) (U := U.calling g mk a) (Vm.Alike.refl U.vm) qK, qD, cv_Nw_same (U := U.calling g mk a) qN rfl⟩
  have hr : ∃ a : Array Value, va_Run p l e R s m args below meth c H locs kc ks mc ms (F0 m pc ls ((Value.ref cs0.length :: st).map (sv_v ρ))) (st.map (sv_v ρ)) ((fun _ st oc t => (oc = .returned none ∧ ∃ ρc : Nat → Nat, ρc 0 = ρ cs0.length ∧ va_P D vwCl (sv_w ρc cA CI) t.heap ∧ va_D (va_A [(ρ cs0.length, .inr (ci, fs))] H.size) (sv_w ρc cA CI)) ∧ va_F (va_A [(ρ cs0.length, .inr (ci, fs))] H.size) st t) a) (va_A [(ρ cs0.length, .inr (ci, fs))] H.size) := by
    rcases hlink with hlk | ⟨host, hlk⟩
    · exact ⟨#[], va_runI (As := []) (rest := st.map (sv_v ρ)) ⟨hx, hb, hml, hown, hts⟩ hmet ⟨callB_of 0 hts hGI rfl rfl rfl (hts _ hini) (hts _ hlk) hy2 ⟨hrf, hrm⟩, hy, hts _ hinst⟩ hpre rfl rfl hl.1 rfl (lv_room hca) hd ⟨hc, hs⟩⟩
    · exact ⟨#[], va_runIN (As := []) (rest := st.map (sv_v ρ)) ⟨hx, hb, hml, hown, hts⟩ hmet ⟨va_cnB 0 hts hGI rfl rfl rfl (hN _ hlk) (hts _ hini) hy2 ⟨hrf, hrm⟩, hy, hts _ hinst⟩ hpre rfl rfl hl.1 rfl (lv_room hca) hd ⟨hc, hs⟩⟩
  obtain ⟨aa, hr⟩ := hr
  intro T hT X
  obtain ⟨v, st₀, t, T', L, e0, X', hL, e1, e2, ⟨⟨hv, ρc, hρ0, hP1, hD1⟩, hz, hk⟩, stp⟩ := hr T hT X
  cases hv
  rw [e0] at hz hk
  rw [← e1] at hP1 hz hk
  have hS1 : va_S A s.heap T'.heap (locs ++ L) := by
    refine ⟨Nat.le_trans hS.1 hz, fun q h1 h2 => ?_, fun q hq => ?_⟩
    · have hq := Nat.lt_of_lt_of_le h1 hS.1
      rw [hk q hq (fun z => h2 (hF q z))]
      exact hS.2.1 q h1 h2
    · rcases List.mem_append.mp hq with h | h
      · exact hS.2.2 q h
      · exact hF _ (hL q h)
  have htk : (sv_w ρ cA (cs0 ++ [.inr (ci, fs)])).take cs0.length = sv_w ρ cA cs0 := by
    rw [cv_w_app, List.take_append_of_le_length (by simp [sv_w])]
    rw [List.take_of_length_le (by simp [sv_w])]
  have hRr := cv_rng (sv_w ρ cA (cs0 ++ [.inr (ci, fs)])) cs0.length (by omega)
  rw [htk] at hRr
  obtain ⟨hPj, hDj⟩ := va_join hP hD [cs0.length] (List.range cs0.length) hC hRr (cv_nd _) (fun i hi h => by
    have h1 := List.mem_range.mp hi
    simp only [List.mem_singleton] at h
    omega) hk hF hP1 hD1
  let ρ' : Nat → Nat := fun i => if i < cs0.length then ρ i else ρc (i - cs0.length)
  have hρ : ∀ i, i < cs0.length + 1 → ρ' i = ρ i := by
    intro i hi
    show (if i < cs0.length then ρ i else ρc (i - cs0.length)) = ρ i
    by_cases h : i < cs0.length
    · rw [if_pos h]
    · rw [if_neg h]
      have : i = cs0.length := by omega
      subst this
      rw [Nat.sub_self, hρ0]
  have hρ2 : (fun j => ρ' (cs0.length + j)) = ρc := by
    funext j
    show (if cs0.length + j < cs0.length then ρ (cs0.length + j) else ρc (cs0.length + j - cs0.length)) = ρc j
    rw [if_neg (by omega), Nat.add_sub_cancel_left]
  have heq : sv_w ρ' cA (cs0 ++ CI.map (sv_r (fun i => cs0.length + i))) = sv_w ρ cA cs0 ++ sv_w ρc cA CI := by
    rw [cv_w_app, cv_w_of (fun i hi => hρ i (by omega)) cA (Nat.le_refl _) hw]
    congr 1
    apply List.ext_getElem?
    intro j
    rw [List.getElem?_mapIdx, List.getElem?_map, sv_w_get]
    cases CI[j]? with
    | none => rfl
    | some x =>
      show some (ρ' (cs0.length + j), sv_e ρ' cA (sv_r (fun i => cs0.length + i) x)) = some (ρc j, sv_e ρc cA x)
      rw [sv_e_r, hρ2, ← congrFun hρ2 j]
  have hgo := k ρ' T'.heap (locs ++ L) ls (fun a ha => by rw [hρ 0 (by omega)]; exact hg a ha) (by rw [heq]; exact hPj) (by rw [heq]; exact hDj) hS1 (by rw [cv_lo_of hρ hlo]; exact hl)
  rw [cv_vs_of hρ hst] at hgo
  obtain ⟨t2, a1, b1⟩ := hgo T' rfl X'
  exact ⟨t2, stp t2 a1, b1⟩
end CV2
/-- a constructor's contract out of its rows -/
theorem cv_met {l : Launch} {y : MethodName} {bytes : ByteArray} {d ci : Nat} {fs : List Value} {CI : List sv_C} {mc ms pcr : Nat} (hp : plainName y.cls = true) (hnr : fs.all (cv_vb 0) = true) (hdr : decode bytes pcr = .ok (.return_, 1)) (hyn : y.name = "<init>")
    (h : ∀ (p : Program) (e : Env) (s : State) (m : MethodId) (args : Array Value) (below : List Frame) (meth : Method) (c : Code) (Q : State → Prop) (D : va_G) (cA : Nat → ClassId) (A : Nat → Prop) (h0 : Nat), cv_B p (cv_room d mc ms) s m args c D cA A y.cls bytes 1 → meth.name = "<init>" → (∀ w ∈ sv_nw, va_Nw w s) → cv_J p l e (cv_room d mc ms) s m args below meth c Q D cA A (some h0) 1 [(0, .ref 0)] mc ms pcr [] CI → cv_J p l e (cv_room d mc ms) s m args below meth c Q D cA A (some h0) 1 [(0, .ref 0)] 0 0 0 [] [.inr (ci, fs)]) : cv_Met l y bytes d ci fs CI mc ms := by
  intro D cA h0 sz
  refine Met.ofW (cc := bytes) (maxL := 1) (ret := none) hp rfl ?_
  intro p e s m args below meth c s₁ B hml hv
  obtain ⟨rfl, hsz, hP, hK, hD0, hN⟩ := hv
  have hts := atoms_spec (ws := Jvm.Cond.code y bytes 1 none :: sv_Ts) B.pre
  have hlocks := B.notSynchronized
  have hr := B.returns
  have hin : meth.name = "<init>" := by rw [(name_of_methodNamed B.named B.method).1]; exact hyn
  subst hsz
  have hD := hD0.self (sz := s.heap.size)
  have hB : cv_B p (cv_room d mc ms) s m ([Value.ref h0] : List Value).toArray c D cA (va_A [(h0, .inr (ci, fs))] s.heap.size) y.cls bytes 1 :=
    ⟨⟨B.exec, B.bytes, hml, findClass_of_methodNamed B.named, fun w hw => hts w (List.mem_cons_of_mem _ hw)⟩, hK, fun q h => Or.inr h, by show 1 ≤ d + 1; omega, by show 100 ≤ 100 * (d + 1); omega⟩
  rw [lg_entry_eq]
  have hl := lv_entry ([.ref h0]) (n := 1) (Nat.le_of_ble_eq_true rfl)
  have hid : fs.map (sv_v (fun _ => h0)) = fs := by
    have : fs.map (sv_v (fun _ => h0)) = fs.map id := List.map_congr_left fun v hv => by
      have h := List.all_eq_true.mp hnr v hv
      cases v with
      | ref a => simp [cv_vb, Nat.blt] at h
      | _ => rfl
    rw [this, List.map_id]
  have hww : sv_w (fun _ => h0) cA [.inr (ci, fs)] = [(h0, .inr (ci, fs))] := by
    show [(h0, (.inr (ci, fs.map (sv_v (fun _ => h0))) : va_E))] = _
    rw [hid]
  refine h p e s m _ below meth c _ D cA _ h0 hB hin hN ?_ (fun _ => h0) s.heap [] _ (fun a ha => Option.some.inj ha) (by rw [hww]; exact hP) (by rw [hww]; exact hD) va_S.rf hl
  intro ρ H locs ls hg hP hD hS hl
  exact W.vret B.exec B.bytes hr (fun t ht hW => ⟨⟨rfl, ρ, hg h0 rfl, by rw [ht]; exact hP, hD⟩, hS.F ht⟩) hS.2.2 hdr
