/-! ===== contracts of the small machine, and that they are the machine's ===== -/
def sv_room (d : Nat) : Room := { frames := d + 1, cells := 0, slots := 0, locals := 100 * (d + 1) }
def sv_ws (M : sv_M) : List Jvm.Cond := Jvm.Cond.code M.1 M.2.1 M.2.2.1 M.2.2.2.1 :: sv_Ts
/-- method M, called with these arguments on these cells, answers v, and the cells are cs' then -/
def sv_Met (X : Nat × (Nat → Int32)) (nw : List Jvm.Cond) (l : Launch) (d : Nat) (M : sv_M) (av : List Value) (cs : List sv_C) (v : Option Value) (cs' : List sv_C) : Prop :=
  ∀ (D : va_G) (cA : Nat → ClassId) (ρ : Nat → Nat) (sz : Nat), Met l M.1 (sv_ws M) (sv_room d)
    (va_Pc (av.map (sv_v ρ)) (fun U => U.heap.size = sz ∧ va_P D vwCl (sv_w ρ cA cs) U.heap ∧ va_K D vwCl (sv_t cA) U ∧ va_D (fun _ => True) (sv_w ρ cA cs) ∧ sv_E X nw ρ (va_A (sv_w ρ cA cs) sz) U U.heap))
    (fun _ st oc t => (oc = .returned (v.map (sv_v ρ)) ∧ va_P D vwCl (sv_w ρ cA cs') t.heap) ∧ va_F (va_A (sv_w ρ cA cs) sz) st t) 0 0 (va_A (sv_w ρ cA cs) sz)
def sv_rcv (cs : List sv_C) (y : MethodName) (b : Nat) : Prop := (∃ (ci : Nat) (fs : List Value) (q : vw_C), sv_n cs b = some (.inr (ci, fs)) ∧ vwCl[ci]? = some q ∧ q.1 = y.cls) ∨ ∃ k : Nat, k < 19 ∧ b = 1000 + k ∧ y.cls = "java/lang/String"
def sv_lnk (nw : List Jvm.Cond) (own : String) (i : Nat) (M : sv_M) (n : Nat) : Prop :=
  (M.1.cls ≠ "java/lang/invoke/MethodHandle" ∧ M.1.cls ≠ "java/lang/invoke/VarHandle" ∧ (parseMethodDescriptor M.1.desc).map (fun d => d.parameters.length) = some n) ∧
  Jvm.Cond.code M.1 M.2.1 M.2.2.1 M.2.2.2.1 ∈ sv_Ts ∧ Jvm.Cond.initialized M.1.cls ∈ sv_Ts ∧ M.2.2.1 ≤ 60 ∧
  (Jvm.Cond.methodLink own i M.1 ∈ sv_Ts ∨ ∃ host : String, Jvm.Cond.methodLinkNest own i M.1 host ∈ nw)
def sv_lnkV (nw : List Jvm.Cond) (own : String) (i : Nat) (M : sv_M) (n : Nat) : Prop := sv_lnk nw own i M n ∧ Jvm.Cond.instanceMethod M.1 ∈ sv_Ts ∧ Jvm.Cond.selects M.1.cls M.1 M.1 ∈ sv_Ts
def sv_lnkS (nw : List Jvm.Cond) (own : String) (i : Nat) (M : sv_M) (n : Nat) : Prop := sv_lnk nw own i M n ∧ Jvm.Cond.static M.1 ∈ sv_Ts
theorem sv_goodIn (M : sv_M) (h : Jvm.Cond.code M.1 M.2.1 M.2.2.1 M.2.2.2.1 ∈ sv_Ts) : GoodIn sv_Ts (sv_ws M) := by
  intro w hw
  have hw2 : w ∈ sv_Ts := by
    rcases List.mem_cons.mp hw with rfl | h2
    · exact h
    · exact h2
  exact ⟨hw2, good_of_word (List.mem_filter.mp hw2).2⟩
section SVCall
variable {p : Program} {l : Launch} {e : Env} {R : Room} {s : State} {m : MethodId} {args : Array Value} {below : List Frame} {meth : Method} {c : Code} {cells slots : Nat} {Q : State → Prop}
variable {D : va_G} {cA : Nat → ClassId} {ρ : Nat → Nat} {A : Nat → Prop}
theorem sv_blind {X : Nat × (Nat → Int32)} {nw : List Jvm.Cond} (hn : ∀ w ∈ nw, sv_isN w) {av : List Value} {cs : List sv_C} {sz : Nat} : FrameBlind (va_Pc av (fun U => U.heap.size = sz ∧ va_P D vwCl (sv_w ρ cA cs) U.heap ∧ va_K D vwCl (sv_t cA) U ∧ va_D (fun _ => True) (sv_w ρ cA cs) ∧ sv_E X nw ρ (va_A (sv_w ρ cA cs) sz) U U.heap)) := by
  intro a U g mk q
  obtain ⟨q0, q1, qP, qK, qD, qE⟩ := q
  exact ⟨q0, q1, qP, va_K.moved (u := U) (U := U.calling g mk a) (Vm.Alike.refl U.vm) qK, qD, sv_E.same (U := U.calling g mk a) hn qE rfl rfl⟩
/-- behind a call -/
theorem sv_behind {X : Nat × (Nat → Int32)} {nw : List Jvm.Cond} {M : sv_M} (hB : sv_B X nw p R s m args c cells slots D cA ρ A M) {pc : Nat} {lo : List (Option Value)} {st rest : List Value} {cs cs1 cs2 : List sv_C} {ps : List Nat} {rv : Option Value} {H : Heap} {locs : List Loc} {ls : Array Slot} {a : Array Value}
    (hP : va_P D vwCl (sv_w ρ cA cs) H) (hD : va_D A (sv_w ρ cA cs)) (hS : va_S A s.heap H locs) (hl : sv_has ρ ls M.2.2.1 lo) (hs : sv_sub ps cs cs1) (hlen : cs2.length = cs1.length)
    (hr : va_Run p l e R s m args below meth c H locs cells slots 0 0 (F0 m pc ls st) (rest.map (sv_v ρ)) ((fun _ st oc t => (oc = .returned (rv.map (sv_v (fun i => ρ (sv_pi ps i)))) ∧ va_P D vwCl (sv_w (fun i => ρ (sv_pi ps i)) cA cs2) t.heap) ∧ va_F (va_A (sv_w (fun i => ρ (sv_pi ps i)) cA cs1) H.size) st t) a) (va_A (sv_w (fun i => ρ (sv_pi ps i)) cA cs1) H.size))
    (k : sv_J p l e R s m args below meth c cells slots Q D cA ρ A M.2.2.1 (pc + 3, lo, (rv.map (sv_v (sv_pi ps))).toList ++ rest, sv_pt ps (cs2.map (sv_r (sv_pi ps))) 0 cs)) : W p l e R s m args below meth c H locs cells slots Q (F0 m pc ls st) := by
  obtain ⟨⟨hx, hb, hml, hown, hts⟩, ⟨hK, hE, hA⟩, hg, hR1, hR2, hR3, hR4⟩ := hB
  have hF := va_free hD hS hA ps (sv_sub_w hs ρ cA)
  intro T hT X
  obtain ⟨v, st₀, t, T', L, h0, X', hL, e1, e2, ⟨⟨hv, hP1⟩, hz, hk⟩, stp⟩ := hr T hT X
  cases hv
  rw [h0] at hz hk
  rw [← e1] at hP1 hz hk
  have hS1 : va_S A s.heap T'.heap (locs ++ L) := by
    refine ⟨Nat.le_trans hS.1 hz, fun q h1 h2 => ?_, fun q hq => ?_⟩
    · have hq := Nat.lt_of_lt_of_le h1 hS.1
      rw [hk q hq (fun z => h2 (hF q z))]
      exact hS.2.1 q h1 h2
    · rcases List.mem_append.mp hq with h | h
      · exact hS.2.2 q h
      · exact hF _ (hL q h)
  have hP2 := sv_P_back hP hD hs hlen hk hP1
  have hD2 := sv_D_of hD (sv_pt_len ps (cs2.map (sv_r (sv_pi ps))) cs 0)
  obtain ⟨t2, a1, b1⟩ := k T'.heap (locs ++ L) ls hP2 hD2 hS1 hl T' rfl X'
  refine ⟨t2, stp t2 ?_, b1⟩
  have hst : ((rv.map (sv_v (sv_pi ps))).toList ++ rest).map (sv_v ρ) = (rv.map (sv_v (fun i => ρ (sv_pi ps i)))).toList ++ rest.map (sv_v ρ) := by
    rw [List.map_append]
    congr 1
    cases rv with
    | none => rfl
    | some x => simp [sv_v_comp]
  have a2 := a1
  dsimp only at a2
  rw [hst] at a2
  exact a2
set_option maxHeartbeats 1000000 in
theorem sv_callV_ok {X : Nat × (Nat → Int32)} {nw : List Jvm.Cond} (hn : ∀ w ∈ nw, sv_isN w) {M M' : sv_M} (hB : sv_B X nw p R s m args c cells slots D cA ρ A M) {d i n : Nat} (hfr : d + 2 ≤ R.frames) (hlo : 100 * (d + 2) ≤ R.locals) {pc : Nat} {lo : List (Option Value)} {rest av : List Value} {b : Nat} {cs cs1 cs2 : List sv_C} {ps : List Nat} {rv : Option Value}
    (hM : sv_Met X nw l d M' (.ref b :: av) cs1 rv cs2) (hlk : sv_lnkV nw M.1.cls i M' n) (hd : decode M.2.1 pc = .ok (.invokevirtual i, 3)) (hav : av.length = n) (hcat : sv_cat rest ≤ 8) (hrc : sv_rcv cs M'.1 (sv_pi ps b)) (hnd : va_nd ps = true) (hpl : ps.length ≤ 900) (hs : sv_sub ps cs cs1) (hlen : cs2.length = cs1.length)
    (k : sv_J p l e R s m args below meth c cells slots Q D cA ρ A M.2.2.1 (pc + 3, lo, (rv.map (sv_v (sv_pi ps))).toList ++ rest, sv_pt ps (cs2.map (sv_r (sv_pi ps))) 0 cs)) : sv_J p l e R s m args below meth c cells slots Q D cA ρ A M.2.2.1 (pc, lo, ((Value.ref b :: av).map (sv_v (sv_pi ps))).reverse ++ rest, cs) := by
  intro H locs ls hP hD hS hl
  dsimp only at hP hD hl ⊢
  have hBB := hB
  obtain ⟨⟨hx, hb, hml, hown, hts⟩, ⟨hK, hE, hA⟩, hg, hR1, hR2, hR3, hR4⟩ := hB
  obtain ⟨⟨hd3, hcode, hini, h60, hlink⟩, hinst, hsel⟩ := hlk
  have hmet := hM D cA (fun i => ρ (sv_pi ps i)) H.size
  have hsw := sv_sub_w hs ρ cA
  have hF := va_free hD hS hA ps hsw
  have hPc := hP.sub ps (sv_fm _ _ _ hsw)
  have hDc := hD.sub ps hnd hsw
  have hEc : ∀ U : State, U.heap = H → s.WarmedH U.vm → sv_E X nw (fun i => ρ (sv_pi ps i)) (va_A (sv_w (fun i => ρ (sv_pi ps i)) cA cs1) H.size) U U.heap := by
    intro U hU hW
    rw [hU]
    exact (sv_E.go hn hE hW hS.1 hS.2.1 hF).ren (fun j hj => by rw [sv_pi_out (by omega)])
  have hst : (((Value.ref b :: av).map (sv_v (sv_pi ps))).reverse ++ rest).map (sv_v ρ) = (av.map (sv_v (fun i => ρ (sv_pi ps i)))).reverse ++ .ref (ρ (sv_pi ps b)) :: rest.map (sv_v ρ) := by
    simp only [List.map_cons, List.reverse_cons, List.map_append, List.map_reverse, List.map_map, List.append_assoc]
    congr 2
    apply List.map_congr_left
    intro v _
    exact sv_v_comp ρ (sv_pi ps) v
  rw [hst]
  have hrecv : ∃ cellB : Cell, H[ρ (sv_pi ps b)]? = some cellB ∧ cellB.vm.isStatics = false ∧ s.vm.findClass M'.1.cls = some cellB.cls := by
    rcases hrc with ⟨ci, fs, q, h1, h2, h3⟩ | ⟨kk, h1, h2, h3⟩
    · rw [← h3]
      exact va_recv hK hP h2 (sv_w_at h1)
    · obtain ⟨cell, g1, g2, g3, -⟩ := ((hE.2.1 kk h1).1).kept hS.2.1
      rw [h2, h3]
      exact ⟨cell, g1, g2, g3⟩
  have hpre : PreV s H M'.1.cls (ρ (sv_pi ps b)) (va_Pc ((Value.ref b :: av).map (sv_v (fun i => ρ (sv_pi ps i)))) (fun U => U.heap.size = H.size ∧ va_P D vwCl (sv_w (fun i => ρ (sv_pi ps i)) cA cs1) U.heap ∧ va_K D vwCl (sv_t cA) U ∧ va_D (fun _ => True) (sv_w (fun i => ρ (sv_pi ps i)) cA cs1) ∧ sv_E X nw (fun i => ρ (sv_pi ps i)) (va_A (sv_w (fun i => ρ (sv_pi ps i)) cA cs1) H.size) U U.heap)) (av.map (sv_v (fun i => ρ (sv_pi ps i)))) :=
    ⟨sv_blind hn, hrecv, fun U hU hW => ⟨rfl, by rw [hU], by rw [hU]; exact hPc, va_K.moved hW.alike hK, hDc.weaken (fun _ _ _ _ => trivial), hEc U hU hW⟩⟩
  have hrm : 8 + (M'.2.2.1 + 11) + (sv_room d).locals ≤ R.locals := by
    show 8 + (M'.2.2.1 + 11) + 100 * (d + 1) ≤ R.locals
    omega
  have hrf : (sv_room d).frames + 1 ≤ R.frames := by
    show d + 1 + 1 ≤ R.frames
    omega
  have hca : (((rest.map (sv_v ρ)).map fun v => v.category).sum) ≤ 8 := by rw [sv_cat_eq, sv_cat_v]; exact hcat
  have hlA : (av.map (sv_v (fun i => ρ (sv_pi ps i)))).length = n := by rw [List.length_map]; exact hav
  rcases hlink with hlink | ⟨host, hlink⟩
  · have cw : CallW R s args M.1.cls M'.1.cls i M'.1 M'.2.1 M'.2.2.1 M'.2.2.2.1 (sv_ws M') (sv_room d) 0 0 n :=
      ⟨callB_of n hts (sv_goodIn M' hcode) rfl rfl rfl (hts _ hini) (hts _ hlink) hd3 ⟨hrf, hrm⟩, hts _ hinst, hts _ hsel⟩
    exact sv_behind (a := #[]) hBB hP hD hS hl hs hlen (va_runV (rest := rest.map (sv_v ρ)) ⟨hx, hb, hml, hown, hts⟩ hmet cw hpre rfl hlA hl.size rfl (lv_room hca) hd ⟨hR3, hR4⟩) k
  · have cn : va_CN R s args M.1.cls i M'.1 host M'.2.1 M'.2.2.1 M'.2.2.2.1 (sv_ws M') (sv_room d) 0 0 n :=
      va_cnB n hts (sv_goodIn M' hcode) rfl rfl rfl (hE.2.2.2.2 _ hlink) (hts _ hini) hd3 ⟨hrf, hrm⟩
    exact sv_behind (a := #[]) hBB hP hD hS hl hs hlen (va_runVN (rest := rest.map (sv_v ρ)) ⟨hx, hb, hml, hown, hts⟩ hmet ⟨cn, hts _ hinst, hts _ hsel⟩ hpre rfl hlA hl.size rfl (lv_room hca) hd ⟨hR3, hR4⟩) k
set_option maxHeartbeats 1000000 in
theorem sv_callS_ok {X : Nat × (Nat → Int32)} {nw : List Jvm.Cond} (hn : ∀ w ∈ nw, sv_isN w) {M M' : sv_M} (hB : sv_B X nw p R s m args c cells slots D cA ρ A M) {d i n : Nat} (hfr : d + 2 ≤ R.frames) (hlo : 100 * (d + 2) ≤ R.locals) {pc : Nat} {lo : List (Option Value)} {rest av : List Value} {cs cs1 cs2 : List sv_C} {ps : List Nat} {rv : Option Value}
    (hM : sv_Met X nw l d M' av cs1 rv cs2) (hlk : sv_lnkS nw M.1.cls i M' n) (hd : decode M.2.1 pc = .ok (.invokestatic i, 3)) (hav : av.length = n) (hcat : sv_cat rest ≤ 8) (hnd : va_nd ps = true) (hpl : ps.length ≤ 900) (hs : sv_sub ps cs cs1) (hlen : cs2.length = cs1.length)
    (k : sv_J p l e R s m args below meth c cells slots Q D cA ρ A M.2.2.1 (pc + 3, lo, (rv.map (sv_v (sv_pi ps))).toList ++ rest, sv_pt ps (cs2.map (sv_r (sv_pi ps))) 0 cs)) : sv_J p l e R s m args below meth c cells slots Q D cA ρ A M.2.2.1 (pc, lo, (av.map (sv_v (sv_pi ps))).reverse ++ rest, cs) := by
  intro H locs ls hP hD hS hl
  dsimp only at hP hD hl ⊢
  have hBB := hB
  obtain ⟨⟨hx, hb, hml, hown, hts⟩, ⟨hK, hE, hA⟩, hg, hR1, hR2, hR3, hR4⟩ := hB
  obtain ⟨⟨hd3, hcode, hini, h60, hlink⟩, hstat⟩ := hlk
  have hmet := hM D cA (fun i => ρ (sv_pi ps i)) H.size
  have hsw := sv_sub_w hs ρ cA
  have hF := va_free hD hS hA ps hsw
  have hPc := hP.sub ps (sv_fm _ _ _ hsw)
  have hDc := hD.sub ps hnd hsw
  have hEc : ∀ U : State, U.heap = H → s.WarmedH U.vm → sv_E X nw (fun i => ρ (sv_pi ps i)) (va_A (sv_w (fun i => ρ (sv_pi ps i)) cA cs1) H.size) U U.heap := by
    intro U hU hW
    rw [hU]
    exact (sv_E.go hn hE hW hS.1 hS.2.1 hF).ren (fun j hj => by rw [sv_pi_out (by omega)])
  have hst : ((av.map (sv_v (sv_pi ps))).reverse ++ rest).map (sv_v ρ) = (av.map (sv_v (fun i => ρ (sv_pi ps i)))).reverse ++ rest.map (sv_v ρ) := by
    simp only [List.map_append, List.map_reverse, List.map_map]
    congr 2
    apply List.map_congr_left
    intro v _
    exact sv_v_comp ρ (sv_pi ps) v
  rw [hst]
  have hpre : PreS s H (va_Pc (av.map (sv_v (fun i => ρ (sv_pi ps i)))) (fun U => U.heap.size = H.size ∧ va_P D vwCl (sv_w (fun i => ρ (sv_pi ps i)) cA cs1) U.heap ∧ va_K D vwCl (sv_t cA) U ∧ va_D (fun _ => True) (sv_w (fun i => ρ (sv_pi ps i)) cA cs1) ∧ sv_E X nw (fun i => ρ (sv_pi ps i)) (va_A (sv_w (fun i => ρ (sv_pi ps i)) cA cs1) H.size) U U.heap)) (av.map (sv_v (fun i => ρ (sv_pi ps i)))) :=
    ⟨sv_blind hn, fun U hU hW => ⟨rfl, by rw [hU], by rw [hU]; exact hPc, va_K.moved hW.alike hK, hDc.weaken (fun _ _ _ _ => trivial), hEc U hU hW⟩⟩
  have hrm : 8 + (M'.2.2.1 + 11) + (sv_room d).locals ≤ R.locals := by
    show 8 + (M'.2.2.1 + 11) + 100 * (d + 1) ≤ R.locals
    omega
  have hrf : (sv_room d).frames + 1 ≤ R.frames := by
    show d + 1 + 1 ≤ R.frames
    omega
  have hca : (((rest.map (sv_v ρ)).map fun v => v.category).sum) ≤ 8 := by rw [sv_cat_eq, sv_cat_v]; exact hcat
  have hlA : (av.map (sv_v (fun i => ρ (sv_pi ps i)))).length = n := by rw [List.length_map]; exact hav
  rcases hlink with hlink | ⟨host, hlink⟩
  · have cw : CallB R s args M.1.cls i M'.1 M'.2.1 M'.2.2.1 M'.2.2.2.1 (sv_ws M') (sv_room d) 0 0 n :=
      callB_of n hts (sv_goodIn M' hcode) rfl rfl rfl (hts _ hini) (hts _ hlink) hd3 ⟨hrf, hrm⟩
    exact sv_behind (a := #[]) hBB hP hD hS hl hs hlen (va_runS (rest := rest.map (sv_v ρ)) ⟨hx, hb, hml, hown, hts⟩ hmet ⟨cw, hts _ hstat⟩ hpre rfl hlA hl.size rfl (lv_room hca) hd ⟨hR3, hR4⟩) k
  · have cn : va_CN R s args M.1.cls i M'.1 host M'.2.1 M'.2.2.1 M'.2.2.2.1 (sv_ws M') (sv_room d) 0 0 n :=
      va_cnB n hts (sv_goodIn M' hcode) rfl rfl rfl (hE.2.2.2.2 _ hlink) (hts _ hini) hd3 ⟨hrf, hrm⟩
    exact sv_behind (a := #[]) hBB hP hD hS hl hs hlen (va_runSN (rest := rest.map (sv_v ρ)) ⟨hx, hb, hml, hown, hts⟩ hmet ⟨cn, hts _ hstat, trivial⟩ hpre rfl hlA hl.size rfl (lv_room hca) hd ⟨hR3, hR4⟩) k
end SVCall
