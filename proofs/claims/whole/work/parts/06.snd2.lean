/-! ===== each step of the small machine is one of the machine's: the rest ===== -/
section SVSound2
variable {p : Program} {l : Launch} {e : Env} {R : Room} {s : State} {m : MethodId} {args : Array Value} {below : List Frame} {meth : Method} {c : Code} {cells slots : Nat} {Q : State → Prop}
variable {D : va_G} {cA : Nat → ClassId} {ρ : Nat → Nat} {A : Nat → Prop}
theorem sv_cat_eq : ∀ st : List Value, (st.map fun v => v.category).sum = sv_cat st
  | [] => rfl
  | v :: r => by simp [sv_cat, sv_cat_eq r]
theorem sv_cat_v (ρ : Nat → Nat) : ∀ st : List Value, sv_cat (st.map (sv_v ρ)) = sv_cat st
  | [] => rfl
  | v :: r => by simp [sv_cat, sv_cat_v ρ r, sv_v_cat]
theorem sv_prim_w : (∀ k y, sv_prim k = some y → k ≠ 5 → Jvm.Cond.static y ∈ sv_Ts) ∧ Jvm.Cond.initialized "java/lang/Math" ∈ sv_Ts ∧ Jvm.Cond.code Lib.Math.abs.name Lib.Math.abs.code 1 (some .int) ∈ sv_Ts ∧ Jvm.Cond.code Lib.Math.min.name Lib.Math.min.code 2 (some .int) ∈ sv_Ts ∧ Jvm.Cond.code Lib.Math.max.name Lib.Math.max.code 2 (some .int) ∈ sv_Ts ∧ Jvm.Cond.code Lib.MathLoose.abs_long.x Lib.MathLoose.abs_long.code 2 (some .long) ∈ sv_Ts := by
  refine ⟨fun k y h hk => ?_, sv_tm (j := 145) (by decide +kernel) (by decide +kernel), sv_tm (j := 934) (by decide +kernel) (by decide +kernel), sv_tm (j := 626) (by decide +kernel) (by decide +kernel), sv_tm (j := 1930) (by decide +kernel) (by decide +kernel), sv_tm (j := 1555) (by decide +kernel) (by decide +kernel)⟩
  match k, h, hk with
  | 1, h, _ => cases h; exact sv_tm (j := 933) (by decide +kernel) (by decide +kernel)
  | 2, h, _ => cases h; exact sv_tm (j := 625) (by decide +kernel) (by decide +kernel)
  | 3, h, _ => cases h; exact sv_tm (j := 1929) (by decide +kernel) (by decide +kernel)
  | 4, h, _ => cases h; exact sv_tm (j := 1554) (by decide +kernel) (by decide +kernel)
  | 5, h, hk => exact absurd rfl hk
theorem sv_copy_w : Jvm.Cond.native arraycopyName ∈ sv_Ts ∧ Jvm.Cond.static arraycopyName ∈ sv_Ts ∧ Jvm.Cond.initialized "java/lang/System" ∈ sv_Ts := ⟨sv_tm (j := 1230) (by decide +kernel) (by decide +kernel), sv_tm (j := 1229) (by decide +kernel) (by decide +kernel), sv_tm (j := 151) (by decide +kernel) (by decide +kernel)⟩
theorem sv_step_math {X : Nat × (Nat → Int32)} {nw : List Jvm.Cond} {M : sv_M} (hB : sv_B X nw p R s m args c cells slots D cA ρ A M) {pc i a b j k : Nat} {H : Heap} {locs : List Loc} {ls : Array Slot} {st st' : List Value} (hs : sv_math k st = some st') (hc : sv_cat st ≤ 20) (hd : decode M.2.1 pc = .ok (.invokestatic i, 3)) (hk : sv_ok2 M.1.cls M.2.2.1 pc (.invokestatic i) (.retAddr k) a b j = true) (hsz : ls.size = M.2.2.1)
    (kk : W p l e R s m args below meth c H locs cells slots Q (F0 m (pc + 3) ls (st'.map (sv_v ρ)))) : W p l e R s m args below meth c H locs cells slots Q (F0 m pc ls (st.map (sv_v ρ))) := by
  obtain ⟨⟨hx, hb, hml, hown, hts⟩, ⟨hK, hE, hA⟩, hg, hR1, hR2, hR3, hR4⟩ := hB
  have hml' : c.maxLocals = ls.size := hml.trans hsz.symm
  have hk : (match sv_prim k with | some y => decide (lw_tbl[j]? = some (Jvm.Cond.methodLink M.1.cls i y)) | none => false) = true := hk
  have room : ∀ r : List Value, sv_cat r ≤ 20 → ((r.map (sv_v ρ)).map fun v => v.category).sum + 13 ≤ R.locals := fun r h => by rw [sv_cat_eq, sv_cat_v]; omega
  obtain ⟨w1, w2, w3, w4, w5, w6⟩ := sv_prim_w
  match k, st, hs, hk with
  | 1, .int x :: r, hs, hk =>
    cases hs
    have hk : lw_tbl[j]? = some (Jvm.Cond.methodLink M.1.cls i Lib.Math.abs.name) := of_decide_eq_true hk
    exact va_mabs hx hb hml' hown (hts _ (sv_tm hk rfl)) (hts _ (w1 1 _ rfl (by decide))) (hts _ w2) (hts _ w3) hR1 (room r (by simp only [sv_cat] at hc; omega)) hR3 hR4 hd kk
  | 2, .int y :: .int x :: r, hs, hk =>
    cases hs
    have hk : lw_tbl[j]? = some (Jvm.Cond.methodLink M.1.cls i Lib.Math.min.name) := of_decide_eq_true hk
    exact va_mmin hx hb hml' hown (hts _ (sv_tm hk rfl)) (hts _ (w1 2 _ rfl (by decide))) (hts _ w2) (hts _ w4) hR1 (room r (by simp only [sv_cat] at hc; omega)) hR3 hR4 hd kk
  | 3, .int y :: .int x :: r, hs, hk =>
    cases hs
    have hk : lw_tbl[j]? = some (Jvm.Cond.methodLink M.1.cls i Lib.Math.max.name) := of_decide_eq_true hk
    exact va_mmax hx hb hml' hown (hts _ (sv_tm hk rfl)) (hts _ (w1 3 _ rfl (by decide))) (hts _ w2) (hts _ w5) hR1 (room r (by simp only [sv_cat] at hc; omega)) hR3 hR4 hd kk
  | 4, .long x :: r, hs, hk =>
    cases hs
    have hk : lw_tbl[j]? = some (Jvm.Cond.methodLink M.1.cls i Lib.MathLoose.abs_long.x) := of_decide_eq_true hk
    exact va_mabs_long hx hb hml' hown (hts _ (sv_tm hk rfl)) (hts _ (w1 4 _ rfl (by decide))) (hts _ w2) (hts _ w6) hR1 (room r (by simp only [sv_cat] at hc; omega)) hR3 hR4 hd kk
theorem sv_beq {a b : Nat} (h : Nat.beq a b = true) : a = b := Nat.eq_of_beq_eq_true h
/-- a field is written -/
theorem sv_step_put {X : Nat × (Nat → Int32)} {nw : List Jvm.Cond} {M : sv_M} (hB : sv_B X nw p R s m args c cells slots D cA ρ A M) {pc i a b j q : Nat} {H : Heap} {locs : List Loc} {ls : Array Slot} {st : List Value} {cs : List sv_C} {fs : List Value} {v x x0 : Value} (hP : va_P D vwCl (sv_w ρ cA cs) H) (hD : va_D A (sv_w ρ cA cs)) (hS : va_S A s.heap H locs) (hq : sv_n cs q = some (.inr (a, fs))) (hf : sv_n fs b = some x0) (hd : decode M.2.1 pc = .ok (.putfield i, 3)) (hk : sv_ok2 M.1.cls M.2.2.1 pc (.putfield i) v a b j = true)
    (hn : narrow (sv_ty a b) (sv_v ρ x) = sv_v ρ x) (hfit : fits (sv_ty a b) (sv_v ρ x) = true)
    (kk : ∀ (H1 : Heap) (locs1 : List Loc), va_P D vwCl (sv_w ρ cA (sv_u cs q (.inr (a, sv_u fs b x)))) H1 → va_D A (sv_w ρ cA (sv_u cs q (.inr (a, sv_u fs b x)))) → va_S A s.heap H1 locs1 → W p l e R s m args below meth c H1 locs1 cells slots Q (F0 m (pc + 3) ls st)) : W p l e R s m args below meth c H locs cells slots Q (F0 m pc ls (sv_v ρ x :: .ref (ρ q) :: st)) := by
  obtain ⟨⟨hx, hb, hml, hown, hts⟩, ⟨hK, hE, hA⟩, hg, hR⟩ := hB
  have hk : (sv_fld M.1.cls i a b j && sv_fin a b && sv_fty v (sv_ty a b)) = true := hk
  simp only [Bool.and_eq_true] at hk
  obtain ⟨⟨hk1, hk2⟩, hk3⟩ := hk
  obtain ⟨r, hr, hbr, hlk⟩ := sv_fld_spec hk1
  obtain ⟨h1, h2, h3⟩ := sv_cls a r hr
  unfold sv_fin at hk2
  rw [hr] at hk2
  obtain ⟨C, T, N⟩ := r
  have hfin : (T b).2.2.2 = false := by simpa using hk2
  refine va_put (C := C) (T := T) (N := N) (own := M.1.cls) hx hb hts h1 (sv_ty a) h3 h2 hown hK hP hD hS q (sv_w_at hq) hr b hbr (hts _ hlk) (fun x h => h) hfin (h3 b hbr) hn hfit ?_ hd (fun H1 locs1 a1 a2 a3 => kk H1 locs1 ?_ ?_ a3)
  · rw [sv_n_eq] at hf
    rw [List.length_map]
    exact (List.getElem?_eq_some_iff.mp hf).1
  · rw [sv_w_set]
    simp only [sv_e, sv_u_eq, List.map_set]
    exact a1
  · rw [sv_w_set]
    simp only [sv_e, sv_u_eq, List.map_set]
    exact a2
end SVSound2
