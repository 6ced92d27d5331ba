/-! ===== calls: a part of the cells goes to the callee and comes back ===== -/
def sv_pi (ps : List Nat) (j : Nat) : Nat := match sv_n ps j with
  | some k => k
  | none => j
def sv_fnd : List Nat → List sv_C → Nat → Option sv_C
  | p :: ps, x :: xs, k => bif Nat.beq p k then some x else sv_fnd ps xs k
  | _, _, _ => none
def sv_pt (ps : List Nat) (xs : List sv_C) : Nat → List sv_C → List sv_C
  | _, [] => []
  | i, c :: cs => (match sv_fnd ps xs i with
    | some x => x
    | none => c) :: sv_pt ps xs (i + 1) cs
theorem sv_pt_len (ps : List Nat) (xs : List sv_C) : ∀ (cs : List sv_C) (i : Nat), (sv_pt ps xs i cs).length = cs.length
  | [], i => rfl
  | c :: cs, i => by simp [sv_pt, sv_pt_len ps xs cs (i + 1)]
theorem sv_pt_get (ps : List Nat) (xs : List sv_C) : ∀ (cs : List sv_C) (i k : Nat), (sv_pt ps xs i cs)[k]? = (cs[k]?).map (fun c => (sv_fnd ps xs (i + k)).getD c)
  | [], i, k => by simp [sv_pt]
  | c :: cs, i, 0 => by
    simp only [sv_pt, List.getElem?_cons_zero, Option.map_some, Nat.add_zero]
    cases sv_fnd ps xs i <;> rfl
  | c :: cs, i, k + 1 => by
    simp only [sv_pt, List.getElem?_cons_succ]
    rw [sv_pt_get ps xs cs (i + 1) k, show i + 1 + k = i + (k + 1) by omega]
theorem sv_fnd_some : ∀ {ps : List Nat} {xs : List sv_C} {k : Nat} {x : sv_C}, sv_fnd ps xs k = some x → ∃ j : Nat, ps[j]? = some k ∧ xs[j]? = some x
  | [], xs, k, x, h => by simp [sv_fnd] at h
  | p :: ps, [], k, x, h => by simp [sv_fnd] at h
  | p :: ps, y :: xs, k, x, h => by
    unfold sv_fnd at h
    cases hb : Nat.beq p k with
    | true =>
      rw [hb] at h
      cases h
      exact ⟨0, by rw [sv_beq hb]; rfl, rfl⟩
    | false =>
      rw [hb] at h
      obtain ⟨j, h1, h2⟩ := sv_fnd_some (ps := ps) (xs := xs) h
      exact ⟨j + 1, h1, h2⟩
theorem sv_fnd_none : ∀ {ps : List Nat} {xs : List sv_C} {k : Nat}, sv_fnd ps xs k = none → ps.length = xs.length → k ∉ ps
  | [], xs, k, h, _ => List.not_mem_nil
  | p :: ps, [], k, h, hl => by simp at hl
  | p :: ps, y :: xs, k, h, hl => by
    unfold sv_fnd at h
    cases hb : Nat.beq p k with
    | true => rw [hb] at h; cases h
    | false =>
      rw [hb] at h
      intro hm
      rcases List.mem_cons.mp hm with h1 | h1
      · rw [h1, Nat.beq_refl] at hb; cases hb
      · exact sv_fnd_none (ps := ps) (xs := xs) h (by simpa using hl) h1
theorem sv_pi_in {ps : List Nat} {j k : Nat} (h : ps[j]? = some k) : sv_pi ps j = k := by
  unfold sv_pi
  rw [sv_n_eq, h]
theorem sv_pi_out {ps : List Nat} {j : Nat} (h : ps.length ≤ j) : sv_pi ps j = j := by
  unfold sv_pi
  rw [sv_n_eq, List.getElem?_eq_none h]
/-- the callee's cells are these of the caller's -/
def sv_sub (ps : List Nat) (cs cs1 : List sv_C) : Prop := (cs1.map (sv_r (sv_pi ps))).map some = ps.map (fun p => sv_n cs p)
theorem sv_sub_w {ps : List Nat} {cs cs1 : List sv_C} (h : sv_sub ps cs cs1) (ρ : Nat → Nat) (cA : Nat → ClassId) : ps.map (fun i => (sv_w ρ cA cs)[i]?) = (sv_w (fun i => ρ (sv_pi ps i)) cA cs1).map some := by
  apply List.ext_getElem?
  intro k
  have h1 : ((cs1.map (sv_r (sv_pi ps))).map some)[k]? = (ps.map (fun p => sv_n cs p))[k]? := by rw [h]
  simp only [List.getElem?_map] at h1
  rw [List.getElem?_map, List.getElem?_map, sv_w_get]
  cases hp : ps[k]? with
  | none =>
    rw [hp] at h1
    cases hc : cs1[k]? with
    | none => simp
    | some c => rw [hc] at h1; simp at h1
  | some q =>
    rw [hp] at h1
    cases hc : cs1[k]? with
    | none => rw [hc] at h1; simp at h1
    | some c =>
      rw [hc] at h1
      simp only [Option.map_some, Option.some.injEq] at h1 ⊢
      rw [sv_w_get, ← sv_n_eq, ← h1]
      simp only [Option.map_some, Option.some.injEq, Prod.mk.injEq]
      exact ⟨by rw [sv_pi_in hp], sv_e_r ρ (sv_pi ps) cA c⟩
theorem sv_fm {α β : Type} (f : α → Option β) : ∀ (l : List α) (r : List β), l.map f = r.map some → l.filterMap f = r
  | [], [], _ => rfl
  | [], b :: r, h => by simp at h
  | a :: l, [], h => by simp at h
  | a :: l, b :: r, h => by
    simp only [List.map_cons, List.cons.injEq] at h
    rw [List.filterMap_cons_some h.1, sv_fm f l r h.2]
theorem sv_D_of {A : Nat → Prop} {ρ : Nat → Nat} {cA : Nat → ClassId} {cs cs' : List sv_C} (h : va_D A (sv_w ρ cA cs)) (hl : cs'.length = cs.length) : va_D A (sv_w ρ cA cs') := by
  have key : ∀ (k : Nat) (q : Nat × va_E), (sv_w ρ cA cs')[k]? = some q → ∃ q0, (sv_w ρ cA cs)[k]? = some q0 ∧ q0.1 = q.1 := by
    intro k q hk
    have hlt : k < cs.length := by
      have := (List.getElem?_eq_some_iff.mp hk).1
      simpa [sv_w, hl] using this
    rw [sv_w_get] at hk
    refine ⟨(ρ k, sv_e ρ cA cs[k]), by rw [sv_w_get, List.getElem?_eq_getElem hlt]; rfl, ?_⟩
    cases hc : cs'[k]? with
    | none => rw [hc] at hk; cases hk
    | some c => rw [hc] at hk; cases hk; rfl
  refine ⟨fun i j x y hi hj hxy => ?_, fun k q hk => ?_⟩
  · obtain ⟨x0, h1, h2⟩ := key i x hi
    obtain ⟨y0, h3, h4⟩ := key j y hj
    exact h.1 i j x0 y0 h1 h3 (h2.trans (hxy.trans h4.symm))
  · obtain ⟨q0, h1, h2⟩ := key k q hk
    rw [← h2]
    exact h.2 k q0 h1
theorem sv_P_back {D : va_G} {A0 : Nat → Prop} {ρ : Nat → Nat} {cA : Nat → ClassId} {ps : List Nat} {cs cs1 cs2 : List sv_C} {H H1 : Heap} (hP : va_P D vwCl (sv_w ρ cA cs) H) (hD : va_D A0 (sv_w ρ cA cs)) (hs : sv_sub ps cs cs1) (hl : cs2.length = cs1.length)
    (hk : ∀ q : Nat, q < H.size → ¬ va_A (sv_w (fun i => ρ (sv_pi ps i)) cA cs1) H.size q → H1[q]? = H[q]?) (hP1 : va_P D vwCl (sv_w (fun i => ρ (sv_pi ps i)) cA cs2) H1) : va_P D vwCl (sv_w ρ cA (sv_pt ps (cs2.map (sv_r (sv_pi ps))) 0 cs)) H1 := by
  have hpl : ps.length = cs1.length := by
    have := congrArg List.length hs
    simpa using this.symm
  intro k z hz
  rw [sv_w_get, sv_pt_get] at hz
  cases hc : cs[k]? with
  | none => rw [hc] at hz; cases hz
  | some c =>
    rw [hc] at hz
    simp only [Option.map_some, Option.some.injEq, Nat.zero_add] at hz
    cases hf : sv_fnd ps (cs2.map (sv_r (sv_pi ps))) k with
    | some x =>
      rw [hf] at hz
      obtain ⟨j, h1, h2⟩ := sv_fnd_some hf
      rw [List.getElem?_map] at h2
      cases hc2 : cs2[j]? with
      | none => rw [hc2] at h2; cases h2
      | some c2 =>
        rw [hc2] at h2
        simp only [Option.map_some, Option.some.injEq] at h2
        have h3 := hP1 j (ρ (sv_pi ps j), sv_e (fun i => ρ (sv_pi ps i)) cA c2) (by rw [sv_w_get, hc2]; rfl)
        rw [sv_pi_in h1, ← sv_e_r, h2] at h3
        rw [← hz]
        exact h3
    | none =>
      rw [hf] at hz
      have hn := sv_fnd_none hf (by rw [List.length_map, hl]; exact hpl)
      have h3 := hP k (ρ k, sv_e ρ cA c) (by rw [sv_w_get, hc]; rfl)
      rw [← hz]
      refine h3.kept (hk _ h3.lt (fun ha => ?_))
      rcases ha with ⟨i, e, hi⟩ | ha
      · have hsw := sv_sub_w hs ρ cA
        have h4 : (ps.map (fun i => (sv_w ρ cA cs)[i]?))[i]? = some (some (ρ k, e)) := by rw [hsw, List.getElem?_map, hi]; rfl
        rw [List.getElem?_map] at h4
        cases hpi : ps[i]? with
        | none => rw [hpi] at h4; cases h4
        | some q =>
          rw [hpi] at h4
          simp only [Option.map_some, Option.some.injEq] at h4
          have h5 := hD.1 k q (ρ k, sv_e ρ cA c) (ρ k, e) (by rw [sv_w_get, hc]; rfl) h4 rfl
          exact hn (by rw [h5]; exact List.mem_of_getElem? hpi)
      · exact absurd h3.lt (Nat.not_lt.mpr ha)
theorem sv_E.ren {X : Nat × (Nat → Int32)} {nw : List Jvm.Cond} {ρ ρ' : Nat → Nat} {A : Nat → Prop} {U : State} {H : Heap} (h : sv_E X nw ρ A U H) (hr : ∀ j, 999 ≤ j → ρ' j = ρ j) : sv_E X nw ρ' A U H := by
  obtain ⟨a, b, c, d, f⟩ := h
  refine ⟨by rw [hr 999 (Nat.le_refl _)]; exact a, fun i hi => ?_, fun q hq => ?_, d, f⟩
  · rw [hr (1000 + i) (by omega)]; exact b i hi
  · rw [hr (1000 + q.2.2.2) (by omega)]; exact c q hq
