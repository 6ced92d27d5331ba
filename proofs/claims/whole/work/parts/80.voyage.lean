/-! ===== pure: the voyage, the reference ===== -/
section VOYB
variable {k k' : KS} {g g' g2 gm gm' : HH} {hu hy hv hh hr hc hc2 hp hl hl' : HH} {B R H D K n o N N' t w lim : Nat} {L : Nat → Nat} {q : Int32 → Bool} {f f' : Nat → Int32}
theorem stkB_c : ∀ (m p : Nat), (∀ i, p ≤ i → i < p + m → f' i = f i) → stkB f' p m = stkB f p m
  | 0, _, _ => rfl
  | m + 1, p, h => by
    rw [stkB, stkB, h p (by omega) (by omega), stkB_c m (p + 1) (fun i h1 h2 => h i (by omega) (by omega))]
theorem stkB_app : ∀ (a p b : Nat), stkB f p (a + b) = stkB f p a ++ stkB f (p + a) b
  | 0, p, b => by rw [Nat.zero_add]; rfl
  | a + 1, p, b => by
    rw [show a + 1 + b = (a + b) + 1 by omega, stkB, stkB, stkB_app a (p + 1) b, show p + 1 + a = p + (a + 1) by omega]
    split
    · rfl
    · rfl
theorem stkB_mem : ∀ (m p : Nat) (x : Int32), x ∈ stkB f p m → x ≠ -1 ∧ ∃ i, i < m ∧ x = f (p + i)
  | 0, _, _, h => by simp [stkB] at h
  | m + 1, p, x, h => by
    rw [stkB] at h
    by_cases c : f p = -1
    · rw [if_pos c] at h
      obtain ⟨h1, i, h2, h3⟩ := stkB_mem m (p + 1) x h
      exact ⟨h1, i + 1, by omega, by rw [h3, show p + 1 + i = p + (i + 1) by omega]⟩
    · rw [if_neg c] at h
      rcases List.mem_cons.mp h with e | e
      · exact ⟨by rw [e]; exact c, 0, by omega, e⟩
      · obtain ⟨h1, i, h2, h3⟩ := stkB_mem m (p + 1) x e
        exact ⟨h1, i + 1, by omega, by rw [h3, show p + 1 + i = p + (i + 1) by omega]⟩
theorem remF_mem : ∀ (l : List Int32) (x : Int32), x ∈ remF q l → x ∈ l
  | [], _, h => h
  | y :: l, x, h => by
    rw [remF] at h
    by_cases c : q y = true
    · rw [if_pos c] at h
      exact List.mem_cons_of_mem _ (remF_mem l x h)
    · rw [if_neg c] at h
      rcases List.mem_cons.mp h with e | e
      · rw [e]; exact List.mem_cons_self
      · exact List.mem_cons_of_mem _ (remF_mem l x e)
theorem cnt_app (s : Bool) : ∀ (a l : List Int32), (∀ x, x ∈ a → ¬ q x = true) → cntF q false (a ++ l) = cntF q false l ∧ remF q (a ++ l) = a ++ remF q l
  | [], _, _ => ⟨rfl, rfl⟩
  | x :: a, l, h => by
    obtain ⟨h1, h2⟩ := cnt_app s a l (fun y hy => h y (List.mem_cons_of_mem _ hy))
    have hx := h x List.mem_cons_self
    rw [List.cons_append, cntF, remF, if_neg hx, if_neg hx, h1, h2]
    exact ⟨by show 0 + _ = _; omega, rfl⟩
theorem cnt_true : ∀ (l : List Int32), cntF q true l = (remF q l).length
  | [] => rfl
  | x :: l => by
    rw [cntF, remF, cnt_true l]
    split
    · rfl
    · rw [List.length_cons]; show 1 + _ = _; omega
theorem stkB_hold : ∀ (W : List Int32) (p m : Nat), W.length ≤ m → Hold f p W → (∀ x, x ∈ W → x ≠ -1) → (∀ i, p + W.length ≤ i → i < p + m → f i = -1) → stkB f p m = W
  | [], p, m, _, _, _, h => by
    have : ∀ (m p : Nat), (∀ i, p ≤ i → i < p + m → f i = -1) → stkB f p m = [] := by
      intro m
      induction m with
      | zero => intro p h; rfl
      | succ m ih =>
        intro p h
        rw [stkB, if_pos (h p (by omega) (by omega))]
        exact ih (p + 1) (fun i h1 h2 => h i (by omega) (by omega))
    exact this m p (fun i h1 h2 => h i (by simpa using h1) h2)
  | x :: W, p, m, h1, h2, h3, h4 => by
    rw [List.length_cons] at h1
    obtain ⟨m, rfl⟩ : ∃ z, m = z + 1 := ⟨m - 1, by omega⟩
    rw [stkB, h2.1, if_neg (h3 x List.mem_cons_self), stkB_hold W (p + 1) m (by omega) h2.2 (fun y hy => h3 y (List.mem_cons_of_mem _ hy)) (fun i h5 h6 => h4 i (by rw [List.length_cons]; omega) (by omega))]
theorem Hold_mem : ∀ (W : List Int32) (p i : Nat), Hold f p W → i < W.length → f (p + i) ∈ W
  | [], _, _, _, h => by simp at h
  | x :: W, p, i, h, hi => by
    rw [List.length_cons] at hi
    by_cases c : i = 0
    · subst c
      rw [Nat.add_zero, h.1]
      exact List.mem_cons_self
    · have := Hold_mem W (p + 1) (i - 1) h.2 (by omega)
      rw [show p + 1 + (i - 1) = p + i by omega] at this
      exact List.mem_cons_of_mem _ this
def val21 (gm : HH) (n : Nat) : Prop := ∀ p, p < 144 → gm 21 p = -1 ∨ ∃ b, b < n ∧ gm 21 p = nI b
theorem cb_3 (hn : n ≤ 24) (v : val21 gm n) (h6 : gm 6 = g 6) {p h : Nat} (hp : p + h ≤ 144) : ∀ (m j f : Nat), j + m = h → m < f → ∃ c, j ≤ c ∧ c ≤ h ∧ L_Mo_comesBack_3 N f (nI p) (nI h) (nI t) (nI j) gm = some (nI c) ∧ (∀ i, j ≤ i → i < c → gm 21 (p + i) = -1 ∨ ¬ ptq g t (gm 21 (p + i)) = true) ∧ (c = h ∨ (gm 21 (p + c) ≠ -1 ∧ ptq g t (gm 21 (p + c)) = true)) := by
  intro m
  induction m with
  | zero =>
    intro j f h1 h2
    obtain ⟨f, rfl⟩ : ∃ z, f = z + 1 := ⟨f - 1, by omega⟩
    have : j = h := by omega
    subst this
    refine ⟨j, Nat.le_refl _, Nat.le_refl _, ?_, fun i _ _ => by omega, Or.inl rfl⟩
    rw [L_Mo_comesBack_3, if_pos (Int32.le_refl _)]
  | succ m ih =>
    intro j f h1 h2
    obtain ⟨f, rfl⟩ : ∃ z, f = z + 1 := ⟨f - 1, by omega⟩
    have ij : sv_in (nI (p + j)) 144 := pu_in (by omega) (by omega)
    rw [L_Mo_comesBack_3, if_neg (nI_ge (by omega) (by omega)), nI_add, nI_1]
    simp only [if_pos ij]
    rw [nI_clamp (by omega)]
    by_cases c : gm 21 (p + j) = -1
    · rw [if_pos c]
      obtain ⟨z, z1, z2, z3, z4, z5⟩ := ih (j + 1) f (by omega) (by omega)
      refine ⟨z, by omega, z2, z3, ?_, z5⟩
      intro i i1 i2
      by_cases ci : i = j
      · subst ci; exact Or.inl c
      · exact z4 i (by omega) i2
    · rw [if_neg c]
      rcases v (p + j) (by omega) with e | ⟨b, b1, e⟩
      · exact absurd e c
      have ib : sv_in (nI b) 24 := pu_in (by omega) (by omega)
      rw [e, if_pos ib, nI_clamp (by omega), h6]
      by_cases c2 : g 6 b = nI t
      · rw [if_pos c2]
        refine ⟨j, Nat.le_refl _, by omega, rfl, fun i _ _ => by omega, Or.inr ⟨c, ?_⟩⟩
        rw [e]
        refine decide_eq_true ?_
        show g 6 (nI b).toNatClampNeg = _
        rw [nI_clamp (by omega), c2]
      · rw [if_neg c2]
        obtain ⟨z, z1, z2, z3, z4, z5⟩ := ih (j + 1) f (by omega) (by omega)
        refine ⟨z, by omega, z2, z3, ?_, z5⟩
        intro i i1 i2
        by_cases ci : i = j
        · subst ci
          right
          rw [e]
          intro zz
          have zz := of_decide_eq_true zz
          change g 6 (nI b).toNatClampNeg = _ at zz
          rw [nI_clamp (by omega)] at zz
          exact c2 zz
        · exact z4 i (by omega) i2
theorem cb_61 (hn : n ≤ 24) (x4 : Int32) {p h : Nat} (hp : p + h ≤ 144) : ∀ (m j f : Nat) (W : List Int32) (gm : HH), val21 gm n → gm 6 = g 6 → j + m = h → m < f → W.length + m ≤ 3 → Hold (gm 20) 0 W → ∃ gm', L_Mo_comesBack_61 N f (nI p) (nI h) (nI t) x4 (nI W.length) (nI j) gm = some (nI (W ++ remF (ptq g t) (stkB (gm 21) (p + j) m)).length, gm') ∧ Hold (gm' 20) 0 (W ++ remF (ptq g t) (stkB (gm 21) (p + j) m)) ∧ (∀ r, r ≠ 20 → r ≠ 21 → gm' r = gm r) ∧ ∀ i, gm' 21 i = if p + j ≤ i ∧ i < p + h then -1 else gm 21 i := by
  intro m
  induction m with
  | zero =>
    intro j f W gm v h6 h1 h2 h3 h4
    obtain ⟨f, rfl⟩ : ∃ z, f = z + 1 := ⟨f - 1, by omega⟩
    have : j = h := by omega
    subst this
    refine ⟨gm, ?_, ?_, fun _ _ _ => rfl, ?_⟩
    · rw [L_Mo_comesBack_61, if_pos (Int32.le_refl _), stkB, remF, List.append_nil]
    · rw [stkB, remF, List.append_nil]; exact h4
    · intro i
      rw [if_neg (by omega)]
  | succ m ih =>
    intro j f W gm v h6 h1 h2 h3 h4
    obtain ⟨f, rfl⟩ : ∃ z, f = z + 1 := ⟨f - 1, by omega⟩
    have ij : sv_in (nI (p + j)) 144 := pu_in (by omega) (by omega)
    rw [L_Mo_comesBack_61, if_neg (nI_ge (by omega) (by omega)), nI_add, nI_1, nI_1]
    simp only [if_pos ij]
    rw [pu_letn, nI_clamp (by omega)]
    have s21 : ∀ i, sa gm 21 (nI (p + j)) (-1) 21 i = if i = p + j then -1 else gm 21 i := by
      intro i
      rw [pu_sa, if_pos rfl, nI_clamp (by omega), pu_upd]
    have so : ∀ r, r ≠ 21 → sa gm 21 (nI (p + j)) (-1) r = gm r := by
      intro r hr; rw [pu_sa, if_neg hr]
    have v' : val21 (sa gm 21 (nI (p + j)) (-1)) n := by
      intro i hi
      rw [s21]
      split
      · exact Or.inl rfl
      · exact v i hi
    have st : stkB (sa gm 21 (nI (p + j)) (-1) 21) (p + (j + 1)) m = stkB (gm 21) (p + j + 1) m := by
      refine stkB_c m _ ?_
      intro i i1 i2
      rw [s21, if_neg (by omega)]
    by_cases c : gm 21 (p + j) = -1
    · rw [if_pos c]
      obtain ⟨gm', a1, a2, a3, a4⟩ := ih (j + 1) f W (sa gm 21 (nI (p + j)) (-1)) v' (by rw [so 6 (by omega)]; exact h6) (by omega) (by omega) (by omega) (by rw [so 20 (by omega)]; exact h4)
      rw [st] at a1 a2
      rw [stkB, if_pos c]
      refine ⟨gm', a1, a2, fun r r1 r2 => by rw [a3 r r1 r2, so r r2], ?_⟩
      intro i
      rw [a4 i, s21 i]
      by_cases ci : i = p + j
      · rw [if_neg (by omega), if_pos ci, if_pos (by omega)]
      · rw [if_neg ci]
        by_cases cj : p + j ≤ i ∧ i < p + h
        · rw [if_pos cj, if_pos (by omega)]
        · rw [if_neg cj, if_neg (by omega)]
    · rw [if_neg c]
      rcases v (p + j) (by omega) with e | ⟨b, b1, e⟩
      · exact absurd e c
      have ib : sv_in (nI b) 24 := pu_in (by omega) (by omega)
      have pq : ptq g t (gm 21 (p + j)) = true ↔ g 6 b = nI t := by
        rw [e]
        unfold ptq
        rw [decide_eq_true_iff]
        show g 6 (nI b).toNatClampNeg = _ ↔ _
        rw [nI_clamp (by omega)]
      rw [stkB, if_neg c, remF]
      rw [e]
      rw [e] at pq
      rw [if_pos ib, nI_clamp (by omega), so 6 (by omega), h6]
      by_cases c2 : g 6 b = nI t
      · rw [ifn c2, if_pos (pq.mpr c2)]
        obtain ⟨gm', a1, a2, a3, a4⟩ := ih (j + 1) f W (sa gm 21 (nI (p + j)) (-1)) v' (by rw [so 6 (by omega)]; exact h6) (by omega) (by omega) (by omega) (by rw [so 20 (by omega)]; exact h4)
        rw [st] at a1 a2
        refine ⟨gm', a1, a2, fun r r1 r2 => by rw [a3 r r1 r2, so r r2], ?_⟩
        intro i
        rw [a4 i, s21 i]
        by_cases ci : i = p + j
        · rw [if_neg (by omega), if_pos ci, if_pos (by omega)]
        · rw [if_neg ci]
          by_cases cj : p + j ≤ i ∧ i < p + h
          · rw [if_pos cj, if_pos (by omega)]
          · rw [if_neg cj, if_neg (by omega)]
      · have iw : sv_in (nI W.length) 3 := pu_in (by omega) (by omega)
        rw [if_pos c2, if_neg (fun z => c2 (pq.mp z)), if_pos iw, pu_letn]
        have t20 : ∀ i, sa (sa gm 21 (nI (p + j)) (-1)) 20 (nI W.length) (nI b) 20 i = if i = W.length then nI b else gm 20 i := by
          intro i
          rw [pu_sa, if_pos rfl, nI_clamp (by omega), pu_upd, so 20 (by omega)]
        have to : ∀ r, r ≠ 20 → sa (sa gm 21 (nI (p + j)) (-1)) 20 (nI W.length) (nI b) r = sa gm 21 (nI (p + j)) (-1) r := by
          intro r hr; rw [pu_sa, if_neg hr]
        have hW : (W ++ [nI b]).length = W.length + 1 := by simp
        obtain ⟨gm', a1, a2, a3, a4⟩ := ih (j + 1) f (W ++ [nI b]) (sa (sa gm 21 (nI (p + j)) (-1)) 20 (nI W.length) (nI b)) (by
          unfold val21; rw [to 21 (by omega)]; exact v') (by rw [to 6 (by omega), so 6 (by omega)]; exact h6) (by omega) (by omega) (by omega) (by
          rw [Hold_app]
          refine ⟨Hold_c _ _ ?_ h4, ?_, trivial⟩
          · intro i _ hi
            rw [t20, if_neg (by omega)]
          · rw [t20, if_pos (by omega)])
        rw [to 21 (by omega), st] at a1 a2
        rw [hW, List.append_assoc] at a1
        rw [List.append_assoc] at a2
        refine ⟨gm', a1, a2, fun r r1 r2 => by rw [a3 r r1 r2, to r r1, so r r2], ?_⟩
        intro i
        rw [a4 i, to 21 (by omega), s21 i]
        by_cases ci : i = p + j
        · rw [if_neg (by omega), if_pos ci, if_pos (by omega)]
        · rw [if_neg ci]
          by_cases cj : p + j ≤ i ∧ i < p + h
          · rw [if_pos cj, if_pos (by omega)]
          · rw [if_neg cj, if_neg (by omega)]
theorem cb_129 {p c w : Nat} (hp : p + c + w ≤ 144) (hw : w ≤ 3) : ∀ (S : List Int32) (i f : Nat) (gm : HH), i + S.length = w → S.length < f → Hold (gm 20) i S → ∃ gm', L_Mo_comesBack_129 N f (nI p) (nI c) (nI w) (nI i) gm = some gm' ∧ (∀ r, r ≠ 21 → gm' r = gm r) ∧ Hold (gm' 21) (p + c + i) S ∧ ∀ x, (x < p + c + i ∨ p + c + w ≤ x) → gm' 21 x = gm 21 x := by
  intro S
  induction S with
  | nil =>
    intro i f gm h1 h2 h3
    obtain ⟨f, rfl⟩ : ∃ z, f = z + 1 := ⟨f - 1, by omega⟩
    rw [List.length_nil] at h1
    have : i = w := by omega
    subst this
    refine ⟨gm, ?_, fun _ _ => rfl, trivial, fun _ _ => rfl⟩
    rw [L_Mo_comesBack_129, if_pos (Int32.le_refl _)]
  | cons b S ih =>
    intro i f gm h1 h2 h3
    obtain ⟨f, rfl⟩ : ∃ z, f = z + 1 := ⟨f - 1, by omega⟩
    rw [List.length_cons] at h1 h2
    have i3 : sv_in (nI i) 3 := pu_in (by omega) (by omega)
    have ij : sv_in (nI (p + c + i)) 144 := pu_in (by omega) (by omega)
    rw [L_Mo_comesBack_129, if_neg (nI_ge (by omega) (by omega)), nI_add, nI_add, nI_1, if_pos i3, if_pos ij, pu_letn, nI_clamp (by omega), h3.1]
    have s21 : ∀ x, sa gm 21 (nI (p + c + i)) b 21 x = if x = p + c + i then b else gm 21 x := by
      intro x
      rw [pu_sa, if_pos rfl, nI_clamp (by omega), pu_upd]
    have so : ∀ r, r ≠ 21 → sa gm 21 (nI (p + c + i)) b r = gm r := by
      intro r hr; rw [pu_sa, if_neg hr]
    obtain ⟨gm', a1, a2, a3, a4⟩ := ih (i + 1) f (sa gm 21 (nI (p + c + i)) b) (by omega) (by omega) (by rw [so 20 (by omega)]; exact h3.2)
    refine ⟨gm', a1, fun r hr => by rw [a2 r hr, so r hr], ⟨?_, ?_⟩, ?_⟩
    · rw [a4 _ (Or.inl (by omega)), s21, if_pos rfl]
    · exact a3
    · intro x hx
      rw [a4 x (by omega), s21, if_neg (by omega)]
theorem cb_eq (hn : n ≤ 24) (v : val21 gm n) (h6 : gm 6 = g 6) {p h : Nat} (hp : p + h ≤ 144) (hh3 : h ≤ 3) (hN : 10 ≤ N) : ∃ gm', F_Mo_comesBack N (nI p) (nI h) (nI t) gm = some (nI (cntF (ptq g t) false (stkB (gm 21) p h)), gm') ∧ (∀ r, r ≠ 20 → r ≠ 21 → gm' r = gm r) ∧ (∀ i, (i < p ∨ p + h ≤ i) → gm' 21 i = gm 21 i) ∧ stkB (gm' 21) p h = remF (ptq g t) (stkB (gm 21) p h) ∧ val21 gm' n := by
  obtain ⟨c, c1, c2, c3, c4, c5⟩ := cb_3 (g := g) (N := N) (t := t) hn v h6 hp h 0 N (by omega) (by omega)
  rw [show nI 0 = (0 : Int32) from rfl] at c3
  have A : ∀ x, x ∈ stkB (gm 21) p c → ¬ ptq g t x = true := by
    intro x hx
    obtain ⟨x1, i, i1, i2⟩ := stkB_mem c p x hx
    rcases c4 i (by omega) i1 with e | e
    · rw [i2] at x1; exact absurd e x1
    · rw [i2]; exact e
  have hsp : stkB (gm 21) p h = stkB (gm 21) p c ++ stkB (gm 21) (p + c) (h - c) := by
    rw [← stkB_app, show c + (h - c) = h by omega]
  obtain ⟨A1, A2⟩ := cnt_app (q := ptq g t) false (stkB (gm 21) p c) (stkB (gm 21) (p + c) (h - c)) A
  rw [hsp, A1, A2]
  unfold F_Mo_comesBack
  rw [c3, bind_sn]
  by_cases cc : c = h
  · subst cc
    rw [ifn rfl, Nat.sub_self, stkB]
    refine ⟨gm, rfl, fun _ _ _ => rfl, fun _ _ => rfl, ?_, v⟩
    rw [remF, List.append_nil]
  · have ne : ¬ nI c = nI h := fun z => cc ((nI_eq (by omega) (by omega)).mp z)
    rcases c5 with c5 | ⟨c5, c6⟩
    · exact absurd c5 cc
    rw [if_pos ne]
    obtain ⟨g1, a1, a2, a3, a4⟩ := cb_61 (g := g) (N := N) (t := t) hn (nI c) hp (h - c) c N [] gm v h6 (by omega) (by omega) (by rw [List.length_nil]; omega) trivial
    rw [List.nil_append] at a1 a2
    rw [show nI ([] : List Int32).length = (0 : Int32) from rfl] at a1
    rw [a1, bind_sn]
    have hlen : (remF (ptq g t) (stkB (gm 21) (p + c) (h - c))).length ≤ h - c := Nat.le_trans (remF_len _ _) (stkB_len _ _ _)
    obtain ⟨g2, d1, d2, d3, d4⟩ := cb_129 (N := N) (p := p) (c := c) (w := (remF (ptq g t) (stkB (gm 21) (p + c) (h - c))).length) (by omega) (by omega) (remF (ptq g t) (stkB (gm 21) (p + c) (h - c))) 0 N g1 (by omega) (by omega) a2
    rw [show nI 0 = (0 : Int32) from rfl] at d1
    rw [Nat.add_zero] at d3 d4
    show ∃ gm', Option.bind (L_Mo_comesBack_129 N N (nI p) (nI c) (nI (remF (ptq g t) (stkB (gm 21) (p + c) (h - c))).length) 0 g1) _ = _ ∧ _
    rw [d1, bind_sn]
    have hz : stkB (g2 21) (p + c) (h - c) = remF (ptq g t) (stkB (gm 21) (p + c) (h - c)) := by
      refine stkB_hold _ _ _ hlen d3 ?_ ?_
      · intro x hx
        exact (stkB_mem _ _ _ (remF_mem _ _ hx)).1
      · intro i i1 i2
        rw [d4 i (Or.inr i1), a4 i, if_pos (by omega)]
    refine ⟨g2, ?_, ?_, ?_, ?_, ?_⟩
    · obtain ⟨z, hz'⟩ : ∃ z, h - c = z + 1 := ⟨h - c - 1, by omega⟩
      rw [hz', stkB, if_neg c5, cntF, if_pos c6, cnt_true, remF, if_pos c6]
    · intro r r1 r2
      rw [d2 r r2, a3 r r1 r2]
    · intro i hi
      rw [d4 i (by omega), a4 i, if_neg (by omega)]
    · rw [show h = c + (h - c) by omega, stkB_app, show c + (h - c) - c = h - c by omega, hz]
      congr 1
      refine stkB_c c p ?_
      intro i i1 i2
      rw [d4 i (by omega), a4 i, if_neg (by omega)]
    · intro i hi
      by_cases ci : i < p + c ∨ p + c + (remF (ptq g t) (stkB (gm 21) (p + c) (h - c))).length ≤ i
      · rw [d4 i ci, a4 i]
        split
        · exact Or.inl rfl
        · exact v i hi
      · have := Hold_mem _ _ (i - (p + c)) d3 (by omega)
        rw [show p + c + (i - (p + c)) = i by omega] at this
        obtain ⟨x1, y, y1, y2⟩ := stkB_mem _ _ _ (remF_mem _ _ this)
        rw [y2]
        exact v _ (by omega)
end VOYB
