/-! ===== pure: a way found ===== -/
section WAYD
variable {k k' : KS} {g g' g2 gm gm' : HH} {hu hy hv hh hr hr' hc hc2 hp hl hl' : HH} {B R H D K n o N N' t w lim a0 S : Nat} {c c' : Nat → Nat}
def fstT (h : Nat → Option (Nat → Nat)) : Nat → Nat → Option (Nat → Nat)
  | _, 0 => none
  | b, m + 1 => if (h b).isSome = true then h b else fstT h (b + 1) m
def FdW (g : HH) (K S : Nat) : Nat → (Nat → Nat) → Option (Nat → Nat)
  | 0, c => some c
  | q + 1, c => fstT (fun b => if fitB g c (K - (q + 1)) b = true then FdW g K S q (updN c (K - (q + 1)) b) else none) 0 S
theorem fstT_none (h : Nat → Option (Nat → Nat)) : ∀ (m b : Nat), fstT h b m = none ↔ ∀ i, b ≤ i → i < b + m → h i = none
  | 0, b => ⟨fun _ i h1 h2 => by omega, fun _ => rfl⟩
  | m + 1, b => by
    rw [fstT]
    cases e : h b with
    | some x =>
      rw [if_pos (show (some x).isSome = true from rfl)]
      constructor
      · intro z; cases z
      · intro z
        have := z b (by omega) (by omega)
        rw [e] at this; cases this
    | none =>
      rw [if_neg (by decide), fstT_none h m (b + 1)]
      constructor
      · intro z i h1 h2
        by_cases ci : i = b
        · rw [ci]; exact e
        · exact z i (by omega) (by omega)
      · intro z i h1 h2
        exact z i (by omega) (by omega)
theorem sumN_z (F : Nat → Nat) : ∀ m, sumN F m = 0 ↔ ∀ i, i < m → F i = 0
  | 0 => ⟨fun _ i h => by omega, fun _ => rfl⟩
  | m + 1 => by
    have := sumN_z F m
    show sumN F m + F m = 0 ↔ _
    constructor
    · intro z i hi
      by_cases ci : i = m
      · rw [ci]; omega
      · exact this.mp (by omega) i (by omega)
    · intro z
      have h1 := this.mpr (fun i hi => z i (by omega))
      have h2 := z m (by omega)
      omega
theorem FdW_none : ∀ (q : Nat) (c : Nat → Nat), FdW g K S q c = none ↔ Wc g K S q c = 0
  | 0, c => by
    constructor
    · intro z; cases z
    · intro z; cases z
  | q + 1, c => by
    show fstT _ 0 S = none ↔ sumN _ S = 0
    rw [fstT_none, sumN_z]
    constructor
    · intro z i hi
      have := z i (by omega) (by omega)
      by_cases e : fitB g c (K - (q + 1)) i = true
      · rw [if_pos e]
        rw [if_pos e] at this
        exact (FdW_none q _).mp this
      · rw [if_neg e]
    · intro z i _ hi
      have := z i (by omega)
      by_cases e : fitB g c (K - (q + 1)) i = true
      · rw [if_pos e]
        rw [if_pos e] at this
        exact (FdW_none q _).mpr this
      · rw [if_neg e]
/-- what a search says of a found way -/
def FR (f : Nat → Int32) (K : Nat) (r : Option (Nat → Nat)) (y : Bool) : Prop := (∃ c', r = some c' ∧ y = true ∧ ∀ j, j < K → f j = nI (c' j)) ∨ (r = none ∧ y = false)
theorem fw_K (hS : S ≤ 8) (hN : 30 ≤ N) : ∀ (q dd : Nat) (c : Nat → Nat) (hr : HH), VS hh hr hc g B R H D K n o → q ≤ K → q < dd → (∀ j, c j < 8) → (∀ j, j < K - q → hr 7 j = nI (c j)) → ∃ y hr', F_Rules_findWayFrom N dd (nI (K - q)) (nI S) hr = some (bi y, hr') ∧ (∀ r, r ≠ 7 → hr' r = hr r) ∧ (∀ j, j < K - q → hr' 7 j = hr 7 j) ∧ FR (hr' 7) K (FdW g K S q c) y := by
  intro q
  induction q with
  | zero =>
    intro dd c hr V hq hd hc8 h7
    have hK := V.kk
    obtain ⟨dd, rfl⟩ : ∃ z, dd = z + 1 := ⟨dd - 1, by omega⟩
    refine ⟨true, hr, ?_, fun _ _ => rfl, fun _ _ => rfl, Or.inl ⟨c, rfl, rfl, fun j hj => h7 j (by omega)⟩⟩
    rw [F_Rules_findWayFrom, show hr 0 0 = nI K from V.2.2.2.1.1.1, Nat.sub_zero, if_neg (nI_nlt (by omega) (by omega))]
    rfl
  | succ q ih =>
    intro dd c hr V hq hd hc8 h7
    have hK := V.kk
    obtain ⟨dd, rfl⟩ : ∃ z, dd = z + 1 := ⟨dd - 1, by omega⟩
    have hk : K - (q + 1) < K := by omega
    have hk1 : K - (q + 1) + 1 = K - q := by omega
    rw [F_Rules_findWayFrom, show hr 0 0 = nI K from V.2.2.2.1.1.1, if_pos (nI_lt hk (by omega))]
    have loop : ∀ (m b f : Nat) (hr : HH), VS hh hr hc g B R H D K n o → (∀ j, j < K - (q + 1) → hr 7 j = nI (c j)) → b + m = S → m < f → ∃ y hr', sv_bs (L_Rules_findWayFrom_12 N (F_Rules_findWayFrom N dd) f (nI (K - (q + 1))) (nI S) (nI b) hr) id (fun (v13 : HH) => some ((0 : Int32), v13)) = some (bi y, hr') ∧ (∀ r, r ≠ 7 → hr' r = hr r) ∧ (∀ j, j < K - (q + 1) → hr' 7 j = hr 7 j) ∧ FR (hr' 7) K (fstT (fun b => if fitB g c (K - (q + 1)) b = true then FdW g K S q (updN c (K - (q + 1)) b) else none) b m) y := by
      intro m
      induction m with
      | zero =>
        intro b f hr V h7 h1 h2
        obtain ⟨f, rfl⟩ : ∃ z, f = z + 1 := ⟨f - 1, by omega⟩
        refine ⟨false, hr, ?_, fun _ _ => rfl, fun _ _ => rfl, Or.inr ⟨rfl, rfl⟩⟩
        rw [L_Rules_findWayFrom_12, if_pos (nI_le (by omega) (by omega))]
        rfl
      | succ m ihm =>
        intro b f hr V h7 h1 h2
        obtain ⟨f, rfl⟩ : ∃ z, f = z + 1 := ⟨f - 1, by omega⟩
        rw [L_Rules_findWayFrom_12, if_neg (nI_ge (by omega) (by omega)), fits_K V hk (by omega) hc8 (fun j hj _ => h7 j hj) (by omega), bind_sn, nI_1, nI_1, fstT]
        cases ef : fitB g c (K - (q + 1)) b with
        | false =>
          rw [if_pos (show bi false = 0 by decide)]
          rw [if_neg (show ¬ (false = true) by decide), if_neg (show ¬ (none : Option (Nat → Nat)).isSome = true by decide)]
          exact ihm (b + 1) f hr V h7 (by omega) (by omega)
        | true =>
          rw [if_neg (show ¬ bi true = 0 by decide), if_pos rfl, pu_letn, hk1]
          have s7 : ∀ j, sw hr 7 7 (nI (K - (q + 1))) (nI b) 7 j = if j = K - (q + 1) then nI b else hr 7 j := by
            intro j; rw [pu_sw, if_pos rfl, pu_wr _ _ (by omega) (by omega), pu_upd]
          have so : ∀ r, r ≠ 7 → sw hr 7 7 (nI (K - (q + 1))) (nI b) r = hr r := by
            intro r h; rw [pu_sw, if_neg h]
          obtain ⟨y, h2r, a1, a2, a3, a4⟩ := ih dd (updN c (K - (q + 1)) b) (sw hr 7 7 (nI (K - (q + 1))) (nI b)) (V.r7 so) (by omega) (by omega) (updN_8 hc8 (by omega)) (by
            intro j hj
            rw [s7]
            unfold updN
            by_cases cj : j = K - (q + 1)
            · rw [if_pos cj, if_pos cj]
            · rw [if_neg cj, if_neg cj]
              exact h7 j (by omega))
          rw [a1, bind_sn]
          have fr : ∀ j, j < K - (q + 1) → h2r 7 j = hr 7 j := by
            intro j hj
            rw [a3 j (by omega), s7, if_neg (by omega)]
          have V2 : VS hh h2r hc g B R H D K n o := V.r7 (fun r h => by rw [a2 r h, so r h])
          rcases a4 with ⟨c2, e1, e2, e3⟩ | ⟨e1, e2⟩
          · subst e2
            rw [e1, if_pos (show (some c2).isSome = true from rfl)]
            refine ⟨true, h2r, ?_, fun r h => by rw [a2 r h, so r h], fr, Or.inl ⟨c2, rfl, rfl, e3⟩⟩
            rw [if_neg (show ¬ bi true = 0 by decide)]
            rfl
          · subst e2
            rw [if_pos (show bi false = 0 by decide)]
            rcases part_K (N := N) V2 hk (by omega) with ⟨e, P⟩ | ⟨e, P⟩
            · rw [e, bind_sn, if_pos pu_10, e1, if_neg (show ¬ (none : Option (Nat → Nat)).isSome = true by decide)]
              obtain ⟨y, h3r, b1, b2, b3, b4⟩ := ihm (b + 1) f h2r V2 (fun j hj => by rw [fr j hj]; exact h7 j hj) (by omega) (by omega)
              exact ⟨y, h3r, b1, fun r h => by rw [b2 r h, a2 r h, so r h], fun j hj => by rw [b3 j hj, fr j hj], b4⟩
            · rw [e, bind_sn, ife0, e1, if_neg (show ¬ (none : Option (Nat → Nat)).isSome = true by decide)]
              refine ⟨false, h2r, rfl, fun r h => by rw [a2 r h, so r h], fr, Or.inr ⟨?_, rfl⟩⟩
              rw [hk1] at P
              have w0 := (FdW_none q _).mp e1
              rw [Wc_no V hq P c b] at w0
              rw [fstT_none]
              intro i _ _
              by_cases ei : fitB g c (K - (q + 1)) i = true
              · rw [if_pos ei, FdW_none, Wc_no V hq P c i]; exact w0
              · rw [if_neg ei]
    obtain ⟨y, h', a1, a2, a3, a4⟩ := loop S 0 N hr V h7 (by omega) (by omega)
    exact ⟨y, h', a1, a2, a3, a4⟩
theorem fw_M (V : VS hh hr hc g B R H D K n o) (hS : S ≤ 8) (hN : 30 ≤ N) : ∀ (q dd : Nat) (c : Nat → Nat) (gm : HH), (∀ r, r ≠ 18 → gm r = g r) → q ≤ K → q < dd → (∀ j, c j < 8) → (∀ j, j < K - q → gm 18 j = nI (c j)) → ∃ y gm', F_Mo_waysFrom N dd (nI (K - q)) (nI S) 1 gm = some ((if y = true then 1 else 0 : Int64), gm') ∧ (∀ r, r ≠ 18 → gm' r = g r) ∧ (∀ j, j < K - q → gm' 18 j = gm 18 j) ∧ FR (gm' 18) K (FdW g K S q c) y := by
  intro q
  have hK := V.kk
  have h16 : g 1 6 = nI K := V.2.2.2.1.1.2.1
  induction q with
  | zero =>
    intro dd c gm hg hq hd hc8 h7
    obtain ⟨dd, rfl⟩ : ∃ z, dd = z + 1 := ⟨dd - 1, by omega⟩
    refine ⟨true, gm, ?_, hg, fun _ _ => rfl, Or.inl ⟨c, rfl, rfl, fun j hj => h7 j (by omega)⟩⟩
    rw [F_Mo_waysFrom, if_pos (show sv_in (6 : Int32) 90 by decide), show ((6 : Int32)).toNatClampNeg = 6 from rfl, hg 1 (by omega), h16, Nat.sub_zero, ifn rfl]
    rfl
  | succ q ih =>
    intro dd c gm hg hq hd hc8 h7
    obtain ⟨dd, rfl⟩ : ∃ z, dd = z + 1 := ⟨dd - 1, by omega⟩
    have hk : K - (q + 1) < K := by omega
    have hk1 : K - (q + 1) + 1 = K - q := by omega
    have ik : sv_in (nI (K - (q + 1))) 7 := pu_in (by omega) (by omega)
    rw [F_Mo_waysFrom, if_pos (show sv_in (6 : Int32) 90 by decide), show ((6 : Int32)).toNatClampNeg = 6 from rfl, hg 1 (by omega), h16, if_pos (fun z => by have := (nI_eq (by omega) (by omega)).mp z; omega)]
    have loop : ∀ (m b f : Nat) (gm : HH), (∀ r, r ≠ 18 → gm r = g r) → (∀ j, j < K - (q + 1) → gm 18 j = nI (c j)) → b + m = S → m < f → ∃ y gm', sv_bs (L_Mo_waysFrom_19 N (F_Mo_waysFrom N dd) f (nI (K - (q + 1))) (nI S) 1 0 (nI b) gm) id (fun (v13 : Int64 × HH) => some (v13.1, v13.2)) = some ((if y = true then 1 else 0 : Int64), gm') ∧ (∀ r, r ≠ 18 → gm' r = g r) ∧ (∀ j, j < K - (q + 1) → gm' 18 j = gm 18 j) ∧ FR (gm' 18) K (fstT (fun b => if fitB g c (K - (q + 1)) b = true then FdW g K S q (updN c (K - (q + 1)) b) else none) b m) y := by
      intro m
      induction m with
      | zero =>
        intro b f gm hg h7 h1 h2
        obtain ⟨f, rfl⟩ : ∃ z, f = z + 1 := ⟨f - 1, by omega⟩
        refine ⟨false, gm, ?_, hg, fun _ _ => rfl, Or.inr ⟨rfl, rfl⟩⟩
        rw [L_Mo_waysFrom_19, if_pos (nI_le (by omega) (by omega))]
        rfl
      | succ m ihm =>
        intro b f gm hg h7 h1 h2
        obtain ⟨f, rfl⟩ : ∃ z, f = z + 1 := ⟨f - 1, by omega⟩
        rw [L_Mo_waysFrom_19, if_neg (nI_ge (by omega) (by omega)), suits_M V (hg 1 (by omega)) hk (by omega) hc8 h7 (by omega), bind_sn, nI_1, nI_1, fstT]
        cases ef : fitB g c (K - (q + 1)) b with
        | false =>
          rw [if_neg (show ¬ ¬ bi false = 0 by decide)]
          rw [if_neg (show ¬ (false = true) by decide), if_neg (show ¬ (none : Option (Nat → Nat)).isSome = true by decide)]
          exact ihm (b + 1) f gm hg h7 (by omega) (by omega)
        | true =>
          rw [if_pos (show ¬ bi true = 0 by decide), if_pos rfl, if_pos ik, pu_letn, hk1]
          have s7 : ∀ j, sa gm 18 (nI (K - (q + 1))) (nI b) 18 j = if j = K - (q + 1) then nI b else gm 18 j := by
            intro j; rw [pu_sa, if_pos rfl, nI_clamp (by omega), pu_upd]
          have so : ∀ r, r ≠ 18 → sa gm 18 (nI (K - (q + 1))) (nI b) r = g r := by
            intro r h; rw [pu_sa, if_neg h, hg r h]
          obtain ⟨y, h2r, a1, a2, a3, a4⟩ := ih dd (updN c (K - (q + 1)) b) (sa gm 18 (nI (K - (q + 1))) (nI b)) so (by omega) (by omega) (updN_8 hc8 (by omega)) (by
            intro j hj
            rw [s7]
            unfold updN
            by_cases cj : j = K - (q + 1)
            · rw [if_pos cj, if_pos cj]
            · rw [if_neg cj, if_neg cj]
              exact h7 j (by omega))
          rw [a1, bind_sn, if_neg pu_10]
          have fr : ∀ j, j < K - (q + 1) → h2r 18 j = gm 18 j := by
            intro j hj
            rw [a3 j (by omega), s7, if_neg (by omega)]
          rcases a4 with ⟨c2, e1, e2, e3⟩ | ⟨e1, e2⟩
          · subst e2
            rw [e1, if_pos (show (some c2).isSome = true from rfl)]
            refine ⟨true, h2r, ?_, a2, fr, Or.inl ⟨c2, rfl, rfl, e3⟩⟩
            rw [if_neg (show ¬ lg_cmp (0 + (if true = true then 1 else 0 : Int64)) 0 ≤ 0 by decide)]
            rfl
          · subst e2
            rw [if_pos (show lg_cmp (0 + (if false = true then 1 else 0 : Int64)) 0 ≤ 0 by decide), e1, if_neg (show ¬ (none : Option (Nat → Nat)).isSome = true by decide), show (0 + (if false = true then 1 else 0 : Int64)) = 0 by decide]
            obtain ⟨y, h3r, b1, b2, b3, b4⟩ := ihm (b + 1) f h2r a2 (fun j hj => by rw [fr j hj]; exact h7 j hj) (by omega) (by omega)
            exact ⟨y, h3r, b1, b2, fun j hj => by rw [b3 j hj, fr j hj], b4⟩
    obtain ⟨y, h', a1, a2, a3, a4⟩ := loop S 0 N gm hg h7 (by omega) (by omega)
    exact ⟨y, h', a1, a2, a3, a4⟩
/-- both find the same -/
theorem fw_eq (V : VS hh hr hc g B R H D K n o) (hg : ∀ r, r ≠ 18 → gm r = g r) (hS : S ≤ 8) (hN : 30 ≤ N) : ∃ y hr' gm', F_Rules_findWay N (nI S) hr = some (bi y, hr') ∧ F_Mo_waysFrom N 9 0 (nI S) 1 gm = some ((if y = true then 1 else 0 : Int64), gm') ∧ (∀ r, r ≠ 7 → hr' r = hr r) ∧ (∀ r, r ≠ 18 → gm' r = g r) ∧ (y = true → ∀ j, j < K → hr' 7 j = gm' 18 j) := by
  have hK := V.kk
  obtain ⟨y, hr', q1, q2, q3, q4⟩ := fw_K (N := N) (S := S) hS hN K 9 (fun _ => 0) hr V (by omega) (by omega) (fun _ => by omega) (fun j hj => by omega)
  obtain ⟨z, g', r1, r2, r3, r4⟩ := fw_M (N := N) (S := S) V hS hN K 9 (fun _ => 0) gm hg (by omega) (by omega) (fun _ => by omega) (fun j hj => by omega)
  rw [Nat.sub_self, show nI 0 = (0 : Int32) from rfl] at q1 r1
  have e : F_Rules_findWay N (nI S) hr = some (bi y, hr') := by
    unfold F_Rules_findWay
    rw [q1, bind_sn]
    cases y
    · rfl
    · rfl
  rcases q4 with ⟨c1, x1, x2, x3⟩ | ⟨x1, x2⟩
  · rcases r4 with ⟨c2, y1, y2, y3⟩ | ⟨y1, y2⟩
    · rw [x1] at y1
      have : c1 = c2 := Option.some.inj y1
      subst this
      subst x2
      subst y2
      exact ⟨true, hr', g', e, r1, q2, r2, fun _ j hj => by rw [x3 j hj, y3 j hj]⟩
    · rw [x1] at y1; cases y1
  · rcases r4 with ⟨c2, y1, y2, y3⟩ | ⟨y1, y2⟩
    · rw [x1] at y1; cases y1
    · subst x2
      subst y2
      exact ⟨false, hr', g', e, r1, q2, r2, fun z => by cases z⟩
theorem span_L (g : HH) (hN : 30 ≤ N) : ∀ (m s f f' : Nat) (hr gm : HH), VS hh hr hc g B R H D K n o → (∀ r, r ≠ 18 → gm r = g r) → s + m = 9 → m < f → m < f' → ∃ v hr' gm', sv_bs (L_K_span_12 N f (nI s) hr) id (fun v6 => some ((-1 : Int32), v6)) = some (v, hr') ∧ sv_bs (L_Mo_span_12 N f' (nI s) gm) id (fun v6 => some ((-1 : Int32), v6)) = some (v, gm') ∧ (∀ r, r ≠ 7 → hr' r = hr r) ∧ (∀ r, r ≠ 18 → gm' r = g r) := by
  intro m
  induction m with
  | zero =>
    intro s f f' hr gm V hg h1 h2 h3
    obtain ⟨f, rfl⟩ : ∃ z, f = z + 1 := ⟨f - 1, by omega⟩
    obtain ⟨f', rfl⟩ : ∃ z, f' = z + 1 := ⟨f' - 1, by omega⟩
    have : s = 9 := by omega
    subst this
    refine ⟨-1, hr, gm, ?_, ?_, fun _ _ => rfl, hg⟩
    · rw [L_K_span_12, if_pos (by decide)]; rfl
    · rw [L_Mo_span_12, if_pos (by decide)]; rfl
  | succ m ih =>
    intro s f f' hr gm V hg h1 h2 h3
    obtain ⟨f, rfl⟩ : ∃ z, f = z + 1 := ⟨f - 1, by omega⟩
    obtain ⟨f', rfl⟩ : ∃ z, f' = z + 1 := ⟨f' - 1, by omega⟩
    have c8 : ¬ (8 : Int32) < nI s := by
      rw [show (8 : Int32) = nI 8 from rfl]
      exact nI_nlt (by omega) (by omega)
    obtain ⟨y, hr2, g2, a1, a2, a3, a4, a5⟩ := fw_eq (N := N) (S := s) V hg (by omega) hN
    rw [L_K_span_12, if_neg c8, L_Mo_span_12, if_neg c8, a1, a2, bind_sn, bind_sn, nI_1]
    cases y with
    | true =>
      rw [if_neg (show ¬ bi true = 0 by decide), if_neg (show ¬ lg_cmp (if true = true then 1 else 0 : Int64) 0 ≤ 0 by decide)]
      exact ⟨nI s, hr2, g2, rfl, rfl, a3, a4⟩
    | false =>
      rw [if_pos (show bi false = 0 by decide), if_pos (show lg_cmp (if false = true then 1 else 0 : Int64) 0 ≤ 0 by decide)]
      obtain ⟨v, hr3, g3, b1, b2, b3, b4⟩ := ih (s + 1) f f' hr2 g2 (V.r7 a3) a4 (by omega) (by omega) (by omega)
      exact ⟨v, hr3, g3, b1, b2, fun r h => by rw [b3 r h, a3 r h], b4⟩
theorem sim_36 : Sim_36 Inv := by
  intro k g I
  unfold KO_36 MO_36 F_K_span F_Mo_span
  rcases i_there I with ⟨B, R, H, D, K, n, o, J, h1, h2⟩ | ⟨J, h1, h2⟩
  · rw [h1, h2]
    have V := J.2.2.1
    obtain ⟨v, hr', g', a1, a2, a3, a4⟩ := span_L (N := 3000) g (by omega) 8 1 3000 3000 (k 10) g V (fun _ _ => rfl) (by omega) (by omega) (by omega)
    rw [show nI 1 = (1 : Int32) from rfl] at a1 a2
    refine ⟨3000, 3000, v, ku k 10 hr', g', ?_, ?_, Inv_r7 I a3 (fun r _ h18 _ _ _ => a4 r h18)⟩
    · rw [if_pos pu_10, a1]; rfl
    · rw [if_pos pu_10, a2]; rfl
  · rw [h1, h2]
    refine ⟨3000, 3000, -2, ku k 10 (k 10), g, ?_, ?_, Inv_r7 I (fun _ _ => rfl) (fun _ _ _ _ _ _ => rfl)⟩
    · rw [ife0]; rfl
    · rw [ife0]; rfl
theorem sim_37 : Sim_37 Inv := by
  intro a1 a2 k g I
  unfold KO_37 MO_37 F_K_bayOf F_Mo_bayOf F_K_isSpan
  rw [show (1 : Int64) = (1 : Int32).toInt64 from rfl, show (8 : Int64) = (8 : Int32).toInt64 from rfl]
  simp only [pu_inw]
  rcases i_there I with ⟨B, R, H, D, K, n, o, J, h1, h2⟩ | ⟨J, h1, h2⟩
  · rw [h1]
    have V := J.2.2.1
    have hK := V.kk
    rcases a_kind (N := 3000) J a2 with ⟨kd, k1, k2, k3, k4⟩ | ⟨k3, k4⟩
    · subst k2
      rcases pu_wc a1 1 8 (by omega) (by omega) with ⟨S, d1, d2, d3, d4⟩ | ⟨d1, d4⟩
      · rw [show nI 1 = 1 from rfl, show nI 8 = 8 from rfl] at d4
        subst d3
        obtain ⟨y, hr', g', q1, q2, q3, q4, q5⟩ := fw_eq (N := 3000) (S := S) (gm := g) V (fun _ _ => rfl) (by omega) (by omega)
        have ik : sv_in (nI kd) 7 := pu_in (by omega) (by omega)
        refine ⟨3000, 3000, if y = true then g' 18 kd else -1, ku k 10 hr', g', ?_, ?_, Inv_r7 I q3 (fun r _ h18 _ _ _ => q4 r h18)⟩
        · rw [if_neg pu_10, d4, if_neg pu_10, if_neg pu_10, k3, if_pos pu_10, q1, bind_sn]
          unfold F_Rules_chosenBay
          rw [pu_rd _ (by omega) (by omega)]
          cases y with
          | true =>
            rw [if_neg (show ¬ bi true = 0 by decide)]
            show some (hr' 7 kd, ku k 10 hr') = some (g' 18 kd, ku k 10 hr')
            rw [q5 rfl kd k1]
          | false =>
            rw [if_pos (show bi false = 0 by decide)]; rfl
        · rw [k4, bind_sn, if_neg pu_10, d4, if_pos pu_10, q2, bind_sn, if_pos ik, nI_clamp (by omega)]
          cases y with
          | true =>
            rw [if_neg (show ¬ lg_cmp (if true = true then 1 else 0 : Int64) 0 ≤ 0 by decide)]; rfl
          | false =>
            rw [if_pos (show lg_cmp (if false = true then 1 else 0 : Int64) 0 ≤ 0 by decide)]; rfl
      · rw [show nI 1 = 1 from rfl, show nI 8 = 8 from rfl] at d4
        refine ⟨3000, 3000, -2, ku k 10 (k 10), g, ?_, ?_, Inv_r7 I (fun _ _ => rfl) (fun _ _ _ _ _ _ => rfl)⟩
        · rw [if_neg pu_10, d4, if_pos rfl, if_pos rfl]; rfl
        · rw [k4, bind_sn, if_neg pu_10, d4, ife0]; rfl
    · refine ⟨3000, 3000, -2, ku k 10 (k 10), g, ?_, ?_, Inv_r7 I (fun _ _ => rfl) (fun _ _ _ _ _ _ => rfl)⟩
      · rw [if_neg pu_10, k3, ife0]
        split <;> rfl
      · rw [k4, bind_sn, if_pos rfl]; rfl
  · rw [h1]
    have nk := n_kind (N := 3000) J a2
    refine ⟨3000, 3000, -2, ku k 10 (k 10), g, ?_, ?_, Inv_r7 I (fun _ _ => rfl) (fun _ _ _ _ _ _ => rfl)⟩
    · rw [if_pos rfl, if_pos rfl]; rfl
    · rw [nk.2, bind_sn, if_pos rfl]; rfl
end WAYD
