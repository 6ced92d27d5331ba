/-! ===== pure: two boxes change places ===== -/
section SWAP
variable {k k' : KS} {g g' g2 : HH} {hy hv hh hr hc hc2 hp : HH} {B R H D K n o N N' t : Nat}
/-- where the boxes lie says what the places hold -/
theorem row8 (V : VS hh hr hc g B R H D K n o) (V2 : VS hh hr hc2 g2 B R H D K n o) (h7 : ∀ b, b < n → g2 7 b = g 7 b) : ∀ p, p < 144 → g2 8 p = g 8 p := by
  have hn := V.nn
  have hP := V.pp
  intro p hp'
  rcases V.atb hp' with w | ⟨b, hb, w, w2⟩
  · rcases V2.atb hp' with u | ⟨c, hc', u, u2⟩
    · rw [w, u]
    · rw [h7 c hc'] at u2
      rcases V.plc hc' with z | ⟨q, hq, z, z2⟩
      · rw [z] at u2; exact absurd u2 (pu_m1' (by omega))
      · rw [z] at u2
        have := (nI_eq (by omega) (by omega)).mp u2
        subst this
        rw [w] at z2; exact absurd z2 (pu_m1' (by omega))
  · have e : g2 7 b = nI p := by rw [h7 b hb, w2]
    rcases V2.plc hb with z | ⟨q, hq, z, z2⟩
    · rw [z] at e; exact absurd e (pu_m1' (by omega))
    · rw [z] at e
      have := (nI_eq (by omega) (by omega)).mp e
      subst this
      rw [w, z2]
theorem VS.tr (V : VS hh hr hc g B R H D K n o) (V2 : VS hh hr hc2 g2 B R H D K n o) (h4 : ∀ b, b < n → g2 4 b = g 4 b ∧ g2 5 b = g 5 b ∧ g2 6 b = g 6 b) (h7 : ∀ b, b < n → g2 7 b = g 7 b) : VS hh hr hc g2 B R H D K n o := by
  have h8 := row8 V V2 h7
  obtain ⟨y1, y2, y3⟩ := V.2.2.2.2.2
  refine V2.mk' rfl V2.2.2.2.2.1 ⟨y1, ?_, ?_⟩
  · intro b hb
    obtain ⟨z1, z2, z3⟩ := h4 b hb
    rw [z1, z2, z3, h7 b hb]
    exact y2 b hb
  · intro p hp'; rw [h8 p hp']; exact y3 p hp'
theorem NoH_7 (V : VS hh hr hc g B R H D K n o) (V2 : VS hh hr hc2 g2 B R H D K n o) (h7 : ∀ b, b < n → g2 7 b = g 7 b) (h0 : NoH g H D (plN B R H D)) : NoH g2 H D (plN B R H D) := by
  have hP := V.pp
  have h8 := row8 V V2 h7
  intro p hp' a b
  rw [h8 p (by omega)] at a
  rw [h8 (p - 1) (by omega)]
  exact h0 p hp' a b
theorem VS.free (V : VS hh hr hc g B R H D K n o) {p : Nat} (hp' : p < 144) (h : ∀ c, c < n → g 7 c ≠ nI p) : g 8 p = -1 := by
  rcases V.atb hp' with w | ⟨b, hb, -, w⟩
  · exact w
  · exact absurd w (h b hb)
/-- one box moves to a place that no other has -/
theorem lay (V : VS hh hr hc g B R H D K n o) {b : Nat} (hb : b < n) {v : Int32} (hv : v = -1 ∨ ∃ p, p < plN B R H D ∧ v = nI p ∧ ∀ c, c < n → c ≠ b → g 7 c ≠ nI p) : ∃ g', F_Mo_lays N (nI b) v g = some g' ∧ VS hh hr (F_Cargo_move (nI b) v hc) g' B R H D K n o ∧ (∀ r, r ≠ 7 → r ≠ 8 → g' r = g r) ∧ (∀ c, g' 7 c = if c = b then v else g 7 c) ∧ ∀ p, p < 144 → g' 8 p = mv8 (g 8) (g 7 b) v b p := by
  have hP := V.pp
  have hv' : v = -1 ∨ ∃ p, p < plN B R H D ∧ v = nI p ∧ (g 8 p = -1 ∨ g 8 p = nI b) := by
    rcases hv with h | ⟨p, h1, h2, h3⟩
    · exact Or.inl h
    · refine Or.inr ⟨p, h1, h2, ?_⟩
      rcases V.atb (p := p) (by omega) with w | ⟨c, hc', w, w2⟩
      · exact Or.inl w
      · by_cases e : c = b
        · subst e; exact Or.inr w
        · exact absurd w2 (h3 c hc' e)
  obtain ⟨g', l0, V2, l1, l2, l3, l4, l5⟩ := lays_ok (N := N) V hb hv'
  exact ⟨g', l0, V2, l1, fun c => by rw [l2, pu_upd], l3⟩
/-- two boxes lie somewhere: their places differ from each other's and from all others' -/
theorem VS.two (V : VS hh hr hc g B R H D K n o) {a b p q : Nat} (ha : a < n) (hb : b < n) (hab : a ≠ b) (h1 : g 7 a = nI p) (h2 : g 7 b = nI q) (hp' : p < plN B R H D) (hq : q < plN B R H D) : p ≠ q ∧ (∀ c, c < n → c ≠ a → g 7 c ≠ nI p) ∧ ∀ c, c < n → c ≠ b → g 7 c ≠ nI q := by
  have hn := V.nn
  have hP := V.pp
  have uq : ∀ x r, x < n → r < plN B R H D → g 7 x = nI r → ∀ c, c < n → c ≠ x → g 7 c ≠ nI r := by
    intro x r hx hr' h c hc' hcx z
    have f : ∀ y, y < n → g 7 y = nI r → g 8 r = nI y := by
      intro y hy h'
      rcases V.plc hy with w | ⟨s, hs, w, w2⟩
      · rw [w] at h'; exact absurd h' (pu_m1' (by omega))
      · rw [w] at h'
        have := (nI_eq (by omega) (by omega)).mp h'
        subst this; exact w2
    have e1 := f x hx h
    have e2 := f c hc' z
    rw [e1] at e2
    exact hcx ((nI_eq (by omega) (by omega)).mp e2).symm
  refine ⟨?_, uq a p ha hp' h1, uq b q hb hq h2⟩
  intro e
  subst e
  exact uq a p ha hp' h1 b hb (fun z => hab z.symm) h2
theorem exch (V : VS hh hr hc g B R H D K n o) (ho : g 0 11 = nI o) {a b p q : Nat} (ha : a < n) (hb : b < n) (hab : a ≠ b) (h1 : g 7 a = nI p) (h2 : g 7 b = nI q) (hp' : p < plN B R H D) (hq : q < plN B R H D) (hN : 30 ≤ N) (hN' : 30 ≤ N') : ∃ v hc' g', F_Ves_exchange N (nI a) (nI b) hh hr hc = some (nI v, hc') ∧ F_Mo_changesOver N' (nI a) (nI b) g = some (nI v, g') ∧ v < 20 ∧ VS hh hr hc' g' B R H D K n o ∧ (∀ r, r ≠ 7 → r ≠ 8 → g' r = g r) ∧ (v = 0 → ∀ c, c < n → g' 7 c = if c = a then nI q else if c = b then nI p else g 7 c) ∧ (v ≠ 0 → ∀ c, c < n → g' 7 c = g 7 c) ∧ (v = 0 → NoH g H D (plN B R H D) → pinS g H D (plN B R H D) a = false → pinS g H D (plN B R H D) b = false → NoH g' H D (plN B R H D)) := by
  have hn := V.nn
  have hP := V.pp
  have ia : sv_in (nI a) 24 := pu_in (by omega) (by omega)
  have ib : sv_in (nI b) 24 := pu_in (by omega) (by omega)
  obtain ⟨hpq, up, uq⟩ := V.two ha hb hab h1 h2 hp' hq
  obtain ⟨-, -, -, -, -, -, -, -, -, -, -, -, -, -, ka⟩ := V.box ha
  obtain ⟨-, -, -, -, -, -, -, -, -, -, -, -, -, -, kb⟩ := V.box hb
  have m1 : ∀ x : Nat, x < 144 → (-1 : Int32) ≠ nI x := fun x hx => pu_m1' (by omega)
  obtain ⟨g1, l1, V1, r1, s1, t1⟩ := lay (N := N') V ha (v := -1) (Or.inl rfl)
  obtain ⟨g2, l2, V2, r2, s2, t2⟩ := lay (N := N') V1 hb (v := -1) (Or.inl rfl)
  have R2 : ∀ r, r ≠ 7 → r ≠ 8 → g2 r = g r := fun r a1 a2 => by rw [r2 r a1 a2, r1 r a1 a2]
  have S2 : ∀ c, g2 7 c = if c = b then -1 else if c = a then -1 else g 7 c := fun c => by rw [s2 c, s1 c]
  have ho2 : g2 0 11 = nI o := by rw [R2 0 (by omega) (by omega)]; exact ho
  -- neither hangs
  have noh2 : NoH g H D (plN B R H D) → pinS g H D (plN B R H D) a = false → pinS g H D (plN B R H D) b = false → NoH g2 H D (plN B R H D) := by
    intro h0 pa pb
    have n1 := NoH_mv V h0 ha pa (Or.inl rfl) t1
    refine NoH_mv V1 n1 hb ?_ (Or.inl rfl) t2
    have e7 : g1 7 b = nI q := by rw [s1 b, if_neg (fun z => hab z.symm), h2]
    unfold pinS at pb ⊢
    rw [h2, nn, nI_clamp (by omega)] at pb
    rw [e7, nn, nI_clamp (by omega)]
    simp only [decide_eq_false_iff_not] at pb ⊢
    rintro ⟨z1, z2, z3, z4⟩
    refine pb ⟨z1, z2, z3, ?_⟩
    intro z5
    rw [t1 (q + 1) (by omega)] at z4
    unfold mv8 at z4
    rw [if_neg (m1 (q + 1) (by omega)), z5] at z4
    simp at z4
  obtain ⟨w, w1, w2, w3, w4⟩ := whyBox_eq (N := N) (N' := N') V2 ho2 ha hq hN hN'
  unfold F_Ves_exchange F_Mo_changesOver
  simp only [pu_letn, if_pos ia, if_pos ib]
  rw [nI_clamp (by omega), nI_clamp (by omega), h1, h2, l1, bind_sn, l2, bind_sn, ka, kb, h1, h2, w1, w2, bind_sn, bind_sn]
  have w0 : nI w = 0 ↔ w = 0 := nI_eq (a := w) (b := 0) (by omega) (by omega)
  -- back to where they lay, from a state in which others lie as ever
  have back : ∀ (hx gx : HH), VS hh hr hx gx B R H D K n o → (∀ r, r ≠ 7 → r ≠ 8 → gx r = g r) → (∀ c, c < n → c ≠ a → gx 7 c = if c = b then -1 else g 7 c) → ∃ gy ga gb, F_Mo_lays N' (nI a) (-1) gx = some gy ∧ F_Mo_lays N' (nI a) (nI p) gy = some ga ∧ F_Mo_lays N' (nI b) (nI q) ga = some gb ∧ (∀ r, r ≠ 7 → r ≠ 8 → gb r = g r) ∧ (∀ c, c < n → gb 7 c = g 7 c) ∧ VS hh hr (F_Cargo_move (nI b) (nI q) (F_Cargo_move (nI a) (nI p) hx)) gb B R H D K n o := by
    intro hx gx Vx rx sx
    obtain ⟨gy, y1, Vy, y2, y3, -⟩ := lay (N := N') Vx ha (v := -1) (Or.inl rfl)
    have qp : ∀ c, c < n → c ≠ a → gy 7 c ≠ nI p := by
      intro c hc' hca z
      rw [y3 c, if_neg hca, sx c hc' hca] at z
      by_cases e : c = b
      · rw [if_pos e] at z; exact m1 p (by omega) z
      · rw [if_neg e] at z; exact up c hc' hca z
    obtain ⟨ga, a1, Va, a2, a3, -⟩ := lay (N := N') Vy ha (v := nI p) (Or.inr ⟨p, hp', rfl, qp⟩)
    have qq : ∀ c, c < n → c ≠ b → ga 7 c ≠ nI q := by
      intro c hc' hcb z
      rw [a3 c] at z
      by_cases e : c = a
      · rw [if_pos e] at z; exact hpq ((nI_eq (by omega) (by omega)).mp z)
      · rw [if_neg e, y3 c, if_neg e, sx c hc' e, if_neg hcb] at z; exact uq c hc' hcb z
    obtain ⟨gb, b1, Vb, b2, b3, -⟩ := lay (N := N') Va hb (v := nI q) (Or.inr ⟨q, hq, rfl, qq⟩)
    have R : ∀ r, r ≠ 7 → r ≠ 8 → gb r = g r := fun r c1 c2 => by rw [b2 r c1 c2, a2 r c1 c2, y2 r c1 c2, rx r c1 c2]
    have S : ∀ c, c < n → gb 7 c = g 7 c := by
      intro c hc'
      rw [b3 c, a3 c, y3 c]
      by_cases e1 : c = b
      · rw [if_pos e1, e1, h2]
      · rw [if_neg e1]
        by_cases e2 : c = a
        · rw [if_pos e2, e2, h1]
        · rw [if_neg e2, if_neg e2, sx c hc' e2, if_neg e1]
    refine ⟨gy, ga, gb, y1, a1, b1, R, S, ?_⟩
    -- the class goes there straight
    have qp' : ∀ c, c < n → c ≠ a → gx 7 c ≠ nI p := by
      intro c hc' hca z
      rw [sx c hc' hca] at z
      by_cases e : c = b
      · rw [if_pos e] at z; exact m1 p (by omega) z
      · rw [if_neg e] at z; exact up c hc' hca z
    obtain ⟨gc, c1, Vc, c2, c3, -⟩ := lay (N := N') Vx ha (v := nI p) (Or.inr ⟨p, hp', rfl, qp'⟩)
    have qq' : ∀ c, c < n → c ≠ b → gc 7 c ≠ nI q := by
      intro c hc' hcb z
      rw [c3 c] at z
      by_cases e : c = a
      · rw [if_pos e] at z; exact hpq ((nI_eq (by omega) (by omega)).mp z)
      · rw [if_neg e, sx c hc' e, if_neg hcb] at z; exact uq c hc' hcb z
    obtain ⟨gd, d1, Vd, d2, d3, -⟩ := lay (N := N') Vc hb (v := nI q) (Or.inr ⟨q, hq, rfl, qq'⟩)
    refine Vd.tr Vb ?_ ?_
    · intro c _
      rw [R 4 (by omega) (by omega), R 5 (by omega) (by omega), R 6 (by omega) (by omega), d2 4 (by omega) (by omega), d2 5 (by omega) (by omega), d2 6 (by omega) (by omega), c2 4 (by omega) (by omega), c2 5 (by omega) (by omega), c2 6 (by omega) (by omega), rx 4 (by omega) (by omega), rx 5 (by omega) (by omega), rx 6 (by omega) (by omega)]
      exact ⟨rfl, rfl, rfl⟩
    · intro c hc'
      rw [S c hc', d3 c, c3 c]
      by_cases e1 : c = b
      · rw [if_pos e1, e1, h2]
      · rw [if_neg e1]
        by_cases e2 : c = a
        · rw [if_pos e2, e2, h1]
        · rw [if_neg e2, sx c hc' e2, if_neg e1]
  by_cases c0 : w = 0
  case neg =>
    have z0 : ¬ nI w = 0 := fun z => c0 (w0.mp z)
    rw [if_pos z0, if_pos z0, bind_sn, bind_sn]
    dsimp only
    rw [if_pos z0, if_neg z0]
    obtain ⟨gy, ga, gb, b1, b2, b3, b4, b5, b6⟩ := back _ g2 V2 R2 (fun c _ hca => by rw [S2 c, if_neg hca])
    rw [b1, bind_sn, b2, bind_sn, b3, bind_sn]
    exact ⟨w, _, gb, rfl, rfl, by omega, b6, b4, fun z => absurd z c0, fun _ => b5, fun z => absurd z c0⟩
  subst c0
  obtain ⟨w5, w6⟩ := w4 rfl
  rw [show nI 0 = 0 from rfl, ife0, ife0]
  have qq : ∀ c, c < n → c ≠ a → g2 7 c ≠ nI q := by
    intro c hc' hca z
    rw [S2 c, if_neg hca] at z
    by_cases e : c = b
    · rw [if_pos e] at z; exact m1 q (by omega) z
    · rw [if_neg e] at z; exact uq c hc' e z
  obtain ⟨g3, l3, V3, r3, s3, t3⟩ := lay (N := N') V2 ha (v := nI q) (Or.inr ⟨q, hq, rfl, qq⟩)
  have R3 : ∀ r, r ≠ 7 → r ≠ 8 → g3 r = g r := fun r a1 a2 => by rw [r3 r a1 a2, R2 r a1 a2]
  have S3 : ∀ c, g3 7 c = if c = a then nI q else if c = b then -1 else g 7 c := fun c => by
    rw [s3 c, S2 c]
    by_cases e : c = a
    · rw [if_pos e, if_pos e]
    · rw [if_neg e, if_neg e, if_neg e]
  have ho3 : g3 0 11 = nI o := by rw [R3 0 (by omega) (by omega)]; exact ho
  obtain ⟨u, u1, u2, u3, u4⟩ := whyBox_eq (N := N) (N' := N') V3 ho3 hb hp' hN hN'
  have u0 : nI u = 0 ↔ u = 0 := nI_eq (a := u) (b := 0) (by omega) (by omega)
  rw [l3, bind_sn, u1, u2, bind_sn, bind_sn]
  by_cases c1 : u = 0
  case neg =>
    have z0 : ¬ nI u = 0 := fun z => c1 (u0.mp z)
    have e10 : (10 : Int32) + nI u = nI (10 + u) := nI_add 10 u
    have z1 : ¬ nI (10 + u) = 0 := nI_ne0 (by omega) (by omega)
    rw [if_pos z0, if_pos z0, e10, if_pos z1, bind_sn, bind_sn]
    dsimp only
    rw [if_pos z1, if_neg z1]
    obtain ⟨gy, ga, gb, b1, b2, b3, b4, b5, b6⟩ := back _ g3 V3 R3 (fun c _ hca => by rw [S3 c, if_neg hca])
    rw [b1, bind_sn, b2, bind_sn, b3, bind_sn]
    exact ⟨10 + u, _, gb, rfl, rfl, by omega, b6, b4, fun z => by omega, fun _ => b5, fun z => by omega⟩
  subst c1
  obtain ⟨u5, u6⟩ := u4 rfl
  have qp : ∀ c, c < n → c ≠ b → g3 7 c ≠ nI p := by
    intro c hc' hcb z
    rw [S3 c] at z
    by_cases e : c = a
    · rw [if_pos e] at z; exact hpq ((nI_eq (by omega) (by omega)).mp z).symm
    · rw [if_neg e, if_neg hcb] at z; exact up c hc' e z
  obtain ⟨g4, l4, V4, r4, s4, t4⟩ := lay (N := N') V3 hb (v := nI p) (Or.inr ⟨p, hp', rfl, qp⟩)
  rw [show nI 0 = 0 from rfl, ife0, ife0, ife0, l4, bind_sn, bind_sn, bind_sn]
  dsimp only
  rw [ife0, if_pos rfl]
  refine ⟨0, _, g4, rfl, rfl, by omega, V4, fun r a1 a2 => by rw [r4 r a1 a2, R3 r a1 a2], ?_, fun z => absurd rfl z, ?_⟩
  · intro _ c _
    rw [s4 c, S3 c]
    by_cases e : c = a
    · have : c ≠ b := fun z => hab (e.symm.trans z)
      rw [if_neg this, if_pos e, if_pos e]
    · rw [if_neg e, if_neg e]
      by_cases e2 : c = b
      · rw [if_pos e2, if_pos e2]
      · rw [if_neg e2, if_neg e2, if_neg e2]
  · intro _ h0 pa pb
    have n2 := noh2 h0 pa pb
    have pin2 : pinS g2 H D (plN B R H D) a = false := by
      unfold pinS; rw [S2 a, if_neg hab, if_pos rfl]; simp
    have n3 := NoH_mv V2 n2 ha pin2 (Or.inr ⟨q, hq, rfl, w6⟩) t3
    have pin3 : pinS g3 H D (plN B R H D) b = false := by
      unfold pinS; rw [S3 b, if_neg (fun z => hab z.symm), if_pos rfl]; simp
    exact NoH_mv V3 n3 hb pin3 (Or.inr ⟨p, hp', rfl, u6⟩) t4
end SWAP
