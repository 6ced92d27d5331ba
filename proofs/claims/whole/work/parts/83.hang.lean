/-! ===== pure: hanging together ===== -/
section HANB
variable {k k' : KS} {g g' g2 gm gm' : HH} {hu hy hv hh hr hc hc2 hp hl hl' : HH} {B R H D K n o N N' t w lim a0 : Nat} {A : Nat → Nat → Bool}
def RI (A : Nat → Nat → Bool) (g gm : HH) (n a0 : Nat) : Prop := (∀ b, b < n → gm 19 b = 0 ∨ (gm 19 b = 1 ∧ Rch A n a0 b)) ∧ ∀ r, r ≠ 19 → gm r = g r
theorem adj_M (V : VS hh hr hc g B R H D K n o) (ho : g 0 11 = nI o) (hg : ∀ r, r ≠ 19 → gm r = g r) {x y : Nat} (hx : x < n) (hlx : g 7 x ≠ -1) (hy : y < n) (hly : g 7 y ≠ -1) (hN : 10 ≤ N) : F_Mo_areBeside N (gm 7 x) (gm 7 y) gm = some (bi (AdjS g o R H D x y)) := by
  have hP := V.pp
  rcases V.plc hx with z | ⟨p, p1, p2, p3⟩
  · exact absurd z hlx
  rcases V.plc hy with z | ⟨q, q1, q2, q3⟩
  · exact absurd z hly
  unfold AdjS
  rw [hg 7 (by omega), decide_eq_true hly, p2, q2, Mo_bes V (hg 1 (by omega)) (by rw [hg 0 (by omega)]; exact ho) p1 q1 hN]
  show _ = some (bi (true && besS g o R H D (nI p).toNatClampNeg (nI q).toNatClampNeg))
  rw [nI_clamp (by omega), nI_clamp (by omega), Bool.true_and]
theorem hang_25 {x1 : Nat} (hx : x1 < 144) (hn : n ≤ 24) (ha : a0 < n) : ∀ (m j f : Nat) (gm : HH), gm 0 6 = nI n → gm 8 x1 = nI a0 → j + m = n → m < f → ∃ gm', L_Mo_hang_25 N f (nI x1) (nI j) gm = some gm' ∧ (∀ r, r ≠ 19 → gm' r = gm r) ∧ ∀ b, gm' 19 b = if j ≤ b ∧ b < n then (if b = a0 then 1 else 0) else gm 19 b := by
  intro m
  induction m with
  | zero =>
    intro j f gm h6 h8 h1 h2
    obtain ⟨f, rfl⟩ : ∃ z, f = z + 1 := ⟨f - 1, by omega⟩
    refine ⟨gm, ?_, fun _ _ => rfl, ?_⟩
    · rw [L_Mo_hang_25, h6, if_pos (nI_le (by omega) (by omega))]
    · intro b; rw [if_neg (by omega)]
  | succ m ih =>
    intro j f gm h6 h8 h1 h2
    obtain ⟨f, rfl⟩ : ∃ z, f = z + 1 := ⟨f - 1, by omega⟩
    have ix : sv_in (nI x1) 144 := pu_in (by omega) (by omega)
    have ij : sv_in (nI j) 24 := pu_in (by omega) (by omega)
    rw [L_Mo_hang_25, h6, if_neg (nI_ge (by omega) (by omega)), if_pos ix, pu_letn, if_pos ij, pu_letn, nI_clamp (by omega), h8, nI_1]
    have e : vp_nar .boolean (if ¬ nI j = nI a0 then 0 else 1) = if j = a0 then 1 else 0 := by
      by_cases c : j = a0
      · rw [ifn (congrArg nI c), if_pos c]; decide
      · rw [if_pos (fun z => c ((nI_eq (by omega) (by omega)).mp z)), if_neg c]; decide
    rw [e]
    have so : ∀ (v : Int32) (r : Nat), r ≠ 19 → sa gm 19 (nI j) v r = gm r := by
      intro v r hr; rw [pu_sa, if_neg hr]
    obtain ⟨gm', a1, a2, a3⟩ := ih (j + 1) f (sa gm 19 (nI j) (if j = a0 then 1 else 0)) (by rw [so _ 0 (by omega)]; exact h6) (by rw [so _ 8 (by omega)]; exact h8) (by omega) (by omega)
    refine ⟨gm', a1, fun r hr => by rw [a2 r hr, so _ r hr], ?_⟩
    intro b
    rw [a3 b, pu_sa, if_pos rfl, nI_clamp (by omega), pu_upd]
    by_cases c : b = j
    · rw [if_neg (show ¬ (j + 1 ≤ b ∧ b < n) by omega), if_pos c, if_pos (show j ≤ b ∧ b < n by omega), c]
    · rw [if_neg c]
      by_cases c2 : j + 1 ≤ b ∧ b < n
      · rw [if_pos c2, if_pos (show j ≤ b ∧ b < n by omega)]
      · rw [if_neg c2, if_neg (show ¬ (j ≤ b ∧ b < n) by omega)]
theorem hang_86 (V : VS hh hr hc g B R H D K n o) (ho : g 0 11 = nI o) (h0 : a0 < n) (hl0 : g 7 a0 ≠ -1) (x3 : Int32) {x : Nat} (hx : x < n) (hN : 10 ≤ N) : ∀ (m j f : Nat) (gm : HH), RI (AdjS g o R H D) g gm n a0 → j + m = n → m < f → ∃ gm', L_Mo_hang_86 N f x3 (nI x) (nI j) gm = some gm' ∧ RI (AdjS g o R H D) g gm' n a0 ∧ (∀ b, b < n → gm 19 b = 1 → gm' 19 b = 1) ∧ (gm 19 x = 1 → ∀ y, j ≤ y → y < n → AdjS g o R H D x y = true → gm' 19 y = 1) := by
  intro m
  have hn := V.nn
  induction m with
  | zero =>
    intro j f gm I h1 h2
    obtain ⟨f, rfl⟩ : ∃ z, f = z + 1 := ⟨f - 1, by omega⟩
    refine ⟨gm, ?_, I, fun _ _ h => h, fun _ y y1 y2 => by omega⟩
    rw [L_Mo_hang_86, I.2 0 (by omega), V.n6, if_pos (nI_le (by omega) (by omega))]
  | succ m ih =>
    intro j f gm I h1 h2
    obtain ⟨f, rfl⟩ : ∃ z, f = z + 1 := ⟨f - 1, by omega⟩
    have hj : j < n := by omega
    have ix : sv_in (nI x) 24 := pu_in (by omega) (by omega)
    have ij : sv_in (nI j) 24 := pu_in (by omega) (by omega)
    have skip : (gm 19 x = 1 → AdjS g o R H D x j = true → gm 19 j = 1) → ∃ gm', L_Mo_hang_86 N f x3 (nI x) (nI (j + 1)) gm = some gm' ∧ RI (AdjS g o R H D) g gm' n a0 ∧ (∀ b, b < n → gm 19 b = 1 → gm' 19 b = 1) ∧ (gm 19 x = 1 → ∀ y, j ≤ y → y < n → AdjS g o R H D x y = true → gm' 19 y = 1) := by
      intro hs
      obtain ⟨gm', a1, a2, a3, a4⟩ := ih (j + 1) f gm I (by omega) (by omega)
      refine ⟨gm', a1, a2, a3, ?_⟩
      intro z y y1 y2 y3
      by_cases cy : y = j
      · subst cy; exact a3 y hj (hs z y3)
      · exact a4 z y (by omega) y2 y3
    rw [L_Mo_hang_86, I.2 0 (by omega), V.n6, if_neg (nI_ge (by omega) (by omega))]
    simp only [if_pos ix, if_pos ij]
    rw [nI_clamp (by omega), nI_clamp (by omega), nI_1]
    rcases I.1 x hx with f0 | ⟨f0, rx⟩
    · rw [f0, if_pos rfl]
      rw [f0] at skip
      have := skip (fun z => absurd z (by decide))
      exact this
    · rw [f0, if_neg pu_10]
      rw [f0] at skip
      obtain ⟨_, hlx⟩ := Rch_lies h0 hl0 rx
      rcases I.1 j hj with e0 | ⟨e0, rj⟩
      · rw [e0, ife0]
        by_cases c7 : g 7 j = -1
        · rw [if_pos (by rw [I.2 7 (by omega)]; exact c7)]
          refine skip (fun _ z => ?_)
          unfold AdjS at z
          rw [Bool.and_eq_true] at z
          exact absurd c7 (of_decide_eq_true z.1)
        · rw [if_neg (by rw [I.2 7 (by omega)]; exact c7), adj_M V ho I.2 hx hlx hj c7 hN, bind_sn]
          by_cases ca : AdjS g o R H D x j = true
          · rw [ca, if_neg (show ¬ bi true = 0 by decide), pu_letn, show vp_nar .boolean 1 = 1 by decide]
            have so : ∀ r, r ≠ 19 → sa gm 19 (nI j) 1 r = gm r := by
              intro r hr; rw [pu_sa, if_neg hr]
            have s19 : ∀ b, sa gm 19 (nI j) 1 19 b = if b = j then 1 else gm 19 b := by
              intro b; rw [pu_sa, if_pos rfl, nI_clamp (by omega), pu_upd]
            have I' : RI (AdjS g o R H D) g (sa gm 19 (nI j) 1) n a0 := by
              refine ⟨?_, fun r hr => by rw [so r hr, I.2 r hr]⟩
              intro b hb
              rw [s19]
              by_cases cb : b = j
              · rw [if_pos cb]; exact Or.inr ⟨rfl, by rw [cb]; exact Rch_step rx hj ca⟩
              · rw [if_neg cb]; exact I.1 b hb
            obtain ⟨gm', a1, a2, a3, a4⟩ := ih (j + 1) f (sa gm 19 (nI j) 1) I' (by omega) (by omega)
            refine ⟨gm', a1, a2, ?_, ?_⟩
            · intro b hb hb1
              refine a3 b hb ?_
              rw [s19]; split
              · rfl
              · exact hb1
            · intro _ y y1 y2 y3
              by_cases cy : y = j
              · subst cy; exact a3 y hj (by rw [s19, if_pos rfl])
              · refine a4 ?_ y (by omega) y2 y3
                rw [s19]; split
                · rfl
                · exact f0
          · rw [if_pos ((bi0 _).mpr (by simpa using ca))]
            exact skip (fun _ z => absurd z ca)
      · rw [e0, if_pos pu_10]
        exact skip (fun _ _ => e0)
theorem hang_74 (V : VS hh hr hc g B R H D K n o) (ho : g 0 11 = nI o) (h0 : a0 < n) (hl0 : g 7 a0 ≠ -1) (x3 : Int32) (hN : 30 ≤ N) : ∀ (m j f : Nat) (gm : HH), RI (AdjS g o R H D) g gm n a0 → j + m = n → m < f → ∃ gm', L_Mo_hang_74 N f x3 (nI j) gm = some gm' ∧ RI (AdjS g o R H D) g gm' n a0 ∧ (∀ b, b < n → gm 19 b = 1 → gm' 19 b = 1) ∧ (∀ x, j ≤ x → x < n → gm 19 x = 1 → ∀ y, y < n → AdjS g o R H D x y = true → gm' 19 y = 1) := by
  intro m
  have hn := V.nn
  induction m with
  | zero =>
    intro j f gm I h1 h2
    obtain ⟨f, rfl⟩ : ∃ z, f = z + 1 := ⟨f - 1, by omega⟩
    refine ⟨gm, ?_, I, fun _ _ h => h, fun x x1 x2 => by omega⟩
    rw [L_Mo_hang_74, I.2 0 (by omega), V.n6, if_pos (nI_le (by omega) (by omega))]
  | succ m ih =>
    intro j f gm I h1 h2
    obtain ⟨f, rfl⟩ : ∃ z, f = z + 1 := ⟨f - 1, by omega⟩
    obtain ⟨g1, a1, a2, a3, a4⟩ := hang_86 (N := N) V ho h0 hl0 x3 (x := j) (by omega) (by omega) n 0 N gm I (by omega) (by omega)
    rw [show nI 0 = (0 : Int32) from rfl] at a1
    rw [L_Mo_hang_74, I.2 0 (by omega), V.n6, if_neg (nI_ge (by omega) (by omega)), a1, bind_sn, nI_1]
    obtain ⟨g2, c1, c2, c3, c4⟩ := ih (j + 1) f g1 a2 (by omega) (by omega)
    refine ⟨g2, c1, c2, fun b hb h => c3 b hb (a3 b hb h), ?_⟩
    intro x x1 x2 x3 y y1 y2
    by_cases cx : x = j
    · subst cx; exact c3 y y1 (a4 x3 y (by omega) y1 y2)
    · exact c4 x (by omega) x2 (a3 x x2 x3) y y1 y2
theorem hang_172 (hn : n ≤ 24) (x3 : Int32) (h6 : gm 0 6 = nI n) (h19 : ∀ b, b < n → gm 19 b = 0 ∨ gm 19 b = 1) : ∀ (m j f c : Nat), j + m = n → m < f → L_Mo_hang_172 N f (nI c) x3 (nI j) gm = some (nI (c + sumT (fun b => b1 (decide (gm 19 b = 1))) j m)) := by
  intro m
  induction m with
  | zero =>
    intro j f c h1 h2
    obtain ⟨f, rfl⟩ : ∃ z, f = z + 1 := ⟨f - 1, by omega⟩
    rw [L_Mo_hang_172, h6, if_pos (nI_le (by omega) (by omega)), sumT, Nat.add_zero]
  | succ m ih =>
    intro j f c h1 h2
    obtain ⟨f, rfl⟩ : ∃ z, f = z + 1 := ⟨f - 1, by omega⟩
    have ij : sv_in (nI j) 24 := pu_in (by omega) (by omega)
    rw [L_Mo_hang_172, h6, if_neg (nI_ge (by omega) (by omega)), if_pos ij, nI_clamp (by omega), nI_1, nI_1, Int32.add_zero, sumT]
    rcases h19 j (by omega) with e | e
    · rw [if_pos e, ih (j + 1) f c (by omega) (by omega), decide_eq_false (by rw [e]; decide)]
      show _ = some (nI (c + (0 + _)))
      rw [Nat.zero_add]
    · rw [if_neg (by rw [e]; exact pu_10), ih (j + 1) f (c + 1) (by omega) (by omega), decide_eq_true e]
      show _ = some (nI (c + (1 + _)))
      rw [Nat.add_assoc]
/-- one pass and the count after it -/
theorem hang_p (V : VS hh hr hc g B R H D K n o) (ho : g 0 11 = nI o) (h0 : a0 < n) (hl0 : g 7 a0 ≠ -1) (hN : 30 ≤ N) (I : RI (AdjS g o R H D) g gm n a0) (x2 x3 : Int32) (hx : x3 ≠ x2) (f : Nat) : ∃ gm', L_Mo_hang_64 N (f + 1) x2 x3 gm = L_Mo_hang_64 N f (nI (cnN (gm' 19) n)) x2 gm' ∧ RI (AdjS g o R H D) g gm' n a0 ∧ (∀ b, b < n → gm 19 b = 1 → gm' 19 b = 1) ∧ (∀ x, x < n → gm 19 x = 1 → ∀ y, y < n → AdjS g o R H D x y = true → gm' 19 y = 1) := by
  have hn := V.nn
  obtain ⟨g1, a1, a2, a3, a4⟩ := hang_74 (N := N) V ho h0 hl0 x2 hN n 0 N gm I (by omega) (by omega)
  have e := hang_172 (N := N) (gm := g1) hn x2 (by rw [a2.2 0 (by omega)]; exact V.n6) (fun b hb => (a2.1 b hb).imp id And.left) n 0 N 0 (by omega) (by omega)
  rw [show nI 0 = (0 : Int32) from rfl] at a1 e
  refine ⟨g1, ?_, a2, a3, fun x => a4 x (Nat.zero_le _)⟩
  rw [L_Mo_hang_64, if_neg (fun z => hx z.symm), a1, bind_sn, e, bind_sn, Nat.zero_add, sumN_T]
theorem hang_M (V : VS hh hr hc g B R H D K n o) (ho : g 0 11 = nI o) (h0 : a0 < n) (hl0 : g 7 a0 ≠ -1) (hN : 30 ≤ N) : ∀ (d f : Nat) (x3 : Int32) (gm : HH), RI (AdjS g o R H D) g gm n a0 → gm 19 a0 = 1 → n - cnN (gm 19) n ≤ d → d + 2 ≤ f → x3 ≠ nI (cnN (gm 19) n) → ∃ gm', L_Mo_hang_64 N f (nI (cnN (gm 19) n)) x3 gm = some (nI (cnN (gm' 19) n), gm') ∧ RI (AdjS g o R H D) g gm' n a0 ∧ ∀ b, b < n → (gm' 19 b = 1 ↔ Rch (AdjS g o R H D) n a0 b) := by
  intro d
  have hn := V.nn
  induction d with
  | zero =>
    intro f x3 gm I h19 h1 h2 h3
    obtain ⟨f, rfl⟩ : ∃ z, f = z + 1 + 1 := ⟨f - 2, by omega⟩
    obtain ⟨g1, a1, a2, a3, a4⟩ := hang_p (N := N) V ho h0 hl0 hN I _ x3 h3 (f + 1)
    obtain ⟨m1, m2⟩ := cnN_mono n a3
    have l1 := cnN_le (g1 19) n
    have e : cnN (gm 19) n = cnN (g1 19) n := by omega
    rw [a1, L_Mo_hang_64, if_pos (by rw [e])]
    refine ⟨g1, rfl, a2, ?_⟩
    intro b hb
    refine ⟨fun z => ?_, fun r => ?_⟩
    · rcases a2.1 b hb with y | ⟨_, y⟩
      · rw [y] at z; exact absurd z (by decide)
      · exact y
    · refine (r (fun x => x < n ∧ g1 19 x = 1) ⟨h0, a3 a0 h0 h19⟩ ?_).2
      intro x y hx hy ha
      exact ⟨hy, a4 x hx.1 (m2 e x hx.1 hx.2) y hy ha⟩
  | succ d ih =>
    intro f x3 gm I h19 h1 h2 h3
    obtain ⟨f, rfl⟩ : ∃ z, f = z + 1 + 1 := ⟨f - 2, by omega⟩
    obtain ⟨g1, a1, a2, a3, a4⟩ := hang_p (N := N) V ho h0 hl0 hN I _ x3 h3 (f + 1)
    obtain ⟨m1, m2⟩ := cnN_mono n a3
    have l1 := cnN_le (g1 19) n
    by_cases e : cnN (gm 19) n = cnN (g1 19) n
    · rw [a1, L_Mo_hang_64, if_pos (by rw [e])]
      refine ⟨g1, rfl, a2, ?_⟩
      intro b hb
      refine ⟨fun z => ?_, fun r => ?_⟩
      · rcases a2.1 b hb with y | ⟨_, y⟩
        · rw [y] at z; exact absurd z (by decide)
        · exact y
      · refine (r (fun x => x < n ∧ g1 19 x = 1) ⟨h0, a3 a0 h0 h19⟩ ?_).2
        intro x y hx hy ha
        exact ⟨hy, a4 x hx.1 (m2 e x hx.1 hx.2) y hy ha⟩
    · rw [a1]
      exact ih (f + 1) _ g1 a2 (a3 a0 h0 h19) (by omega) (by omega) (fun z => e ((nI_eq (by omega) (by omega)).mp z))
theorem sim_38 : Sim_38 Inv := by
  intro a1 k g I
  unfold KO_38 MO_38 F_K_hang F_Mo_hang
  rcases i_place (N := 3000) I a1 with ⟨B, R, H, D, K, n, o, p, J, h1, h2, h3, h4⟩ | ⟨h3, h4⟩
  · subst h2
    have V := J.2.2.1
    have ho := J.2.2.2.1
    have hP := V.pp
    have hn := V.nn
    have ip : sv_in (nI p) 144 := pu_in (by omega) (by omega)
    rcases V.atb (p := p) (by omega) with c | ⟨b, b1, b2, b3⟩
    · refine ⟨3000, 3000, -1, ku k 4 (k 4), g, ?_, ?_, Inv_fr I (fun _ _ _ _ _ _ => rfl)⟩
      · rw [h3, if_neg pu_10]
        unfold F_Surv_countHanging
        rw [V.at (by omega), ifn c, bind_sn]
        rfl
      · rw [h4, bind_sn, if_pos pu_10, if_pos ip, nI_clamp (by omega), ifn c]
        rfl
    · have hl0 : g 7 b ≠ -1 := by rw [b3]; exact pu_m1 (by omega)
      -- the class
      have kf : FI (AdjS g o R H D) (sw (sw (sf (k 4) 2 24 0) 2 24 (nI b) 1) 1 24 0 (nI b)) n b 1 ∧ sw (sw (sf (k 4) 2 24 0) 2 24 (nI b) 1) 1 24 0 (nI b) 2 b = 1 := by
        have w2 : ∀ i, i < n → sw (sw (sf (k 4) 2 24 0) 2 24 (nI b) 1) 1 24 0 (nI b) 2 i = if i = b then 1 else 0 := by
          intro i hi
          rw [pu_sw, if_neg (by omega), pu_sw, if_pos rfl, pu_sf, if_pos rfl, pu_wr _ _ (by omega) (by omega), pu_upd]
          unfold sv_fl
          rw [if_pos (show i < 24 by omega)]
        have w1 : sw (sw (sf (k 4) 2 24 0) 2 24 (nI b) 1) 1 24 0 (nI b) 1 0 = nI b := by
          rw [pu_sw, if_pos rfl, show (0 : Int32) = nI 0 from rfl, pu_wr _ _ (by omega) (by omega), pu_upd, if_pos rfl]
        refine ⟨⟨?_, ?_, ?_, ?_⟩, by rw [w2 b b1, if_pos rfl]⟩
        · intro i hi
          rw [w2 i hi]
          by_cases ci : i = b
          · rw [if_pos ci, ci]; exact Or.inr ⟨rfl, Rch_base⟩
          · rw [if_neg ci]; exact Or.inl rfl
        · have z : cnN (fun _ => 0) n = 0 := by
            unfold cnN
            exact sumN_0 n
          have := cnN_up (f := fun _ => 0) (f' := fun i => if i = b then 1 else 0) (y := b) n b1 (show (0 : Int32) ≠ 1 by decide) (if_pos rfl) (fun i hi => if_neg hi)
          rw [cnN_c (f := fun i => if i = b then 1 else 0) n (fun i hi => by rw [w2 i hi]), this, z]
        · intro i hi
          have : i = 0 := by omega
          subst this
          exact ⟨b, b1, w1, by rw [w2 b b1, if_pos rfl]⟩
        · intro i hi hi1
          rw [w2 i hi] at hi1
          by_cases ci : i = b
          · exact ⟨0, by omega, by rw [w1, ci]⟩
          · rw [if_neg ci] at hi1; exact absurd hi1 (by decide)
      obtain ⟨c', hu', q1, q2, q3⟩ := hang_K (N := 3000) V b1 hl0 (by omega) n 0 3000 1 _ kf.1 kf.2 (fun i' hi' => by omega) (by omega) (by omega) (by omega)
      rw [show nI 1 = (1 : Int32) from rfl, show nI 0 = (0 : Int32) from rfl] at q1
      have eK : F_Surv_countHanging 3000 (nI p) (k 4) (k 9) (k 11) = some (nI c', hu') := by
        unfold F_Surv_countHanging
        rw [V.at (by omega), b2, if_pos (pu_m1 (by omega)), pu_letn, pu_letn, pu_letn, q1, bind_sn]
      -- the reference
      obtain ⟨g0, m1, m2, m3⟩ := hang_25 (N := 3000) (n := n) (a0 := b) (x1 := p) (by omega) hn b1 n 0 3000 g V.n6 b2 (by omega) (by omega)
      have I0 : RI (AdjS g o R H D) g g0 n b := by
        refine ⟨?_, m2⟩
        intro i hi
        rw [m3 i, if_pos (show 0 ≤ i ∧ i < n by omega)]
        by_cases ci : i = b
        · rw [if_pos ci, ci]; exact Or.inr ⟨rfl, Rch_base⟩
        · rw [if_neg ci]; exact Or.inl rfl
      have z0 : g0 19 b = 1 := by rw [m3 b, if_pos (show 0 ≤ b ∧ b < n by omega), if_pos rfl]
      obtain ⟨g1, r1, r2, r3, r4⟩ := hang_p (N := 3000) V ho b1 hl0 (by omega) I0 0 (-1) (by decide) 2999
      have hpos : 1 ≤ cnN (g1 19) n := by
        have h5 := cnN_up (f := fun _ => 0) (f' := fun i => if i = b then 1 else 0) (y := b) n b1 (show (0 : Int32) ≠ 1 by decide) (if_pos rfl) (fun i hi => if_neg hi)
        have h6 := (cnN_mono (f := fun i => if i = b then 1 else 0) (f' := g1 19) n (fun i hi h => by
          by_cases ci : i = b
          · rw [ci]; exact r3 b b1 z0
          · rw [if_neg ci] at h; exact absurd h (by decide))).1
        omega
      have hle := cnN_le (g1 19) n
      obtain ⟨g2, s1, s2, s3⟩ := hang_M (N := 3000) V ho b1 hl0 (by omega) n 2999 0 g1 r2 (r3 b b1 z0) (by omega) (by omega) (fun z => nI_ne0 (n := cnN (g1 19) n) (by omega) (by omega) z.symm)
      rw [s1] at r1
      have ec : c' = cnN (g2 19) n := by
        rw [q2]
        exact cnN_c n (fun i hi => (q3 i hi).trans (s3 i hi).symm)
      refine ⟨3000, 3000, nI c', ku k 4 hu', g2, ?_, ?_, Inv_fr I (fun r _ _ h19 _ _ => s2.2 r h19)⟩
      · rw [h3, if_neg pu_10, eK, bind_sn]
        rfl
      · rw [show nI 0 = (0 : Int32) from rfl] at m1
        rw [h4, bind_sn, if_pos pu_10, if_pos ip, nI_clamp (by omega), b2, if_pos (pu_m1 (by omega)), m1, bind_sn, r1, bind_sn, ec]
        rfl
  · refine ⟨3000, 3000, -2, ku k 4 (k 4), g, ?_, ?_, Inv_fr I (fun _ _ _ _ _ _ => rfl)⟩
    · rw [h3, if_pos rfl]; rfl
    · rw [h4, bind_sn, ife0]; rfl
end HANB
