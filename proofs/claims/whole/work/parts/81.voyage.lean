/-! ===== pure: the voyage ===== -/
section VOYC
variable {k k' : KS} {g g' g2 gm gm' : HH} {hu hy hv hh hr hc hc2 hp hl hl' : HH} {B R H D K n o N N' t w lim : Nat} {L : Nat → Nat}
theorem low_dis (h : Geo g B R H D) {s p : Nat} (hs : s = lowS H D s) (hp : p = lowS H D p) (hsp : s < p) : s + highS H D s ≤ p := by
  have h1 := (lowS_iff h s).mp hs
  have h2 := (lowS_iff h p).mp hp
  have m1 := h.md s
  have m2 := h.md p
  have e1 := (Nat.div_add_mod s (H + D)).symm
  have e2 := (Nat.div_add_mod p (H + D)).symm
  unfold highS
  rcases Nat.lt_trichotomy (s / (H + D)) (p / (H + D)) with c | c | c
  · have := Nat.mul_le_mul_left (H + D) (show s / (H + D) + 1 ≤ p / (H + D) from c)
    rw [Nat.mul_add, Nat.mul_one] at this
    split <;> omega
  · rw [c] at e1
    split <;> omega
  · have := Nat.mul_le_mul_left (H + D) (show p / (H + D) + 1 ≤ s / (H + D) from c)
    rw [Nat.mul_add, Nat.mul_one] at this
    omega
/-- the stacks as the reference has them at a port, before the stack at a place -/
def StV (g gm : HH) (H D P n i p : Nat) : Prop := val21 gm n ∧ (∀ s, s < P → s = lowS H D s → stkB (gm 21) s (highS H D s) = LtF g (stkB (g 8) s (highS H D s)) (if s < p then i + 1 else i)) ∧ ∀ r, r ≠ 20 → r ≠ 21 → gm r = g r
theorem atPort_L (V : VS hh hr hc g B R H D K n o) {i : Nat} (hN : 10 ≤ N) : ∀ (m p f : Nat) (c : Int32) (gm : HH), StV g gm H D (plN B R H D) n i p → p + m = plN B R H D → m < f → ∃ gm', L_Mo_atPort_4 N f (nI (i + 1)) c (nI p) gm = some (c + nI (sumT (backP g H D i) p m), gm') ∧ StV g gm' H D (plN B R H D) n i (plN B R H D) := by
  intro m
  have hP := V.pp
  have hn := V.nn
  induction m with
  | zero =>
    intro p f c gm S h1 h2
    obtain ⟨f, rfl⟩ : ∃ z, f = z + 1 := ⟨f - 1, by omega⟩
    have G : Geo gm B R H D := by
      unfold Geo; rw [S.2.2 1 (by omega) (by omega)]; exact V.1
    have : p = plN B R H D := by omega
    refine ⟨gm, ?_, ?_⟩
    · rw [L_Mo_atPort_4, Mo_places G, bind_sn, this, if_pos (Int32.le_refl _), sumT, show nI 0 = 0 from rfl, Int32.add_zero]
    · have S' := S; rw [this] at S'; exact S'
  | succ m ih =>
    intro p f c gm S h1 h2
    obtain ⟨f, rfl⟩ : ∃ z, f = z + 1 := ⟨f - 1, by omega⟩
    have G : Geo gm B R H D := by
      unfold Geo; rw [S.2.2 1 (by omega) (by omega)]; exact V.1
    have hp : p < plN B R H D := by omega
    have hst := V.1.st hp
    rw [L_Mo_atPort_4, Mo_places G, bind_sn, if_neg (nI_ge (by omega) (by omega)), Mo_low G (by omega), bind_sn, nI_1]
    by_cases cl : p = lowS H D p
    · have h3 := high3 V.1 p
      rw [ifn (congrArg nI cl), Mo_high G (by omega), bind_sn]
      obtain ⟨g1, a1, a2, a3, a4, a5⟩ := cb_eq (g := g) (N := N) (t := i + 1) hn S.1 (S.2.2 6 (by omega) (by omega)) (p := p) (h := highS H D p) (by omega) h3 hN
      have e := S.2.1 p hp cl
      rw [if_neg (by omega)] at e
      rw [a1, bind_sn]
      have S' : StV g g1 H D (plN B R H D) n i (p + 1) := by
        refine ⟨a5, ?_, fun r r1 r2 => by rw [a2 r r1 r2, S.2.2 r r1 r2]⟩
        intro s s1 s2
        by_cases cs : s = p
        · subst cs
          rw [a4, if_pos (by omega), e]
          rfl
        · have e2 := S.2.1 s s1 s2
          have : stkB (g1 21) s (highS H D s) = stkB (gm 21) s (highS H D s) := by
            refine stkB_c _ _ ?_
            intro x x1 x2
            refine a3 x ?_
            rcases Nat.lt_or_gt_of_ne cs with cs | cs
            · have := low_dis V.1 s2 cl cs
              omega
            · have := low_dis V.1 cl s2 cs
              omega
          rw [this, e2]
          by_cases cs2 : s < p
          · rw [if_pos cs2, if_pos (by omega)]
          · rw [if_neg cs2, if_neg (by omega)]
      obtain ⟨g2, d1, d2⟩ := ih (p + 1) f (c + nI (cntF (ptq g (i + 1)) false (stkB (gm 21) p (highS H D p)))) g1 S' (by omega) (by omega)
      refine ⟨g2, ?_, d2⟩
      show L_Mo_atPort_4 N f (nI (i + 1)) (c + nI (cntF (ptq g (i + 1)) false (stkB (gm 21) p (highS H D p)))) (nI (p + 1)) g1 = _
      rw [d1, e, sumT, Int32.add_assoc, nI_add]
      rw [show backP g H D i p = cF g (stkB (g 8) p (highS H D p)) i from if_pos cl]
      rfl
    · have ne : ¬ nI p = nI (lowS H D p) := fun z => cl ((nI_eq (by omega) (by omega)).mp z)
      rw [if_pos ne, Int32.add_zero]
      have S' : StV g gm H D (plN B R H D) n i (p + 1) := by
        refine ⟨S.1, ?_, S.2.2⟩
        intro s s1 s2
        have cs : ¬ s = p := by intro z; subst z; exact cl s2
        rw [S.2.1 s s1 s2]
        by_cases cs2 : s < p
        · rw [if_pos cs2, if_pos (by omega)]
        · rw [if_neg cs2, if_neg (by omega)]
      obtain ⟨g2, d1, d2⟩ := ih (p + 1) f c gm S' (by omega) (by omega)
      refine ⟨g2, ?_, d2⟩
      rw [d1, sumT, show backP g H D i p = 0 from if_neg cl, Nat.zero_add]
theorem voy_22 (x1 : Int32) : ∀ (m j f : Nat) (gm : HH), j + m = 144 → m < f → ∃ gm', L_Mo_voyage_22 N f x1 (nI j) gm = some gm' ∧ (∀ r, r ≠ 21 → gm' r = gm r) ∧ ∀ i, i < 144 → gm' 21 i = if j ≤ i then gm 8 i else gm 21 i := by
  intro m
  induction m with
  | zero =>
    intro j f gm h1 h2
    obtain ⟨f, rfl⟩ : ∃ z, f = z + 1 := ⟨f - 1, by omega⟩
    have : j = 144 := by omega
    subst this
    refine ⟨gm, ?_, fun _ _ => rfl, fun i hi => ?_⟩
    · rw [L_Mo_voyage_22, if_pos (by decide)]
    · rw [if_neg (by omega)]
  | succ m ih =>
    intro j f gm h1 h2
    obtain ⟨f, rfl⟩ : ∃ z, f = z + 1 := ⟨f - 1, by omega⟩
    have ij : sv_in (nI j) 144 := pu_in (by omega) (by omega)
    rw [L_Mo_voyage_22, if_neg (by
      rw [show (144 : Int32) = nI 144 from rfl]
      exact nI_ge (by omega) (by omega))]
    simp only [if_pos ij]
    rw [pu_letn, nI_clamp (by omega), nI_1]
    obtain ⟨gm', a1, a2, a3⟩ := ih (j + 1) f (sa gm 21 (nI j) (gm 8 j)) (by omega) (by omega)
    have so : ∀ r, r ≠ 21 → sa gm 21 (nI j) (gm 8 j) r = gm r := by
      intro r hr; rw [pu_sa, if_neg hr]
    refine ⟨gm', a1, fun r hr => by rw [a2 r hr, so r hr], ?_⟩
    intro i hi
    rw [a3 i hi, so 8 (by omega), pu_sa, if_pos rfl, nI_clamp (by omega), pu_upd]
    by_cases c : j + 1 ≤ i
    · rw [if_pos c, if_pos (by omega)]
    · rw [if_neg c]
      by_cases c2 : i = j
      · rw [if_pos c2, if_pos (by omega), c2]
      · rw [if_neg c2, if_neg (by omega)]
theorem voy_L (V : VS hh hr hc g B R H D K n o) (hN : 150 ≤ N) (x1 : Int32) (hu4 : ∀ x, x < 5 → hu 4 (x + 1) = nI (sumT (backP g H D x) 0 (plN B R H D))) : ∀ (m i f f1 f2 : Nat) (x2 x3 x4 : Int32) (gm : HH), StV g gm H D (plN B R H D) n i 0 → i + m = 5 → m < f → m < f1 → m < f2 → ∃ a b gm', L_Mo_voyage_57 N f x1 x2 x3 x4 (nI (i + 1)) gm = some (a, b, gm') ∧ L_Surv_countBack_4 N' f1 x2 (nI (i + 1)) hu = some a ∧ L_Surv_busiestPort_6 N' f2 x4 x3 (nI (i + 1)) hu = some b ∧ ∀ r, r ≠ 20 → r ≠ 21 → gm' r = g r := by
  intro m
  have hP := V.pp
  induction m with
  | zero =>
    intro i f f1 f2 x2 x3 x4 gm S h1 h2 h3 h4
    obtain ⟨f, rfl⟩ : ∃ z, f = z + 1 := ⟨f - 1, by omega⟩
    obtain ⟨f1, rfl⟩ : ∃ z, f1 = z + 1 := ⟨f1 - 1, by omega⟩
    obtain ⟨f2, rfl⟩ : ∃ z, f2 = z + 1 := ⟨f2 - 1, by omega⟩
    have : i = 5 := by omega
    subst this
    rw [L_Mo_voyage_57, L_Surv_countBack_4, L_Surv_busiestPort_6, if_pos (by decide), if_pos (by decide), if_pos (by decide)]
    exact ⟨x2, x4, gm, rfl, rfl, rfl, S.2.2⟩
  | succ m ih =>
    intro i f f1 f2 x2 x3 x4 gm S h1 h2 h3 h4
    obtain ⟨f, rfl⟩ : ∃ z, f = z + 1 := ⟨f - 1, by omega⟩
    obtain ⟨f1, rfl⟩ : ∃ z, f1 = z + 1 := ⟨f1 - 1, by omega⟩
    obtain ⟨f2, rfl⟩ : ∃ z, f2 = z + 1 := ⟨f2 - 1, by omega⟩
    obtain ⟨g1, a1, a2⟩ := atPort_L (N := N) V (i := i) (by omega) (plN B R H D) 0 N 0 gm S (by omega) (by omega)
    rw [Int32.zero_add, show nI 0 = (0 : Int32) from rfl] at a1
    have e : F_Mo_atPort N (nI (i + 1)) gm = some (nI (sumT (backP g H D i) 0 (plN B R H D)), g1) := by
      unfold F_Mo_atPort
      rw [a1, bind_sn]
    have S' : StV g g1 H D (plN B R H D) n (i + 1) 0 := by
      refine ⟨a2.1, ?_, a2.2.2⟩
      intro s s1 s2
      rw [a2.2.1 s s1 s2, if_pos s1, if_neg (by omega)]
    have c5 : ¬ (5 : Int32) < nI (i + 1) := by
      rw [show (5 : Int32) = nI 5 from rfl]
      exact nI_nlt (by omega) (by omega)
    rw [L_Mo_voyage_57, L_Surv_countBack_4, L_Surv_busiestPort_6, if_neg (by
      rw [show (6 : Int32) = nI 6 from rfl]
      exact nI_ge (by omega) (by omega)), if_neg c5, if_neg c5, e, bind_sn, pu_rd _ (by omega) (by omega), hu4 i (by omega), nI_1]
    by_cases c : x3 < nI (sumT (backP g H D i) 0 (plN B R H D))
    · rw [if_pos c, if_neg (Int32.not_le.mpr c)]
      exact ih (i + 1) f f1 f2 _ _ _ g1 S' (by omega) (by omega) (by omega) (by omega)
    · rw [if_neg c, if_pos (Int32.not_lt.mp c)]
      exact ih (i + 1) f f1 f2 _ _ _ g1 S' (by omega) (by omega) (by omega) (by omega)
theorem sim_47 : Sim_47 Inv := by
  intro a1 k g I
  unfold KO_47 MO_47 F_K_voyage F_Mo_voyage
  rw [show (1 : Int64) = (1 : Int32).toInt64 from rfl]
  simp only [pu_in0]
  rcases i_there I with ⟨B, R, H, D, K, n, o, J, h1, h2⟩ | ⟨J, h1, h2⟩
  · rw [h1, h2]
    have V := J.2.2.1
    have hP := V.pp
    rcases pu_wc a1 0 1 (by omega) (by omega) with ⟨d, d1, d2, d3, d4⟩ | ⟨d1, d4⟩
    · rw [show nI 0 = 0 from rfl, show nI 1 = 1 from rfl] at d4
      obtain ⟨hu, u1, u2⟩ := sail_L (N := 3000) V (by omega) (plN B R H D) 0 3000 (sf (k 4) 4 6 0) (by omega) (by omega)
      have eS : F_Surv_sail 3000 (k 4) (k 9) (k 11) = some hu := by
        unfold F_Surv_sail
        rw [pu_letn]
        rw [show nI 0 = (0 : Int32) from rfl] at u1
        rw [u1, bind_sn]
      have hu4 : ∀ x, x < 5 → hu 4 (x + 1) = nI (sumT (backP g H D x) 0 (plN B R H D)) := by
        intro x hx
        rw [u2 x hx, pu_sf, if_pos rfl]
        unfold sv_fl
        rw [if_pos (by omega), Int32.zero_add]
      obtain ⟨g0, v1, v2, v3⟩ := voy_22 (N := 3000) a1 144 0 3000 g (by omega) (by omega)
      have S : StV g g0 H D (plN B R H D) n 0 0 := by
        refine ⟨?_, ?_, fun r _ hr => v2 r hr⟩
        · intro p hp
          rw [v3 p hp, if_pos (by omega)]
          rcases V.atb hp with e | ⟨b, b1, b2, b3⟩
          · exact Or.inl e
          · exact Or.inr ⟨b, b1, b2⟩
        · intro s s1 s2
          rw [if_neg (by omega)]
          refine stkB_c _ _ ?_
          intro i i1 i2
          have hst := V.1.st s1
          rw [v3 i (by omega), if_pos (by omega)]
      obtain ⟨a, b, g', w1, w2, w3, w4⟩ := voy_L (N := 3000) (N' := 3000) V (by omega) a1 hu4 5 0 3000 3000 3000 0 0 (-1) g0 S (by omega) (by omega) (by omega) (by omega)
      rw [show nI (0 + 1) = (1 : Int32) from rfl] at w1 w2 w3
      rw [show nI 0 = (0 : Int32) from rfl] at v1
      have eM : Option.bind (L_Mo_voyage_22 3000 3000 a1 0 g) (fun v7 => Option.bind (L_Mo_voyage_57 3000 3000 a1 0 0 (-1) 1 v7) fun v12 => if ¬ a1 = 0 then some (v12.2.1, v12.2.2) else some (v12.1, v12.2.2)) = some (if ¬ a1 = 0 then b else a, g') := by
        rw [v1, bind_sn, w1, bind_sn]
        split <;> rfl
      have eK : Option.bind (F_Surv_sail 3000 (k 4) (k 9) (k 11)) (fun v3 => if ¬ a1 = 0 then Option.bind (F_Surv_busiestPort 3000 v3) fun v6 => some (v6, v3) else Option.bind (F_Surv_countBack 3000 v3) fun v8 => some (v8, v3)) = some (if ¬ a1 = 0 then b else a, hu) := by
        rw [eS, bind_sn]
        unfold F_Surv_busiestPort F_Surv_countBack
        rw [w2, w3, bind_sn, bind_sn, bind_sn, bind_sn]
        split <;> rfl
      refine ⟨3000, 3000, if ¬ a1 = 0 then b else a, ku k 4 hu, g', ?_, ?_, Inv_fr I (fun r _ _ _ h20 h21 => w4 r h20 h21)⟩
      · rw [if_neg pu_10, d4, if_pos pu_10, eK]; rfl
      · rw [if_neg pu_10, d4, if_pos pu_10, eM]; rfl
    · rw [show nI 0 = 0 from rfl, show nI 1 = 1 from rfl] at d4
      refine ⟨3000, 3000, -2, ku k 4 (k 4), g, ?_, ?_, Inv_fr I (fun _ _ _ _ _ _ => rfl)⟩
      · rw [if_neg pu_10, d4, ife0]; rfl
      · rw [if_neg pu_10, d4, ife0]; rfl
  · rw [h1, h2]
    refine ⟨3000, 3000, -2, ku k 4 (k 4), g, ?_, ?_, Inv_fr I (fun _ _ _ _ _ _ => rfl)⟩
    · rw [if_pos rfl]; rfl
    · rw [if_pos rfl]; rfl
end VOYC
