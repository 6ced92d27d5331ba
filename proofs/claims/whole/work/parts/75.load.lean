/-! ===== pure: loading ===== -/
def okp (P : Nat) (v : Int32) : Prop := v = -1 ∨ ∃ p, p < P ∧ v = nI p
def SRel (hl g : HH) (w lim P : Nat) (L : Nat → Nat) : Prop := (hl 0 5 = nI w ∧ g 0 27 = nI w ∧ hl 0 8 = nI lim ∧ g 0 25 = nI lim)
  ∧ (∀ i, i < w → hl 2 i = nI (L i) ∧ g 11 i = nI (L i))
  ∧ (∃ d, hl 0 7 = nI d ∧ ((g 0 26 = 0 ∧ g 0 24 = nI d ∧ d ≤ lim) ∨ (g 0 26 = 1 ∧ d = lim + 1)))
  ∧ (∃ lr, hl 0 6 = nI lr ∧ ((g 0 30 = -1 ∧ lr = w + 1) ∨ (g 0 30 = nI lr ∧ lr ≤ w ∧ ∀ j, j < w → hl 4 j = g 13 j ∧ okp P (hl 4 j))))
def PreR (hl g : HH) (i P : Nat) : Prop := ∀ j, j < i → hl 3 j = g 12 j ∧ okp P (hl 3 j)
/-- what a search leaves as it was -/
def FrL (hl hl' g g' : HH) (n : Nat) : Prop := (hl' 1 = hl 1 ∧ hl' 2 = hl 2 ∧ hl' 0 0 = hl 0 0) ∧ (∀ r, r ≠ 0 → r ≠ 7 → r ≠ 8 → r ≠ 12 → r ≠ 13 → g' r = g r) ∧ (∀ i, i ≠ 24 → i ≠ 26 → i ≠ 30 → g' 0 i = g 0 i) ∧ ∀ c, c < n → g' 7 c = g 7 c
section LOAD
variable {k k' : KS} {g g' g2 : HH} {hy hv hh hr hc hc2 hp hl hl' : HH} {B R H D K n o N N' t w lim : Nat} {L : Nat → Nat}
theorem FrL.refl (hl g : HH) (n : Nat) : FrL hl hl g g n := ⟨⟨rfl, rfl, rfl⟩, fun _ _ _ _ _ _ => rfl, fun _ _ _ _ => rfl, fun _ _ => rfl⟩
theorem FrL.tr {a b c : HH} {x y z : HH} (h1 : FrL a b x y n) (h2 : FrL b c y z n) : FrL a c x z n := ⟨⟨by rw [h2.1.1, h1.1.1], by rw [h2.1.2.1, h1.1.2.1], by rw [h2.1.2.2, h1.1.2.2]⟩, fun r a1 a2 a3 a4 a5 => by rw [h2.2.1 r a1 a2 a3 a4 a5, h1.2.1 r a1 a2 a3 a4 a5], fun i a1 a2 a3 => by rw [h2.2.2.1 i a1 a2 a3, h1.2.2.1 i a1 a2 a3], fun c hc => by rw [h2.2.2.2 c hc, h1.2.2.2 c hc]⟩
theorem left_eq {P : Nat} (S : SRel hl g w lim P L) (hl' : lim ≤ 50000) (hw : w ≤ 24) {rej : Nat} (hr' : rej ≤ w) : F_Load_isLeft (nI rej) hl = F_Mo_isLeft (nI rej) g ∧ (F_Mo_isLeft (nI rej) g = 0 ∨ F_Mo_isLeft (nI rej) g = 1) ∧ (F_Mo_isLeft (nI rej) g = 0 → g 0 26 = 0) ∧ (F_Mo_isLeft (nI rej) g = 1 → F_Load_isLeft (nI (rej + 1)) hl = 1) := by
  obtain ⟨⟨s1, s2, s3, s4⟩, -, ⟨d, d1, d2⟩, lr, r1, r2⟩ := S
  unfold F_Load_isLeft F_Mo_isLeft F_Load_isTooLong
  rw [r1, d1, s3]
  have hlr : lr ≤ 25 := by rcases r2 with ⟨-, h⟩ | ⟨-, h, -⟩ <;> omega
  rcases d2 with ⟨e1, e2, e3⟩ | ⟨e1, e2⟩
  · rw [e1, ife0, if_pos (nI_le e3 (by omega)), if_pos rfl]
    rcases r2 with ⟨f1, f2⟩ | ⟨f1, f2, -⟩
    · rw [f1, if_pos rfl, if_neg (nI_ge (by omega) (by omega))]
      exact ⟨rfl, Or.inl rfl, fun _ => rfl, fun z => absurd z (by decide)⟩
    · rw [f1, if_neg (pu_m1 (by omega))]
      rcases Nat.lt_or_ge rej lr with y | y
      · rw [if_neg (nI_ge y (by omega)), if_pos (nI_lt y (by omega))]
        exact ⟨rfl, Or.inl rfl, fun _ => rfl, fun z => absurd z (by decide)⟩
      · rw [if_pos (nI_le y (by omega)), if_neg (nI_nlt y (by omega)), if_pos (nI_le (by omega) (by omega))]
        exact ⟨rfl, Or.inr rfl, fun z => absurd z (by decide), fun _ => rfl⟩
  · have nl : ¬ nI (lim + 1) ≤ nI lim := nI_ge (by omega) (by omega)
    rw [e1, if_pos pu_10, e2]
    simp only [if_neg nl, if_neg pu_10]
    refine ⟨by split <;> rfl, by simp, by simp, fun _ => by split <;> rfl⟩
theorem search_left {dd : Nat} {a b : Int32} (h : F_Load_isLeft b hl = 1) : F_Load_searchFrom N (dd + 1) a b hl hh hr hc = some (hl, hc) := by
  rw [F_Load_searchFrom, h, if_neg pu_10]
/-- a row was tried to its end, or it is too long -/
def Dn (g : HH) : Prop := g 0 26 = 1 ∨ g 0 30 ≠ -1
theorem Dn_left {P : Nat} (S : SRel hl g w lim P L) {a : Int32} (h : F_Mo_isLeft a g = 1) : Dn g := by
  obtain ⟨-, -, ⟨d, -, d2⟩, -⟩ := S
  rcases d2 with ⟨e, -⟩ | ⟨e, -⟩
  · right
    intro z
    unfold F_Mo_isLeft at h
    rw [e, ife0, if_pos z] at h
    exact absurd h (by decide)
  · exact Or.inl e
/-- what a level asks of a search from the next one on -/
def GoOK (hh hr : HH) (B R H D K n o N N' w lim : Nat) (L : Nat → Nat) (i dd dd' : Nat) : Prop := ∀ (rej : Nat) (hl hc g : HH), rej ≤ i → VS hh hr hc g B R H D K n o → g 0 11 = nI o → SRel hl g w lim (plN B R H D) L → PreR hl g i (plN B R H D) → (∀ j, i ≤ j → j < w → g 7 (L j) = -1) → ∃ hl' hc' g', F_Load_searchFrom N dd (nI i) (nI rej) hl hh hr hc = some (hl', hc') ∧ F_Mo_goes N' dd' (nI i) (nI rej) g = some g' ∧ VS hh hr hc' g' B R H D K n o ∧ SRel hl' g' w lim (plN B R H D) L ∧ FrL hl hl' g g' n ∧ (∀ j, j < i → hl' 3 j = hl 3 j ∧ g' 12 j = g 12 j) ∧ Dn g'
theorem go_loop {i dd dd' rej : Nat} (hG : GoOK hh hr B R H D K n o N N' w lim L (i + 1) (dd + 1) dd') (hlim : lim ≤ 50000) (hw : w ≤ 24) (hi : i < w) (hrej : rej ≤ i) (hL : ∀ j, j < w → L j < n) (hLi : ∀ a b, a < w → b < w → L a = L b → a = b) (hN : 30 ≤ N) (hN' : 30 ≤ N') : ∀ (m p f f' : Nat) (hl hc g : HH), VS hh hr hc g B R H D K n o → g 0 11 = nI o → SRel hl g w lim (plN B R H D) L → PreR hl g i (plN B R H D) → (∀ j, i ≤ j → j < w → g 7 (L j) = -1) → p + m = plN B R H D → m < f → m < f' → ∃ hl' hc' g' s, L_Load_searchFrom_51 N (F_Load_searchFrom N (dd + 1)) f (nI i) (nI rej) (nI (L i)) (nI p) hl hh hr hc = some (hl', hc') ∧ L_Mo_goes_61 N' (F_Mo_goes N' dd') f' (nI i) (nI rej) (nI (L i)) (nI p) g = some s ∧ (s = .inl g' ∨ (s = .inr g' ∧ g' 0 26 = 1)) ∧ VS hh hr hc' g' B R H D K n o ∧ SRel hl' g' w lim (plN B R H D) L ∧ FrL hl hl' g g' n ∧ (∀ j, j < i → hl' 3 j = hl 3 j ∧ g' 12 j = g 12 j) := by
  intro m
  induction m with
  | zero =>
    intro p f f' hl hc g V ho S P hnl h1 h2 h3
    obtain ⟨f, rfl⟩ : ∃ z, f = z + 1 := ⟨f - 1, by omega⟩
    obtain ⟨f', rfl⟩ : ∃ z, f' = z + 1 := ⟨f' - 1, by omega⟩
    have : p = plN B R H D := by omega
    subst this
    rw [L_Load_searchFrom_51, L_Mo_goes_61, Mo_places V.1, V.h4, bind_sn, if_pos (Int32.le_refl _), if_pos (Int32.le_refl _)]
    exact ⟨hl, hc, g, .inl g, rfl, rfl, Or.inl rfl, V, S, FrL.refl hl g n, fun _ _ => ⟨rfl, rfl⟩⟩
  | succ m ih =>
    intro p f f' hl hc g V ho S P hnl h1 h2 h3
    obtain ⟨f, rfl⟩ : ∃ z, f = z + 1 := ⟨f - 1, by omega⟩
    obtain ⟨f', rfl⟩ : ∃ z, f' = z + 1 := ⟨f' - 1, by omega⟩
    have hp' : p < plN B R H D := by omega
    have hn := V.nn
    have hP := V.pp
    have hb := hL i hi
    obtain ⟨q1, q2, q3, q4⟩ := left_eq S hlim hw (rej := rej) (by omega)
    rw [L_Load_searchFrom_51, L_Mo_goes_61, Mo_places V.1, V.h4, bind_sn, if_neg (nI_ge hp' (by omega)), if_neg (nI_ge hp' (by omega)), q1, nI_1]
    rcases q2 with z | z
    case inr =>
      rw [z, if_pos pu_10, if_pos pu_10]
      exact ⟨hl, hc, g, .inl g, rfl, rfl, Or.inl rfl, V, S, FrL.refl hl g n, fun _ _ => ⟨rfl, rfl⟩⟩
    rw [z, ife0, ife0]
    obtain ⟨v, v1, v2, v3, v4⟩ := whyBox_eq (N := N) (N' := N') V ho hb hp' hN hN'
    have v0 : nI v = 0 ↔ v = 0 := nI_eq (a := v) (b := 0) (by omega) (by omega)
    rw [v1, v2, bind_sn, bind_sn]
    by_cases cv : v = 0
    case neg =>
      have y : ¬ nI v = 0 := fun x => cv (v0.mp x)
      rw [if_pos y, if_neg y]
      exact ih (p + 1) f f' hl hc g V ho S P hnl (by omega) (by omega) (by omega)
    subst cv
    rw [show nI 0 = 0 from rfl, ife0, if_pos rfl]
    obtain ⟨v5, -⟩ := v4 rfl
    have S0 := S
    obtain ⟨⟨s1, s2, s3, s4⟩, s5, ⟨d, d1, d2⟩, lr, r1, r2⟩ := S
    have e26 := q3 z
    have hd : g 0 24 = nI d ∧ d ≤ lim := by
      rcases d2 with ⟨-, a, b⟩ | ⟨a, -⟩
      · exact ⟨a, b⟩
      · rw [a] at e26; exact absurd e26 (by decide)
    have gb : g 7 (L i) = -1 := hnl i (by omega) hi
    have hpf : ∀ c, c < n → c ≠ L i → g 7 c ≠ nI p := by
      intro c hc' _ y
      rcases V.plc hc' with u | ⟨q, hq, u, u2⟩
      · rw [u] at y; exact absurd y (pu_m1' (by omega))
      · rw [u] at y
        have := (nI_eq (by omega) (by omega)).mp y
        subst this
        rw [v5] at u2; exact absurd u2 (pu_m1' (by omega))
    -- the class's new list
    obtain ⟨hl9, ehl⟩ : ∃ hl9, hl9 = sw (ss hl 7 (hl 0 7 + 1)) 3 24 (nI i) (nI p) := ⟨_, rfl⟩
    have l0 : ∀ j, j ≠ 7 → hl9 0 j = hl 0 j := fun j hj => by rw [ehl, pu_sw, if_neg (by omega), pu_ss, if_pos rfl, if_neg hj]
    have l7 : hl9 0 7 = nI (d + 1) := by rw [ehl, pu_sw, if_neg (by omega), pu_ss, if_pos rfl, if_pos rfl, d1, nI_1]
    have lr' : ∀ r, r ≠ 0 → r ≠ 3 → hl9 r = hl r := fun r r0 r3 => by rw [ehl, pu_sw, if_neg r3, pu_ssr, if_neg r0]
    have l3 : ∀ j, hl9 3 j = if j = i then nI p else hl 3 j := fun j => by
      rw [ehl, pu_sw, if_pos rfl, pu_ssr, if_neg (by omega), pu_wr _ _ (by omega) (by omega), pu_upd]
    simp only [pu_letn]
    rw [← ehl]
    have lim_eq : (g 0 24 = g 0 25) ↔ d = lim := by
      rw [hd.1, s4]; exact nI_eq (by omega) (by omega)
    by_cases cl : d = lim
    · -- too long
      rw [ifn (lim_eq.mpr cl)]
      have S9 : SRel hl9 (ss g 26 1) w lim (plN B R H D) L := by
        refine ⟨⟨by rw [l0 5 (by omega)]; exact s1, by rw [pu_ss, if_pos rfl, if_neg (by omega)]; exact s2, by rw [l0 8 (by omega)]; exact s3, by rw [pu_ss, if_pos rfl, if_neg (by omega)]; exact s4⟩, ?_, ⟨d + 1, l7, Or.inr ⟨by rw [pu_ss, if_pos rfl, if_pos rfl], by omega⟩⟩, lr, by rw [l0 6 (by omega)]; exact r1, ?_⟩
        · intro j hj; rw [lr' 2 (by omega) (by omega), pu_ssr, if_neg (by omega)]; exact s5 j hj
        · rw [pu_ss, if_pos rfl, if_neg (by omega), lr' 4 (by omega) (by omega), pu_ssr, if_neg (by omega)]; exact r2
      obtain ⟨t1, t2, t3, t4⟩ := left_eq S9 hlim hw (rej := rej) (by omega)
      have lm : F_Mo_isLeft (nI rej) (ss g 26 1) = 1 := by
        rcases t2 with y | y
        · have := t3 y; rw [pu_ss, if_pos rfl, if_pos rfl] at this; exact absurd this (by decide)
        · exact y
      have lk : F_Load_isLeft (nI rej) hl9 = 1 := by rw [t1, lm]
      have V1 : VS hh hr (F_Cargo_move (nI (L i)) (-1) (F_Cargo_move (nI (L i)) (nI p) hc)) (ss g 26 1) B R H D K n o := by
        obtain ⟨ga, a1, Va, a2, a3, -⟩ := lay (N := N') V hb (v := nI p) (Or.inr ⟨p, hp', rfl, hpf⟩)
        obtain ⟨gc, b1, Vb, b2, b3, -⟩ := lay (N := N') Va hb (v := -1) (Or.inl rfl)
        have Vz : VS hh hr hc (ss g 26 1) B R H D K n o := V.cg (by rw [pu_ssr, if_neg (by omega)]) (by rw [pu_ss, if_pos rfl, if_neg (by omega)]) (by rw [pu_ssr, if_neg (by omega)]) (by rw [pu_ssr, if_neg (by omega)]) (by rw [pu_ssr, if_neg (by omega)]) (by rw [pu_ssr, if_neg (by omega)]) (by rw [pu_ssr, if_neg (by omega)])
        refine Vb.tr Vz ?_ ?_
        · intro c _
          rw [pu_ssr, if_neg (by omega), pu_ssr, if_neg (by omega), pu_ssr, if_neg (by omega), b2 4 (by omega) (by omega), b2 5 (by omega) (by omega), b2 6 (by omega) (by omega), a2 4 (by omega) (by omega), a2 5 (by omega) (by omega), a2 6 (by omega) (by omega)]
          exact ⟨rfl, rfl, rfl⟩
        · intro c _
          rw [pu_ssr, if_neg (by omega), b3 c, a3 c]
          by_cases e : c = L i
          · rw [if_pos e, e, gb]
          · rw [if_neg e, if_neg e]
      have fin : L_Load_searchFrom_51 N (F_Load_searchFrom N (dd + 1)) f (nI i) (nI rej) (nI (L i)) (nI (p + 1)) hl9 hh hr (F_Cargo_move (nI (L i)) (-1) (F_Cargo_move (nI (L i)) (nI p) hc)) = some (hl9, F_Cargo_move (nI (L i)) (-1) (F_Cargo_move (nI (L i)) (nI p) hc)) := by
        obtain ⟨f, rfl⟩ : ∃ z, f = z + 1 := ⟨f - 1, by omega⟩
        rw [L_Load_searchFrom_51, lk, if_pos pu_10]
        split <;> rfl
      rw [search_left lk, bind_sn]
      dsimp only
      rw [fin]
      refine ⟨hl9, _, ss g 26 1, _, rfl, rfl, Or.inr ⟨rfl, by rw [pu_ss, if_pos rfl, if_pos rfl]⟩, V1, S9, ⟨⟨lr' 1 (by omega) (by omega), lr' 2 (by omega) (by omega), l0 0 (by omega)⟩, ?_, ?_, ?_⟩, ?_⟩
      · intro r r0 _ _ _ _; rw [pu_ssr, if_neg r0]
      · intro j _ j26 _; rw [pu_ss, if_pos rfl, if_neg j26]
      · intro c _; rw [pu_ssr, if_neg (by omega)]
      · intro j hj; rw [l3 j, if_neg (by omega), pu_ssr, if_neg (by omega)]; exact ⟨rfl, rfl⟩
    · -- one more put
      rw [if_pos (fun y => cl (lim_eq.mp y)), if_pos (pu_in (by omega) (by omega))]
      obtain ⟨g14, eg⟩ : ∃ g14, g14 = sa (ss g 24 (g 0 24 + 1)) 12 (nI i) (nI p) := ⟨_, rfl⟩
      have m0 : ∀ j, j ≠ 24 → g14 0 j = g 0 j := fun j hj => by rw [eg, pu_sa, if_neg (by omega), pu_ss, if_pos rfl, if_neg hj]
      have m24 : g14 0 24 = nI (d + 1) := by rw [eg, pu_sa, if_neg (by omega), pu_ss, if_pos rfl, if_pos rfl, hd.1, nI_1]
      have mr : ∀ r, r ≠ 0 → r ≠ 12 → g14 r = g r := fun r r0 r12 => by rw [eg, pu_sa, if_neg r12, pu_ssr, if_neg r0]
      have m12 : ∀ j, g14 12 j = if j = i then nI p else g 12 j := fun j => by
        rw [eg, pu_sa, if_pos rfl, pu_ssr, if_neg (by omega), nI_clamp (by omega), pu_upd]
      rw [← eg]
      have V14 : VS hh hr hc g14 B R H D K n o := V.cg (mr 1 (by omega) (by omega)) (m0 6 (by omega)) (mr 4 (by omega) (by omega)) (mr 5 (by omega) (by omega)) (mr 6 (by omega) (by omega)) (mr 7 (by omega) (by omega)) (mr 8 (by omega) (by omega))
      obtain ⟨g15, a1, V15, a2, a3, -⟩ := lay (N := N') V14 hb (v := nI p) (Or.inr ⟨p, hp', rfl, by rw [mr 7 (by omega) (by omega)]; exact hpf⟩)
      rw [a1, bind_sn]
      have S15 : SRel hl9 g15 w lim (plN B R H D) L := by
        rw [SRel, a2 0 (by omega) (by omega), a2 11 (by omega) (by omega), a2 13 (by omega) (by omega)]
        refine ⟨⟨by rw [l0 5 (by omega)]; exact s1, by rw [m0 27 (by omega)]; exact s2, by rw [l0 8 (by omega)]; exact s3, by rw [m0 25 (by omega)]; exact s4⟩, ?_, ⟨d + 1, l7, Or.inl ⟨by rw [m0 26 (by omega)]; exact e26, m24, by omega⟩⟩, lr, by rw [l0 6 (by omega)]; exact r1, ?_⟩
        · intro j hj; rw [lr' 2 (by omega) (by omega), mr 11 (by omega) (by omega)]; exact s5 j hj
        · rw [m0 30 (by omega), lr' 4 (by omega) (by omega), mr 13 (by omega) (by omega)]; exact r2
      have P15 : PreR hl9 g15 (i + 1) (plN B R H D) := by
        intro j hj
        rw [a2 12 (by omega) (by omega), l3 j, m12 j]
        by_cases e : j = i
        · rw [if_pos e, if_pos e]; exact ⟨rfl, Or.inr ⟨p, hp', rfl⟩⟩
        · rw [if_neg e, if_neg e]; exact P j (by omega)
      have nl15 : ∀ j, i + 1 ≤ j → j < w → g15 7 (L j) = -1 := by
        intro j j1 j2
        rw [a3, mr 7 (by omega) (by omega), if_neg (fun y => by have := hLi j i j2 hi y; omega)]
        exact hnl j (by omega) j2
      have ho15 : g15 0 11 = nI o := by rw [a2 0 (by omega) (by omega), m0 11 (by omega)]; exact ho
      obtain ⟨hl1, hc1, g1, b1, b2, V1, S1, F1, P1, -⟩ := hG rej hl9 _ g15 (by omega) V15 ho15 S15 P15 nl15
      rw [nI_1, b1, b2, bind_sn, bind_sn]
      dsimp only
      obtain ⟨g3, c1, V3, c2, c3, -⟩ := lay (N := N') V1 hb (v := -1) (Or.inl rfl)
      rw [c1, bind_sn]
      have S3 : SRel hl1 g3 w lim (plN B R H D) L := by
        rw [SRel, c2 0 (by omega) (by omega), c2 11 (by omega) (by omega), c2 13 (by omega) (by omega)]; exact S1
      have e7 : ∀ c, c < n → g3 7 c = g 7 c := by
        intro c hc'
        rw [c3 c]
        by_cases e : c = L i
        · rw [if_pos e, e, gb]
        · rw [if_neg e, F1.2.2.2 c hc', a3 c, if_neg e, mr 7 (by omega) (by omega)]
      have FF : FrL hl hl1 g g3 n := by
        refine ⟨⟨by rw [F1.1.1, lr' 1 (by omega) (by omega)], by rw [F1.1.2.1, lr' 2 (by omega) (by omega)], by rw [F1.1.2.2, l0 0 (by omega)]⟩, ?_, ?_, e7⟩
        · intro r r0 r7 r8 r12 r13
          rw [c2 r r7 r8, F1.2.1 r r0 r7 r8 r12 r13, a2 r r7 r8, mr r r0 r12]
        · intro j j24 j26 j30
          rw [c2 0 (by omega) (by omega), F1.2.2.1 j j24 j26 j30, a2 0 (by omega) (by omega), m0 j j24]
      have PP : ∀ j, j < i → hl1 3 j = hl 3 j ∧ g3 12 j = g 12 j := by
        intro j hj
        obtain ⟨y1, y2⟩ := P1 j (by omega)
        rw [y1, c2 12 (by omega) (by omega), y2, l3 j, if_neg (by omega), a2 12 (by omega) (by omega), m12 j, if_neg (by omega)]
        exact ⟨rfl, rfl⟩
      have P3 : PreR hl1 g3 i (plN B R H D) := by
        intro j hj
        obtain ⟨y1, y2⟩ := PP j hj
        rw [y1, y2]; exact P j hj
      obtain ⟨hl', hc', g', s, d1', d2', d3', d4', d5', d6', d7'⟩ := ih (p + 1) f f' hl1 _ g3 V3 (by rw [FF.2.2.1 11 (by omega) (by omega) (by omega)]; exact ho) S3 P3 (fun j j1 j2 => by rw [e7 _ (hL j j2)]; exact hnl j j1 j2) (by omega) (by omega) (by omega)
      exact ⟨hl', hc', g', s, d1', d2', d3', d4', d5', FF.tr d6', fun j hj => by
        obtain ⟨y1, y2⟩ := d7' j hj
        obtain ⟨z1, z2⟩ := PP j hj
        rw [y1, y2, z1, z2]; exact ⟨rfl, rfl⟩⟩
/-- the best row kept, at the end of a row -/
theorem goes_24 (rec : Int32 → Int32 → HH → Option HH) (hw : w ≤ 24) : ∀ (m j f : Nat) (g : HH), g 0 27 = nI w → j + m = w → m < f → ∃ g', L_Mo_goes_24 N rec f (nI j) g = some g' ∧ (∀ r, r ≠ 13 → g' r = g r) ∧ (∀ i, j ≤ i → i < w → g' 13 i = g 12 i) ∧ ∀ i, i < j → g' 13 i = g 13 i := by
  intro m
  induction m with
  | zero =>
    intro j f g h0 h1 h2
    obtain ⟨f, rfl⟩ : ∃ z, f = z + 1 := ⟨f - 1, by omega⟩
    have : j = w := by omega
    subst this
    rw [L_Mo_goes_24, h0, if_pos (Int32.le_refl _)]
    exact ⟨g, rfl, fun _ _ => rfl, fun i i1 i2 => by omega, fun _ _ => rfl⟩
  | succ m ih =>
    intro j f g h0 h1 h2
    obtain ⟨f, rfl⟩ : ∃ z, f = z + 1 := ⟨f - 1, by omega⟩
    have hj : sv_in (nI j) 24 := pu_in (by omega) (by omega)
    rw [L_Mo_goes_24, h0, if_neg (nI_ge (by omega) (by omega)), if_pos hj, if_pos hj, pu_letn, nI_clamp (by omega), nI_1]
    obtain ⟨g', i1, i2, i3, i4⟩ := ih (j + 1) f (sa g 13 (nI j) (g 12 j)) (by rw [pu_sa, if_neg (by omega)]; exact h0) (by omega) (by omega)
    have row : ∀ i, sa g 13 (nI j) (g 12 j) 13 i = if i = j then g 12 j else g 13 i := fun i => by rw [pu_sa, if_pos rfl, nI_clamp (by omega), pu_upd]
    refine ⟨g', i1, fun r hr' => by rw [i2 r hr', pu_sa, if_neg hr'], ?_, fun i hi => by rw [i4 i (by omega), row, if_neg (by omega)]⟩
    intro i a1 a2
    rcases Nat.lt_or_ge j i with y | y
    · rw [i3 i y a2, pu_sa, if_neg (by omega)]
    · have : i = j := by omega
      subst this
      rw [i4 i (by omega), row, if_pos rfl]
theorem go_ok (hlim : lim ≤ 50000) (hw : w ≤ 24) (hL : ∀ j, j < w → L j < n) (hLi : ∀ a b, a < w → b < w → L a = L b → a = b) (hN : 200 ≤ N) (hN' : 200 ≤ N') : ∀ (q i dd dd' : Nat), i + q = w → q < dd → q < dd' → GoOK hh hr B R H D K n o N N' w lim L i dd dd' := by
  intro q
  induction q with
  | zero =>
    intro i dd dd' h1 h2 h3 rej hl hc g hrej V ho S P hnl
    obtain ⟨dd, rfl⟩ : ∃ z, dd = z + 1 := ⟨dd - 1, by omega⟩
    obtain ⟨dd', rfl⟩ : ∃ z, dd' = z + 1 := ⟨dd' - 1, by omega⟩
    have : i = w := by omega
    subst this
    obtain ⟨q1, q2, q3, q4⟩ := left_eq S hlim hw (rej := rej) hrej
    rw [F_Load_searchFrom, F_Mo_goes, q1]
    rcases q2 with z | z
    case inr =>
      rw [z, if_neg pu_10, if_neg pu_10]
      exact ⟨hl, hc, g, rfl, rfl, V, S, FrL.refl hl g n, fun _ _ => ⟨rfl, rfl⟩, Dn_left S z⟩
    have e26 := q3 z
    obtain ⟨⟨s1, s2, s3, s4⟩, s5, ⟨d, d1, d2⟩, -⟩ := S
    rw [z, if_pos rfl, if_pos rfl, s1, s2, if_neg (nI_nlt (Nat.le_refl _) (by omega)), ifn rfl]
    simp only [pu_letn]
    obtain ⟨g1, i1, i2, i3, -⟩ := goes_24 (N := N') (F_Mo_goes N' dd') hw i 0 N' (ss g 30 (nI rej)) (by rw [pu_ss, if_pos rfl, if_neg (by omega)]; exact s2) (by omega) (by omega)
    rw [show nI 0 = 0 from rfl] at i1
    rw [i1, bind_sn]
    have gr : ∀ r, r ≠ 0 → r ≠ 13 → g1 r = g r := fun r r0 r13 => by rw [i2 r r13, pu_ssr, if_neg r0]
    have g0 : ∀ j, j ≠ 30 → g1 0 j = g 0 j := fun j hj => by rw [i2 0 (by omega), pu_ss, if_pos rfl, if_neg hj]
    have g30 : g1 0 30 = nI rej := by rw [i2 0 (by omega), pu_ss, if_pos rfl, if_pos rfl]
    have lr' : ∀ r, r ≠ 0 → r ≠ 4 → sc (ss hl 6 (nI rej)) 3 4 0 0 24 r = hl r := fun r r0 r4 => by unfold sc; rw [pu_sr, if_neg r4, pu_ssr, if_neg r0]
    have l0 : ∀ j, j ≠ 6 → sc (ss hl 6 (nI rej)) 3 4 0 0 24 0 j = hl 0 j := fun j hj => by unfold sc; rw [pu_sr, if_neg (by omega), pu_ss, if_pos rfl, if_neg hj]
    have l6 : sc (ss hl 6 (nI rej)) 3 4 0 0 24 0 6 = nI rej := by unfold sc; rw [pu_sr, if_neg (by omega), pu_ss, if_pos rfl, if_pos rfl]
    have l4 : ∀ j, j < 24 → sc (ss hl 6 (nI rej)) 3 4 0 0 24 4 j = hl 3 j := fun j hj => by
      have e : va_cpy (ss hl 6 (nI rej) 3) (ss hl 6 (nI rej) 4) 0 0 24 j = ss hl 6 (nI rej) 3 (0 + (j - 0)) := pk_cpy_in (Nat.zero_le _) (by omega)
      unfold sc
      rw [pu_sr, if_pos rfl]
      show va_cpy (ss hl 6 (nI rej) 3) (ss hl 6 (nI rej) 4) 0 0 24 j = hl 3 j
      rw [e, pu_ssr, if_neg (by omega), Nat.zero_add, Nat.sub_zero]
    refine ⟨_, hc, g1, rfl, rfl, ?_, ?_, ⟨⟨lr' 1 (by omega) (by omega), lr' 2 (by omega) (by omega), l0 0 (by omega)⟩, fun r r0 _ _ _ r13 => gr r r0 r13, fun j _ _ j30 => g0 j j30, fun c _ => by rw [gr 7 (by omega) (by omega)]⟩, fun j _ => by rw [lr' 3 (by omega) (by omega), gr 12 (by omega) (by omega)]; exact ⟨rfl, rfl⟩, Or.inr (by rw [g30]; exact pu_m1 (by omega))⟩
    · exact V.cg (gr 1 (by omega) (by omega)) (g0 6 (by omega)) (gr 4 (by omega) (by omega)) (gr 5 (by omega) (by omega)) (gr 6 (by omega) (by omega)) (gr 7 (by omega) (by omega)) (gr 8 (by omega) (by omega))
    · refine ⟨⟨by rw [l0 5 (by omega)]; exact s1, by rw [g0 27 (by omega)]; exact s2, by rw [l0 8 (by omega)]; exact s3, by rw [g0 25 (by omega)]; exact s4⟩, ?_, ⟨d, by rw [l0 7 (by omega)]; exact d1, by rw [g0 26 (by omega), g0 24 (by omega)]; exact d2⟩, rej, l6, Or.inr ⟨g30, hrej, ?_⟩⟩
      · intro j hj; rw [lr' 2 (by omega) (by omega), gr 11 (by omega) (by omega)]; exact s5 j hj
      · intro j hj
        rw [l4 j (by omega), i3 j (by omega) hj, pu_ssr, if_neg (by omega)]
        exact P j hj
  | succ q ih =>
    intro i dd dd' h1 h2 h3 rej hl hc g hrej V ho S P hnl
    obtain ⟨dd, rfl⟩ : ∃ z, dd = z + 1 + 1 := ⟨dd - 2, by omega⟩
    obtain ⟨dd', rfl⟩ : ∃ z, dd' = z + 1 := ⟨dd' - 1, by omega⟩
    have hi : i < w := by omega
    have hP := V.pp
    obtain ⟨q1, q2, q3, q4⟩ := left_eq S hlim hw (rej := rej) (by omega)
    rw [F_Load_searchFrom, F_Mo_goes, q1]
    rcases q2 with z | z
    case inr =>
      rw [z, if_neg pu_10, if_neg pu_10]
      exact ⟨hl, hc, g, rfl, rfl, V, S, FrL.refl hl g n, fun _ _ => ⟨rfl, rfl⟩, Dn_left S z⟩
    have hs1 : hl 0 5 = nI w := S.1.1
    have hs2 : g 0 27 = nI w := S.1.2.1
    have ii : sv_in (nI i) 24 := pu_in (by omega) (by omega)
    have nw : ¬ nI i = nI w := fun y => by have := (nI_eq (by omega) (by omega)).mp y; omega
    obtain ⟨u1, u2⟩ := S.2.1 i hi
    rw [z, if_pos rfl, if_pos rfl, hs1, hs2, if_pos (nI_lt hi (by omega)), if_pos nw]
    simp only [if_pos ii]
    rw [nI_clamp (by omega), u2, pu_rd _ (by omega) (by omega), u1]
    have hG := ih (i + 1) (dd + 1) dd' (by omega) (by omega) (by omega)
    obtain ⟨hl1, hc1, g1, s, a1, a2, a3, V1, S1, F1, P1⟩ := go_loop (N := N) (N' := N') (rej := rej) hG hlim hw hi hrej hL hLi (by omega) (by omega) (plN B R H D) 0 N N' hl hc g V ho S P hnl (by omega) (by omega) (by omega)
    rw [show nI 0 = 0 from rfl] at a1 a2
    rw [a1, a2, bind_sn, nI_1, nI_1]
    dsimp only
    -- the class writes a rejected box, which nobody reads if it goes no further
    have w3 : ∀ j, sw hl1 3 24 (nI i) (-1) 3 j = if j = i then -1 else hl1 3 j := fun j => by rw [pu_sw, if_pos rfl, pu_wr _ _ (by omega) (by omega), pu_upd]
    have wr' : ∀ r, r ≠ 3 → sw hl1 3 24 (nI i) (-1) r = hl1 r := fun r hr' => by rw [pu_sw, if_neg hr']
    obtain ⟨t1, t2, t3, t4⟩ := left_eq S1 hlim hw (rej := rej) (by omega)
    have stop : F_Mo_isLeft (nI rej) g1 = 1 → ∃ hl' hc', (sv_let (sw hl1 3 24 (nI i) (-1)) fun hl_15 => Option.bind (F_Load_searchFrom N (dd + 1) (nI (i + 1)) (nI (rej + 1)) hl_15 hh hr hc1) fun v16 => some (v16.1, v16.2)) = some (hl', hc') ∧ VS hh hr hc' g1 B R H D K n o ∧ SRel hl' g1 w lim (plN B R H D) L ∧ FrL hl hl' g g1 n ∧ (∀ j, j < i → hl' 3 j = hl 3 j ∧ g1 12 j = g 12 j) := by
      intro y
      have lk : F_Load_isLeft (nI (rej + 1)) (sw hl1 3 24 (nI i) (-1)) = 1 := by
        have e := t4 y
        unfold F_Load_isLeft F_Load_isTooLong at *
        rw [wr' 0 (by omega)]; exact e
      rw [pu_letn, search_left lk, bind_sn]
      refine ⟨sw hl1 3 24 (nI i) (-1), hc1, rfl, V1, ?_, ?_, ?_⟩
      · rw [SRel, wr' 0 (by omega), wr' 2 (by omega), wr' 4 (by omega)]; exact S1
      · exact ⟨⟨by rw [wr' 1 (by omega)]; exact F1.1.1, by rw [wr' 2 (by omega)]; exact F1.1.2.1, by rw [wr' 0 (by omega)]; exact F1.1.2.2⟩, F1.2⟩
      · intro j hj; rw [w3 j, if_neg (by omega)]; exact P1 j hj
    rcases a3 with rfl | ⟨rfl, a4⟩
    case inr =>
      have lm : F_Mo_isLeft (nI rej) g1 = 1 := by unfold F_Mo_isLeft; rw [a4, if_pos pu_10]
      obtain ⟨hl', hc', e1, e2, e3, e4, e5⟩ := stop lm
      exact ⟨hl', hc', g1, e1, rfl, e2, e3, e4, e5, Or.inl a4⟩
    show ∃ hl' hc' g', _ ∧ (if F_Mo_isLeft (nI rej) g1 = 0 then _ else _) = some g' ∧ _
    rcases t2 with y | y
    case inr =>
      obtain ⟨hl', hc', e1, e2, e3, e4, e5⟩ := stop y
      rw [y, if_neg pu_10]
      exact ⟨hl', hc', g1, e1, rfl, e2, e3, e4, e5, Dn_left S1 y⟩
    rw [y, if_pos rfl, pu_letn, pu_letn]
    have m12 : ∀ j, sa g1 12 (nI i) (-1) 12 j = if j = i then -1 else g1 12 j := fun j => by rw [pu_sa, if_pos rfl, nI_clamp (by omega), pu_upd]
    have mr : ∀ r, r ≠ 12 → sa g1 12 (nI i) (-1) r = g1 r := fun r hr' => by rw [pu_sa, if_neg hr']
    have V2 : VS hh hr hc1 (sa g1 12 (nI i) (-1)) B R H D K n o := V1.cg (mr 1 (by omega)) (by rw [mr 0 (by omega)]) (mr 4 (by omega)) (mr 5 (by omega)) (mr 6 (by omega)) (mr 7 (by omega)) (mr 8 (by omega))
    have S2 : SRel (sw hl1 3 24 (nI i) (-1)) (sa g1 12 (nI i) (-1)) w lim (plN B R H D) L := by
      rw [SRel, wr' 0 (by omega), wr' 2 (by omega), wr' 4 (by omega), mr 0 (by omega), mr 11 (by omega), mr 13 (by omega)]; exact S1
    have P2 : PreR (sw hl1 3 24 (nI i) (-1)) (sa g1 12 (nI i) (-1)) (i + 1) (plN B R H D) := by
      intro j hj
      rw [w3 j, m12 j]
      by_cases e : j = i
      · rw [if_pos e, if_pos e]; exact ⟨rfl, Or.inl rfl⟩
      · rw [if_neg e, if_neg e]
        obtain ⟨y1, y2⟩ := P1 j (by omega)
        rw [y1, y2]; exact P j (by omega)
    obtain ⟨hl', hc', g', b1, b2, b3, b4, b5, b6, b7⟩ := hG (rej + 1) _ hc1 _ (by omega) V2 (by rw [mr 0 (by omega), F1.2.2.1 11 (by omega) (by omega) (by omega)]; exact ho) S2 P2 (fun j j1 j2 => by rw [mr 7 (by omega), F1.2.2.2 _ (hL j j2)]; exact hnl j (by omega) j2)
    rw [b1, b2, bind_sn, bind_sn]
    refine ⟨hl', hc', g', rfl, rfl, b3, b4, ?_, ?_, b7⟩
    · refine FrL.tr F1 (FrL.tr ?_ b5)
      exact ⟨⟨wr' 1 (by omega), wr' 2 (by omega), by rw [wr' 0 (by omega)]⟩, fun r _ _ _ r12 _ => mr r r12, fun j _ _ _ => by rw [mr 0 (by omega)], fun c _ => by rw [mr 7 (by omega)]⟩
    · intro j hj
      obtain ⟨y1, y2⟩ := b6 j (by omega)
      obtain ⟨z1, z2⟩ := P1 j hj
      rw [y1, y2, w3 j, m12 j, if_neg (by omega), if_neg (by omega), z1, z2]
      exact ⟨rfl, rfl⟩
end LOAD
