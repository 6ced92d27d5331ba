/-! ===== pure: load, effort ===== -/
section LOAD2
variable {k k' : KS} {g g' g2 : HH} {hy hv hh hr hc hc2 hp hl hl' : HH} {B R H D K n o N N' t w lim : Nat} {L : Nat → Nat}
/-- the boxes that lie nowhere, listed by both -/
def LsR (hl g : HH) (w j : Nat) (L : Nat → Nat) : Prop := hl 0 5 = nI w ∧ g 0 27 = nI w ∧ (∀ i, i < w → hl 2 i = nI (L i) ∧ g 11 i = nI (L i) ∧ L i < j ∧ g 7 (L i) = -1) ∧ (∀ a b, a < b → b < w → L a < L b) ∧ w ≤ j
theorem list_L (hc : HH) (hr' : hr = hr) : ∀ (m j f f' w : Nat) (hl g : HH) (L : Nat → Nat), VS hh hr hc g B R H D K n o → LsR hl g w j L → j + m = n → m < f → m < f' → ∃ hl' g' w' L', L_Load_listBoxes_7 N f (nI j) hl hc = some hl' ∧ L_Mo_laysWaiting_7 N' f' (nI j) g = some g' ∧ LsR hl' g' w' n L' ∧ (∀ r, r ≠ 0 → r ≠ 2 → hl' r = hl r) ∧ (∀ i, i ≠ 5 → hl' 0 i = hl 0 i) ∧ (∀ r, r ≠ 0 → r ≠ 11 → g' r = g r) ∧ (∀ i, i ≠ 27 → g' 0 i = g 0 i) := by
  intro m
  induction m with
  | zero =>
    intro j f f' w hl g L V S h1 h2 h3
    obtain ⟨f, rfl⟩ : ∃ z, f = z + 1 := ⟨f - 1, by omega⟩
    obtain ⟨f', rfl⟩ : ∃ z, f' = z + 1 := ⟨f' - 1, by omega⟩
    have : j = n := by omega
    subst this
    rw [L_Load_listBoxes_7, L_Mo_laysWaiting_7, V.n6, V.h0, if_pos (Int32.le_refl _), if_pos (Int32.le_refl _)]
    exact ⟨hl, g, w, L, rfl, rfl, S, fun _ _ _ => rfl, fun _ _ => rfl, fun _ _ _ => rfl, fun _ _ => rfl⟩
  | succ m ih =>
    intro j f f' w hl g L V S h1 h2 h3
    obtain ⟨f, rfl⟩ : ∃ z, f = z + 1 := ⟨f - 1, by omega⟩
    obtain ⟨f', rfl⟩ : ∃ z, f' = z + 1 := ⟨f' - 1, by omega⟩
    have hj : j < n := by omega
    have hn := V.nn
    obtain ⟨s1, s2, s3, s4, s5⟩ := S
    rw [L_Load_listBoxes_7, L_Mo_laysWaiting_7, V.n6, V.h0, if_neg (nI_ge hj (by omega)), if_neg (nI_ge hj (by omega)), V.lies hj, if_pos (pu_in (by omega) (by omega)), nI_clamp (by omega), nI_1]
    by_cases c : g 7 j = -1
    · rw [if_pos c, ife0, if_pos c, s1, s2, if_pos (pu_in (by omega) (by omega))]
      simp only [pu_letn]
      have a1 : ∀ i, ss (sw hl 2 24 (nI w) (nI j)) 5 (sw hl 2 24 (nI w) (nI j) 0 5 + 1) 0 i = if i = 5 then nI (w + 1) else hl 0 i := fun i => by
        have e0 : sw hl 2 24 (nI w) (nI j) 0 = hl 0 := by rw [pu_sw, if_neg (by omega)]
        rw [pu_ss, if_pos rfl, e0, s1, nI_1]
      have a2 : ∀ i, ss (sw hl 2 24 (nI w) (nI j)) 5 (sw hl 2 24 (nI w) (nI j) 0 5 + 1) 2 i = if i = w then nI j else hl 2 i := fun i => by
        rw [pu_ssr, if_neg (by omega), pu_sw, if_pos rfl, pu_wr _ _ (by omega) (by omega), pu_upd]
      have a3 : ∀ r, r ≠ 0 → r ≠ 2 → ss (sw hl 2 24 (nI w) (nI j)) 5 (sw hl 2 24 (nI w) (nI j) 0 5 + 1) r = hl r := fun r r0 r2 => by
        rw [pu_ssr, if_neg r0, pu_sw, if_neg r2]
      have b1 : ∀ i, ss (sa g 11 (nI w) (nI j)) 27 (sa g 11 (nI w) (nI j) 0 27 + 1) 0 i = if i = 27 then nI (w + 1) else g 0 i := fun i => by
        have e0 : sa g 11 (nI w) (nI j) 0 = g 0 := by rw [pu_sa, if_neg (by omega)]
        rw [pu_ss, if_pos rfl, e0, s2, nI_1]
      have b2 : ∀ i, ss (sa g 11 (nI w) (nI j)) 27 (sa g 11 (nI w) (nI j) 0 27 + 1) 11 i = if i = w then nI j else g 11 i := fun i => by
        rw [pu_ssr, if_neg (by omega), pu_sa, if_pos rfl, nI_clamp (by omega), pu_upd]
      have b3 : ∀ r, r ≠ 0 → r ≠ 11 → ss (sa g 11 (nI w) (nI j)) 27 (sa g 11 (nI w) (nI j) 0 27 + 1) r = g r := fun r r0 r2 => by
        rw [pu_ssr, if_neg r0, pu_sa, if_neg r2]
      generalize ss (sw hl 2 24 (nI w) (nI j)) 5 (sw hl 2 24 (nI w) (nI j) 0 5 + 1) = hl1 at *
      generalize ss (sa g 11 (nI w) (nI j)) 27 (sa g 11 (nI w) (nI j) 0 27 + 1) = g1 at *
      have V1 : VS hh hr hc g1 B R H D K n o := V.cg (b3 1 (by omega) (by omega)) (by rw [b1 6, if_neg (by omega)]) (b3 4 (by omega) (by omega)) (b3 5 (by omega) (by omega)) (b3 6 (by omega) (by omega)) (b3 7 (by omega) (by omega)) (b3 8 (by omega) (by omega))
      have S1 : LsR hl1 g1 (w + 1) (j + 1) (fun i => if i = w then j else L i) := by
        refine ⟨by rw [a1 5, if_pos rfl], by rw [b1 27, if_pos rfl], ?_, ?_, by omega⟩
        · intro i hi
          rw [a2 i, b2 i, b3 7 (by omega) (by omega)]
          show _ ∧ _ ∧ (if i = w then j else L i) < j + 1 ∧ g 7 (if i = w then j else L i) = -1
          by_cases e : i = w
          · simp only [if_pos e]; exact ⟨trivial, trivial, by omega, c⟩
          · simp only [if_neg e]
            obtain ⟨z1, z2, z3, z4⟩ := s3 i (by omega)
            exact ⟨z1, z2, by omega, z4⟩
        · intro a b h1 h2
          show (if a = w then j else L a) < (if b = w then j else L b)
          rw [if_neg (by omega)]
          by_cases e : b = w
          · rw [if_pos e]; exact (s3 a (by omega)).2.2.1
          · rw [if_neg e]; exact s4 a b h1 (by omega)
      obtain ⟨hl', g', w', L', i1, i2, i3, i4, i5, i6, i7⟩ := ih (j + 1) f f' (w + 1) hl1 g1 _ V1 S1 (by omega) (by omega) (by omega)
      exact ⟨hl', g', w', L', i1, i2, i3, fun r r0 r2 => by rw [i4 r r0 r2, a3 r r0 r2], fun i hi => by rw [i5 i hi, a1 i, if_neg hi], fun r r0 r2 => by rw [i6 r r0 r2, b3 r r0 r2], fun i hi => by rw [i7 i hi, b1 i, if_neg hi]⟩
    · rw [if_neg c, if_pos pu_10, if_neg c]
      exact ih (j + 1) f f' w hl g L V ⟨s1, s2, fun i hi => by obtain ⟨z1, z2, z3, z4⟩ := s3 i hi; exact ⟨z1, z2, by omega, z4⟩, s4, by omega⟩ (by omega) (by omega) (by omega)
theorem list_ok (V : VS hh hr hc g B R H D K n o) (hl : HH) (hN : 30 ≤ N) (hN' : 30 ≤ N') : ∃ hl' g' w L, F_Load_listBoxes N hl hc = some hl' ∧ F_Mo_laysWaiting N' g = some g' ∧ LsR hl' g' w n L ∧ (∀ r, r ≠ 0 → r ≠ 2 → hl' r = hl r) ∧ (∀ i, i ≠ 5 → hl' 0 i = hl 0 i) ∧ (∀ r, r ≠ 0 → r ≠ 11 → g' r = g r) ∧ (∀ i, i ≠ 27 → g' 0 i = g 0 i) ∧ VS hh hr hc g' B R H D K n o := by
  have hn := V.nn
  have V0 : VS hh hr hc (ss g 27 0) B R H D K n o := V.cg (by rw [pu_ssr, if_neg (by omega)]) (by rw [pu_ss, if_pos rfl, if_neg (by omega)]) (by rw [pu_ssr, if_neg (by omega)]) (by rw [pu_ssr, if_neg (by omega)]) (by rw [pu_ssr, if_neg (by omega)]) (by rw [pu_ssr, if_neg (by omega)]) (by rw [pu_ssr, if_neg (by omega)])
  obtain ⟨hl', g', w, L, i1, i2, i3, i4, i5, i6, i7⟩ := list_L (N := N) (N' := N') hc rfl n 0 N N' 0 (ss hl 5 0) (ss g 27 0) (fun _ => 0) V0 ⟨by rw [pu_ss, if_pos rfl, if_pos rfl]; rfl, by rw [pu_ss, if_pos rfl, if_pos rfl]; rfl, fun i hi => by omega, fun a b _ hb => by omega, by omega⟩ (by omega) (by omega) (by omega)
  rw [show nI 0 = 0 from rfl] at i1 i2
  have gr : ∀ r, r ≠ 0 → r ≠ 11 → g' r = g r := fun r r0 r11 => by rw [i6 r r0 r11, pu_ssr, if_neg r0]
  have g0 : ∀ i, i ≠ 27 → g' 0 i = g 0 i := fun i hi => by rw [i7 i hi, pu_ss, if_pos rfl, if_neg hi]
  refine ⟨hl', g', w, L, ?_, ?_, i3, fun r r0 r2 => by rw [i4 r r0 r2, pu_ssr, if_neg r0], fun i hi => by rw [i5 i hi, pu_ss, if_pos rfl, if_neg hi], gr, g0, ?_⟩
  · unfold F_Load_listBoxes; rw [pu_letn, i1, bind_sn]
  · unfold F_Mo_laysWaiting; rw [pu_letn, i2, bind_sn]
  · exact V.cg (gr 1 (by omega) (by omega)) (g0 6 (by omega)) (gr 4 (by omega) (by omega)) (gr 5 (by omega) (by omega)) (gr 6 (by omega) (by omega)) (gr 7 (by omega) (by omega)) (gr 8 (by omega) (by omega))
theorem LsR.inj (S : LsR hl g w n L) : ∀ a b, a < w → b < w → L a = L b → a = b := by
  intro a b ha hb e
  rcases Nat.lt_trichotomy a b with h | h | h
  · have := S.2.2.2.1 a b h hb; omega
  · exact h
  · have := S.2.2.2.1 b a h ha; omega
/-- the search, by both -/
theorem search_ok (V : VS hh hr hc g B R H D K n o) (ho : g 0 11 = nI o) (hl : HH) {lim : Nat} (hlim : lim ≤ 50000) (hN : 200 ≤ N) (hN' : 200 ≤ N') : ∃ hl' hc' g' w L, F_Load_search N (nI lim) hl hh hr hc = some (hl', hc') ∧ F_Mo_searches N' (nI lim) g = some (if g' 0 26 = 0 then 1 else 0, g') ∧ VS hh hr hc' g' B R H D K n o ∧ SRel hl' g' w lim (plN B R H D) L ∧ w ≤ 24 ∧ (∀ j, j < w → L j < n) ∧ Dn g' ∧ (hl' 1 = hl 1 ∧ hl' 0 0 = hl 0 0) ∧ (∀ r, r ≠ 0 → r ≠ 7 → r ≠ 8 → r ≠ 11 → r ≠ 12 → r ≠ 13 → g' r = g r) ∧ (∀ i, i ≠ 24 → i ≠ 25 → i ≠ 26 → i ≠ 27 → i ≠ 30 → g' 0 i = g 0 i) ∧ ∀ c, c < n → g' 7 c = g 7 c := by
  have hn := V.nn
  obtain ⟨g4, eg⟩ : ∃ g4, g4 = ss (ss (ss (ss g 24 0) 25 (nI lim)) 26 0) 30 (-1) := ⟨_, rfl⟩
  have q0 : ∀ i, g4 0 i = if i = 30 then -1 else if i = 26 then 0 else if i = 25 then nI lim else if i = 24 then 0 else g 0 i := fun i => by
    rw [eg, pu_ss, if_pos rfl, pu_ss, if_pos rfl, pu_ss, if_pos rfl, pu_ss, if_pos rfl]
  have qr : ∀ r, r ≠ 0 → g4 r = g r := fun r r0 => by rw [eg, pu_ssr, if_neg r0, pu_ssr, if_neg r0, pu_ssr, if_neg r0, pu_ssr, if_neg r0]
  have V4 : VS hh hr hc g4 B R H D K n o := V.cg (qr 1 (by omega)) (by rw [q0, if_neg (by omega), if_neg (by omega), if_neg (by omega), if_neg (by omega)]) (qr 4 (by omega)) (qr 5 (by omega)) (qr 6 (by omega)) (qr 7 (by omega)) (qr 8 (by omega))
  obtain ⟨hl1, g5, w, L, a1, a2, a3, a4, a5, a6, a7, V5⟩ := list_ok (N := N) (N' := N') V4 hl (by omega) (by omega)
  have hw : w ≤ 24 := by have := a3.2.2.2.2; omega
  obtain ⟨hl5, eh⟩ : ∃ hl5, hl5 = ss (ss (ss hl1 6 (hl1 0 5 + 1)) 7 0) 8 (nI lim) := ⟨_, rfl⟩
  have p0 : ∀ i, hl5 0 i = if i = 8 then nI lim else if i = 7 then 0 else if i = 6 then nI (w + 1) else hl1 0 i := fun i => by
    rw [eh, pu_ss, if_pos rfl, pu_ss, if_pos rfl, pu_ss, if_pos rfl, a3.1, nI_1]
  have pr : ∀ r, r ≠ 0 → hl5 r = hl1 r := fun r r0 => by rw [eh, pu_ssr, if_neg r0, pu_ssr, if_neg r0, pu_ssr, if_neg r0]
  have S5 : SRel hl5 g5 w lim (plN B R H D) L := by
    refine ⟨⟨by rw [p0, if_neg (by omega), if_neg (by omega), if_neg (by omega)]; exact a3.1, a3.2.1, by rw [p0, if_pos rfl], by rw [a7 25 (by omega), q0, if_neg (by omega), if_neg (by omega), if_pos rfl]⟩, ?_, ⟨0, by rw [p0, if_neg (by omega), if_pos rfl]; rfl, Or.inl ⟨by rw [a7 26 (by omega), q0, if_neg (by omega), if_pos rfl], by rw [a7 24 (by omega), q0, if_neg (by omega), if_neg (by omega), if_neg (by omega), if_pos rfl]; rfl, by omega⟩⟩, w + 1, by rw [p0, if_neg (by omega), if_neg (by omega), if_pos rfl], Or.inl ⟨by rw [a7 30 (by omega), q0, if_pos rfl], rfl⟩⟩
    intro i hi
    rw [pr 2 (by omega)]
    exact ⟨(a3.2.2.1 i hi).1, (a3.2.2.1 i hi).2.1⟩
  have hG := go_ok (hh := hh) (hr := hr) (B := B) (R := R) (H := H) (D := D) (K := K) (o := o) (N := N) (N' := N') (w := w) (L := L) (n := n) hlim hw (fun j hj => (a3.2.2.1 j hj).2.2.1) a3.inj hN hN' w 0 27 27 (by omega) (by omega) (by omega)
  obtain ⟨hl', hc', g', b1, b2, b3, b4, b5, -, b7⟩ := hG 0 hl5 hc g5 (by omega) V5 (by rw [a7 11 (by omega), q0, if_neg (by omega), if_neg (by omega), if_neg (by omega), if_neg (by omega)]; exact ho) S5 (fun j hj => by omega) (fun j _ hj => by
    have := (a3.2.2.1 j hj).2.2.2
    exact this)
  rw [show nI 0 = 0 from rfl] at b1 b2
  refine ⟨hl', hc', g', w, L, ?_, ?_, b3, b4, hw, fun j hj => (a3.2.2.1 j hj).2.2.1, b7, ⟨?_, ?_⟩, ?_, ?_, ?_⟩
  · unfold F_Load_search
    rw [a1, bind_sn]
    simp only [pu_letn]
    have e : ss (ss (ss hl1 6 (hl1 0 5 + 1)) 7 0) 8 (nI lim) = hl5 := eh.symm
    rw [e, b1, bind_sn]
  · unfold F_Mo_searches
    simp only [pu_letn]
    rw [← eg, a2, bind_sn, b2, bind_sn]
    by_cases c : g' 0 26 = 0
    · rw [ifn c, if_pos c]
    · rw [if_pos c, if_neg c]
  · rw [b5.1.1, pr 1 (by omega), a4 1 (by omega) (by omega)]
  · rw [b5.1.2.2, p0, if_neg (by omega), if_neg (by omega), if_neg (by omega), a5 0 (by omega)]
  · intro r r0 r7 r8 r11 r12 r13; rw [b5.2.1 r r0 r7 r8 r12 r13, a6 r r0 r11, qr r r0]
  · intro i i24 i25 i26 i27 i30; rw [b5.2.2.1 i i24 i26 i30, a7 i i27, q0, if_neg i30, if_neg i26, if_neg i25, if_neg i24]
  · intro c hc''; rw [b5.2.2.2 c hc'', a6 7 (by omega) (by omega), qr 7 (by omega)]
/-- all but a search's own words and what is told is as it was -/
theorem Inv_l (I : InvB k g) (J : InvA k g B R H D K n o) {hl' hc' : HH} (V : VS (k 9) (k 10) hc' g' B R H D K n o) (h7 : ∀ c, c < n → g' 7 c = g 7 c) (T : ToR hl' g' (plN B R H D)) (hr' : ∀ r, r ≠ 0 → r ≠ 7 → r ≠ 8 → r ≠ 11 → r ≠ 12 → r ≠ 13 → r ≠ 14 → r ≠ 15 → g' r = g r) (h0 : ∀ i, i ≠ 24 → i ≠ 25 → i ≠ 26 → i ≠ 27 → i ≠ 30 → i ≠ 32 → g' 0 i = g 0 i) : Inv (ku (ku k 2 hl') 11 hc') g' := by
  have hn := J.2.2.1.nn
  have r9 := hr' 9 (by omega) (by omega) (by omega) (by omega) (by omega) (by omega) (by omega) (by omega)
  have r22 := hr' 22 (by omega) (by omega) (by omega) (by omega) (by omega) (by omega) (by omega) (by omega)
  have r10 := hr' 10 (by omega) (by omega) (by omega) (by omega) (by omega) (by omega) (by omega) (by omega)
  have r1 := hr' 1 (by omega) (by omega) (by omega) (by omega) (by omega) (by omega) (by omega) (by omega)
  have r4 := hr' 4 (by omega) (by omega) (by omega) (by omega) (by omega) (by omega) (by omega) (by omega)
  have r5 := hr' 5 (by omega) (by omega) (by omega) (by omega) (by omega) (by omega) (by omega) (by omega)
  have r6 := hr' 6 (by omega) (by omega) (by omega) (by omega) (by omega) (by omega) (by omega) (by omega)
  have r16 := hr' 16 (by omega) (by omega) (by omega) (by omega) (by omega) (by omega) (by omega) (by omega)
  have z : ∀ i, i = 1 ∨ i = 11 ∨ i = 14 ∨ i = 20 ∨ i = 21 ∨ i = 46 ∨ i = 22 ∨ i = 37 → g' 0 i = g 0 i := fun i hi => h0 i (by omega) (by omega) (by omega) (by omega) (by omega) (by omega)
  refine ⟨?_, Or.inr ⟨B, R, H, D, K, n, o, ?_⟩⟩
  · refine InvB_c I ?_ ?_ ?_ (z 14 (by omega)) (z 20 (by omega)) (z 21 (by omega)) (z 46 (by omega)) r9 r22
    all_goals simp only [pu_ku]; rfl
  · refine ⟨?_, ?_, ?_, ?_, NoH_7 J.2.2.1 V h7 J.2.2.2.2.1, ?_, ?_, ?_⟩
    · simp only [pu_ku]; exact J.1
    · rw [z 1 (by omega)]; exact J.2.1
    · simp only [pu_ku]; exact V
    · rw [z 11 (by omega)]; exact J.2.2.2.1
    · simp only [pu_ku]
      exact HiR_c hn J.2.2.2.2.2.1 (Nat.le_refl _) (z 22 (by omega)) r10 r1 (fun b _ => by rw [r4, r5, r6]; exact ⟨rfl, rfl, rfl⟩)
    · simp only [pu_ku]; exact T
    · simp only [pu_ku]; exact ShR_c J.2.2.2.2.2.2.2 (z 37 (by omega)) r16
theorem a_puts (J : InvA k g B R H D K n o) (a : Int32) : (∃ m, 1 ≤ m ∧ m ≤ 50000 ∧ a = nI m ∧ F_K_arePuts a (k 0) = 1 ∧ F_Mo_canSearch a g = 1) ∨ (F_K_arePuts a (k 0) = 0 ∧ F_Mo_canSearch a g = 0) := by
  unfold F_K_arePuts F_Mo_canSearch
  have i1 : F_Mo_in a.toInt64 1 50000 = F_K_within a 1 50000 := pu_inw a 1 50000
  rw [i1, J.1, J.2.1, if_neg pu_10]
  rcases pu_wc a 1 50000 (by omega) (by omega) with ⟨m, h1, h2, h3, h4⟩ | ⟨h1, h4⟩
  · have h4 : F_K_within a 1 50000 = 1 := h4
    rw [h4]
    exact Or.inl ⟨m, h1, h2, h3, rfl, rfl⟩
  · have h4 : F_K_within a 1 50000 = 0 := h4
    rw [h4]
    exact Or.inr ⟨rfl, rfl⟩
theorem n_puts (J : InvN k g) (a : Int32) : F_K_arePuts a (k 0) = 0 ∧ F_Mo_canSearch a g = 0 := by
  unfold F_K_arePuts F_Mo_canSearch
  rw [J.1, J.2.1]
  exact ⟨rfl, rfl⟩
theorem long_eq {P : Nat} (S : SRel hl g w lim P L) (hlim : lim ≤ 50000) : (F_Load_isTooLong hl = 0 ↔ g 0 26 = 0) ∧ (g 0 26 = 0 → hl 0 7 = g 0 24) := by
  obtain ⟨⟨s1, s2, s3, s4⟩, -, ⟨d, d1, d2⟩, -⟩ := S
  unfold F_Load_isTooLong
  rw [d1, s3]
  rcases d2 with ⟨e1, e2, e3⟩ | ⟨e1, e2⟩
  · rw [if_pos (nI_le e3 (by omega)), e1, e2]; exact ⟨⟨fun _ => rfl, fun _ => rfl⟩, fun _ => rfl⟩
  · have nl : ¬ nI d ≤ nI lim := nI_ge (by omega) (by omega)
    rw [if_neg nl, e1]; exact ⟨⟨fun z => absurd z (by decide), fun z => absurd z (by decide)⟩, fun z => absurd z (by decide)⟩
theorem sim_28 : Sim_28 Inv := by
  intro a1 k g I
  have same : F_K_effort 300 a1 (k 0) (k 2) (k 9) (k 10) (k 11) = some (-2, k 2, k 11) → F_Mo_effort 300 a1 g = some (-2, g) → ∃ (N N' : Nat) (v : Int32) (k' : KS) (g' : HH), KO_28 N a1 k = some (v, k') ∧ MO_28 N' a1 g = some (v, g') ∧ Inv k' g' := by
    intro h1 h2
    refine ⟨300, 300, -2, k, g, ?_, ?_, I⟩
    · unfold KO_28; rw [h1]; show some (-2, ku (ku k 2 (k 2)) 11 (k 11)) = _
      rw [ku_self, ku_self]
    · unfold MO_28; rw [h2]; rfl
  rcases I.2 with J | ⟨B, R, H, D, K, n, o, J⟩
  · obtain ⟨e1, e2⟩ := n_puts J a1
    refine same ?_ ?_
    · unfold F_K_effort; rw [e1]; rfl
    · unfold F_Mo_effort; rw [e2]; rfl
  rcases a_puts J a1 with ⟨m, m1, m2, m3, e1, e2⟩ | ⟨e1, e2⟩
  case inr =>
    refine same ?_ ?_
    · unfold F_K_effort; rw [e1]; rfl
    · unfold F_Mo_effort; rw [e2]; rfl
  subst m3
  obtain ⟨hl', hc', g', w, L, x1, x2, V', S', -, -, -, x4, x5, x6, x7⟩ := search_ok (N := 300) (N' := 300) J.2.2.1 J.2.2.2.1 (k 2) m2 (by omega) (by omega)
  obtain ⟨y1, y2⟩ := long_eq S' m2
  have fin : Inv (ku (ku k 2 hl') 11 hc') g' := by
    refine Inv_l I.1 J V' x7 ?_ (fun r r0 r7 r8 r11 r12 r13 _ _ => x5 r r0 r7 r8 r11 r12 r13) (fun i i24 i25 i26 i27 i30 _ => x6 i i24 i25 i26 i27 i30)
    have T := J.2.2.2.2.2.2.1
    unfold ToR at *
    rw [x4.1, x4.2, x6 32 (by omega) (by omega) (by omega) (by omega) (by omega), x5 14 (by omega) (by omega) (by omega) (by omega) (by omega) (by omega), x5 15 (by omega) (by omega) (by omega) (by omega) (by omega) (by omega)]
    exact T
  by_cases c : g' 0 26 = 0
  · refine ⟨300, 300, g' 0 24, ku (ku k 2 hl') 11 hc', g', ?_, ?_, fin⟩
    · unfold KO_28 F_K_effort F_Load_countPuts
      rw [e1, if_neg pu_10, x1, bind_sn]
      dsimp only
      rw [if_pos (y1.mpr c), bind_sn, y2 c]
      rfl
    · unfold MO_28 F_Mo_effort
      rw [e2, if_pos pu_10, x2, bind_sn, if_pos c]
      dsimp only
      rw [if_neg pu_10]
      rfl
  · refine ⟨300, 300, -3, ku (ku k 2 hl') 11 hc', g', ?_, ?_, fin⟩
    · unfold KO_28 F_K_effort F_Load_countPuts
      rw [e1, if_neg pu_10, x1, bind_sn]
      dsimp only
      rw [if_neg (fun z => c (y1.mp z)), bind_sn]
      rfl
    · unfold MO_28 F_Mo_effort
      rw [e2, if_pos pu_10, x2, bind_sn, if_neg c]
      dsimp only
      rw [if_pos rfl]
      rfl
theorem tr7_13 : ∀ (m j f : Nat) (g : HH), j + m = 24 → m < f → ∃ g', L_Mo_tellsRow_13_7 N f (nI j) g = some g' ∧ (∀ r, r ≠ 14 → g' r = g r) ∧ (∀ i, j ≤ i → i < 24 → g' 14 i = 0) ∧ ∀ i, i < j → g' 14 i = g 14 i := by
  intro m
  induction m with
  | zero =>
    intro j f g h1 h2
    obtain ⟨f, rfl⟩ : ∃ z, f = z + 1 := ⟨f - 1, by omega⟩
    have : j = 24 := by omega
    subst this
    rw [L_Mo_tellsRow_13_7, if_pos (by decide)]
    exact ⟨g, rfl, fun _ _ => rfl, fun i i1 i2 => by omega, fun _ _ => rfl⟩
  | succ m ih =>
    intro j f g h1 h2
    obtain ⟨f, rfl⟩ : ∃ z, f = z + 1 := ⟨f - 1, by omega⟩
    have h6 : ¬ (24 : Int32) ≤ nI j := nI_ge (a := j) (b := 24) (by omega) (by omega)
    rw [L_Mo_tellsRow_13_7, if_neg h6, if_pos (pu_in (by omega) (by omega)), pu_letn, nI_1, show vp_nar .boolean 0 = 0 by decide]
    obtain ⟨g', i1, i2, i3, i4⟩ := ih (j + 1) f (sa g 14 (nI j) 0) (by omega) (by omega)
    have row : ∀ i, sa g 14 (nI j) 0 14 i = if i = j then 0 else g 14 i := fun i => by rw [pu_sa, if_pos rfl, nI_clamp (by omega), pu_upd]
    refine ⟨g', i1, fun r hr' => by rw [i2 r hr', pu_sa, if_neg hr'], ?_, fun i hi => by rw [i4 i (by omega), row, if_neg (by omega)]⟩
    intro i a1 a2
    rcases Nat.lt_or_ge j i with y | y
    · exact i3 i y a2
    · have : i = j := by omega
      subst this
      rw [i4 i (by omega), row, if_pos rfl]
/-- what is told of the boxes so far -/
theorem tr28_13 {P : Nat} (hw : w ≤ 24) (hL : ∀ j, j < w → L j < 24) : ∀ (m j f f' : Nat) (hl g : HH), hl 0 5 = nI w → g 0 27 = nI w → (∀ i, i < w → hl 2 i = nI (L i) ∧ g 11 i = nI (L i) ∧ hl 4 i = g 13 i ∧ okp P (hl 4 i)) → (∀ b, b < 24 → (g 14 b = 0 ∧ hl 1 b = -6) ∨ (g 14 b = 1 ∧ hl 1 b = g 15 b ∧ (g 15 b = -1 ∨ ∃ p, p < P ∧ g 15 b = nI p))) → j + m = w → m < f → m < f' → ∃ hl' g', L_Load_tellRow_4_11 N f (nI j) hl = some hl' ∧ L_Mo_tellsRow_13_28 N' f' (nI j) g = some g' ∧ (∀ r, r ≠ 1 → hl' r = hl r) ∧ (∀ r, r ≠ 14 → r ≠ 15 → g' r = g r) ∧ (∀ b, b < 24 → (g' 14 b = 0 ∧ hl' 1 b = -6) ∨ (g' 14 b = 1 ∧ hl' 1 b = g' 15 b ∧ (g' 15 b = -1 ∨ ∃ p, p < P ∧ g' 15 b = nI p))) := by
  intro m
  induction m with
  | zero =>
    intro j f f' hl g s1 s2 s3 s4 h1 h2 h3
    obtain ⟨f, rfl⟩ : ∃ z, f = z + 1 := ⟨f - 1, by omega⟩
    obtain ⟨f', rfl⟩ : ∃ z, f' = z + 1 := ⟨f' - 1, by omega⟩
    have : j = w := by omega
    subst this
    rw [L_Load_tellRow_4_11, L_Mo_tellsRow_13_28, s1, s2, if_pos (Int32.le_refl _), if_pos (Int32.le_refl _)]
    exact ⟨hl, g, rfl, rfl, fun _ _ => rfl, fun _ _ _ => rfl, s4⟩
  | succ m ih =>
    intro j f f' hl g s1 s2 s3 s4 h1 h2 h3
    obtain ⟨f, rfl⟩ : ∃ z, f = z + 1 := ⟨f - 1, by omega⟩
    obtain ⟨f', rfl⟩ : ∃ z, f' = z + 1 := ⟨f' - 1, by omega⟩
    have hj : j < w := by omega
    have hLj := hL j hj
    obtain ⟨z1, z2, z3, z4⟩ := s3 j hj
    have ij : sv_in (nI j) 24 := pu_in (by omega) (by omega)
    have iL : sv_in (nI (L j)) 24 := pu_in (by omega) (by omega)
    have c11 : ∀ v, sa g 14 (nI (L j)) v 11 = g 11 := fun v => by rw [pu_sa, if_neg (by omega)]
    have c12 : ∀ v, sa g 14 (nI (L j)) v 13 = g 13 := fun v => by rw [pu_sa, if_neg (by omega)]
    rw [L_Load_tellRow_4_11, L_Mo_tellsRow_13_28, s1, s2, if_neg (nI_ge hj (by omega)), if_neg (nI_ge hj (by omega))]
    simp only [if_pos ij]
    rw [nI_clamp (by omega), z2, if_pos iL, pu_rd _ (by omega) (by omega), pu_rd _ (by omega) (by omega), z1, pu_letn, pu_letn, c11, z2, if_pos iL, pu_letn, c12, nI_1, show vp_nar .boolean 1 = 1 by decide]
    have a1 : ∀ b, sw hl 1 24 (nI (L j)) (hl 4 j) 1 b = if b = L j then hl 4 j else hl 1 b := fun b => by rw [pu_sw, if_pos rfl, pu_wr _ _ (by omega) (by omega), pu_upd]
    have ar : ∀ r, r ≠ 1 → sw hl 1 24 (nI (L j)) (hl 4 j) r = hl r := fun r hr' => by rw [pu_sw, if_neg hr']
    have b14 : ∀ b, sa (sa g 14 (nI (L j)) 1) 15 (nI (L j)) (g 13 j) 14 b = if b = L j then 1 else g 14 b := fun b => by rw [pu_sa, if_neg (by omega), pu_sa, if_pos rfl, nI_clamp (by omega), pu_upd]
    have b15 : ∀ b, sa (sa g 14 (nI (L j)) 1) 15 (nI (L j)) (g 13 j) 15 b = if b = L j then g 13 j else g 15 b := fun b => by rw [pu_sa, if_pos rfl, pu_sa, if_neg (by omega), nI_clamp (by omega), pu_upd]
    have br : ∀ r, r ≠ 14 → r ≠ 15 → sa (sa g 14 (nI (L j)) 1) 15 (nI (L j)) (g 13 j) r = g r := fun r r14 r15 => by rw [pu_sa, if_neg r15, pu_sa, if_neg r14]
    obtain ⟨hl', g', i1, i2, i3, i4, i5⟩ := ih (j + 1) f f' (sw hl 1 24 (nI (L j)) (hl 4 j)) (sa (sa g 14 (nI (L j)) 1) 15 (nI (L j)) (g 13 j)) (by rw [ar 0 (by omega)]; exact s1) (by rw [br 0 (by omega) (by omega)]; exact s2) (by rw [ar 2 (by omega), ar 4 (by omega), br 11 (by omega) (by omega), br 13 (by omega) (by omega)]; exact s3) (by
      intro b hb
      rw [a1 b, b14 b, b15 b]
      by_cases e : b = L j
      · rw [if_pos e, if_pos e, if_pos e, ← z3]
        exact Or.inr ⟨rfl, rfl, z4⟩
      · rw [if_neg e, if_neg e, if_neg e]
        exact s4 b hb) (by omega) (by omega) (by omega)
    exact ⟨hl', g', i1, i2, fun r hr' => by rw [i3 r hr', ar r hr'], fun r r14 r15 => by rw [i4 r r14 r15, br r r14 r15], i5⟩
theorem tell_13 {P : Nat} (hw : w ≤ 24) (hL : ∀ j, j < w → L j < 24) (s1 : hl 0 5 = nI w) (s2 : g 0 27 = nI w) (s3 : ∀ i, i < w → hl 2 i = nI (L i) ∧ g 11 i = nI (L i) ∧ hl 4 i = g 13 i ∧ okp P (hl 4 i)) (hN : 30 ≤ N) (hN' : 30 ≤ N') : ∃ hl' g', F_Load_tellRow_4 N hl = some hl' ∧ F_Mo_tellsRow_13 N' g = some g' ∧ ToR hl' g' P ∧ (∀ i, i ≠ 0 → hl' 0 i = hl 0 i) ∧ (∀ r, r ≠ 0 → r ≠ 14 → r ≠ 15 → g' r = g r) ∧ ∀ i, i ≠ 32 → g' 0 i = g 0 i := by
  obtain ⟨g1, a1, a2, a3, -⟩ := tr7_13 (N := N') 24 0 N' (ss g 32 1) (by omega) (by omega)
  rw [show nI 0 = 0 from rfl] at a1
  have f1 : ∀ b, b < 24 → sf hl 1 24 (-6) 1 b = -6 := fun b hb => by rw [pu_sf, if_pos rfl]; unfold sv_fl; rw [if_pos hb]
  have fr : ∀ r, r ≠ 1 → sf hl 1 24 (-6) r = hl r := fun r hr' => by rw [pu_sf, if_neg hr']
  have q0 : ∀ i, g1 0 i = if i = 32 then 1 else g 0 i := fun i => by rw [a2 0 (by omega), pu_ss, if_pos rfl]
  have qr : ∀ r, r ≠ 0 → r ≠ 14 → g1 r = g r := fun r r0 r14 => by rw [a2 r r14, pu_ssr, if_neg r0]
  obtain ⟨hl2, g2, b1, b2, b3, b4, b5⟩ := tr28_13 (N := N) (N' := N') (P := P) hw hL w 0 N N' (sf hl 1 24 (-6)) g1 (by rw [fr 0 (by omega)]; exact s1) (by rw [q0, if_neg (by omega)]; exact s2) (by rw [fr 2 (by omega), fr 4 (by omega), qr 11 (by omega) (by omega), qr 13 (by omega) (by omega)]; exact s3) (fun b hb => Or.inl ⟨a3 b (by omega) hb, f1 b hb⟩) (by omega) (by omega) (by omega)
  rw [show nI 0 = 0 from rfl] at b1 b2
  refine ⟨ss hl2 0 1, g2, ?_, ?_, ⟨?_, Or.inr ⟨?_, ?_⟩⟩, ?_, ?_, ?_⟩
  · unfold F_Load_tellRow_4; rw [pu_letn, b1, bind_sn, pu_letn]
  · unfold F_Mo_tellsRow_13; rw [pu_letn, a1, bind_sn, b2, bind_sn]
  · rw [pu_ss, if_pos rfl, if_pos rfl, b4 0 (by omega) (by omega), q0, if_pos rfl]
  · rw [pu_ss, if_pos rfl, if_pos rfl]
  · intro b hb; rw [pu_ssr, if_neg (by omega)]; exact b5 b hb
  · intro i hi; rw [pu_ss, if_pos rfl, if_neg hi, b3 0 (by omega), fr 0 (by omega)]
  · intro r r0 r14 r15; rw [b4 r r14 r15, qr r r0 r14]
  · intro i hi; rw [b4 0 (by omega) (by omega), q0, if_neg hi]
theorem tr7_12 : ∀ (m j f : Nat) (g : HH), j + m = 24 → m < f → ∃ g', L_Mo_tellsRow_12_7 N f (nI j) g = some g' ∧ (∀ r, r ≠ 14 → g' r = g r) ∧ (∀ i, j ≤ i → i < 24 → g' 14 i = 0) ∧ ∀ i, i < j → g' 14 i = g 14 i := by
  intro m
  induction m with
  | zero =>
    intro j f g h1 h2
    obtain ⟨f, rfl⟩ : ∃ z, f = z + 1 := ⟨f - 1, by omega⟩
    have : j = 24 := by omega
    subst this
    rw [L_Mo_tellsRow_12_7, if_pos (by decide)]
    exact ⟨g, rfl, fun _ _ => rfl, fun i i1 i2 => by omega, fun _ _ => rfl⟩
  | succ m ih =>
    intro j f g h1 h2
    obtain ⟨f, rfl⟩ : ∃ z, f = z + 1 := ⟨f - 1, by omega⟩
    have h6 : ¬ (24 : Int32) ≤ nI j := nI_ge (a := j) (b := 24) (by omega) (by omega)
    rw [L_Mo_tellsRow_12_7, if_neg h6, if_pos (pu_in (by omega) (by omega)), pu_letn, nI_1, show vp_nar .boolean 0 = 0 by decide]
    obtain ⟨g', i1, i2, i3, i4⟩ := ih (j + 1) f (sa g 14 (nI j) 0) (by omega) (by omega)
    have row : ∀ i, sa g 14 (nI j) 0 14 i = if i = j then 0 else g 14 i := fun i => by rw [pu_sa, if_pos rfl, nI_clamp (by omega), pu_upd]
    refine ⟨g', i1, fun r hr' => by rw [i2 r hr', pu_sa, if_neg hr'], ?_, fun i hi => by rw [i4 i (by omega), row, if_neg (by omega)]⟩
    intro i a1 a2
    rcases Nat.lt_or_ge j i with y | y
    · exact i3 i y a2
    · have : i = j := by omega
      subst this
      rw [i4 i (by omega), row, if_pos rfl]
/-- what is told of the boxes so far -/
theorem tr28_12 {P : Nat} (hw : w ≤ 24) (hL : ∀ j, j < w → L j < 24) : ∀ (m j f f' : Nat) (hl g : HH), hl 0 5 = nI w → g 0 27 = nI w → (∀ i, i < w → hl 2 i = nI (L i) ∧ g 11 i = nI (L i) ∧ hl 3 i = g 12 i ∧ okp P (hl 3 i)) → (∀ b, b < 24 → (g 14 b = 0 ∧ hl 1 b = -6) ∨ (g 14 b = 1 ∧ hl 1 b = g 15 b ∧ (g 15 b = -1 ∨ ∃ p, p < P ∧ g 15 b = nI p))) → j + m = w → m < f → m < f' → ∃ hl' g', L_Load_tellRow_3_11 N f (nI j) hl = some hl' ∧ L_Mo_tellsRow_12_28 N' f' (nI j) g = some g' ∧ (∀ r, r ≠ 1 → hl' r = hl r) ∧ (∀ r, r ≠ 14 → r ≠ 15 → g' r = g r) ∧ (∀ b, b < 24 → (g' 14 b = 0 ∧ hl' 1 b = -6) ∨ (g' 14 b = 1 ∧ hl' 1 b = g' 15 b ∧ (g' 15 b = -1 ∨ ∃ p, p < P ∧ g' 15 b = nI p))) := by
  intro m
  induction m with
  | zero =>
    intro j f f' hl g s1 s2 s3 s4 h1 h2 h3
    obtain ⟨f, rfl⟩ : ∃ z, f = z + 1 := ⟨f - 1, by omega⟩
    obtain ⟨f', rfl⟩ : ∃ z, f' = z + 1 := ⟨f' - 1, by omega⟩
    have : j = w := by omega
    subst this
    rw [L_Load_tellRow_3_11, L_Mo_tellsRow_12_28, s1, s2, if_pos (Int32.le_refl _), if_pos (Int32.le_refl _)]
    exact ⟨hl, g, rfl, rfl, fun _ _ => rfl, fun _ _ _ => rfl, s4⟩
  | succ m ih =>
    intro j f f' hl g s1 s2 s3 s4 h1 h2 h3
    obtain ⟨f, rfl⟩ : ∃ z, f = z + 1 := ⟨f - 1, by omega⟩
    obtain ⟨f', rfl⟩ : ∃ z, f' = z + 1 := ⟨f' - 1, by omega⟩
    have hj : j < w := by omega
    have hLj := hL j hj
    obtain ⟨z1, z2, z3, z4⟩ := s3 j hj
    have ij : sv_in (nI j) 24 := pu_in (by omega) (by omega)
    have iL : sv_in (nI (L j)) 24 := pu_in (by omega) (by omega)
    have c11 : ∀ v, sa g 14 (nI (L j)) v 11 = g 11 := fun v => by rw [pu_sa, if_neg (by omega)]
    have c12 : ∀ v, sa g 14 (nI (L j)) v 12 = g 12 := fun v => by rw [pu_sa, if_neg (by omega)]
    rw [L_Load_tellRow_3_11, L_Mo_tellsRow_12_28, s1, s2, if_neg (nI_ge hj (by omega)), if_neg (nI_ge hj (by omega))]
    simp only [if_pos ij]
    rw [nI_clamp (by omega), z2, if_pos iL, pu_rd _ (by omega) (by omega), pu_rd _ (by omega) (by omega), z1, pu_letn, pu_letn, c11, z2, if_pos iL, pu_letn, c12, nI_1, show vp_nar .boolean 1 = 1 by decide]
    have a1 : ∀ b, sw hl 1 24 (nI (L j)) (hl 3 j) 1 b = if b = L j then hl 3 j else hl 1 b := fun b => by rw [pu_sw, if_pos rfl, pu_wr _ _ (by omega) (by omega), pu_upd]
    have ar : ∀ r, r ≠ 1 → sw hl 1 24 (nI (L j)) (hl 3 j) r = hl r := fun r hr' => by rw [pu_sw, if_neg hr']
    have b14 : ∀ b, sa (sa g 14 (nI (L j)) 1) 15 (nI (L j)) (g 12 j) 14 b = if b = L j then 1 else g 14 b := fun b => by rw [pu_sa, if_neg (by omega), pu_sa, if_pos rfl, nI_clamp (by omega), pu_upd]
    have b15 : ∀ b, sa (sa g 14 (nI (L j)) 1) 15 (nI (L j)) (g 12 j) 15 b = if b = L j then g 12 j else g 15 b := fun b => by rw [pu_sa, if_pos rfl, pu_sa, if_neg (by omega), nI_clamp (by omega), pu_upd]
    have br : ∀ r, r ≠ 14 → r ≠ 15 → sa (sa g 14 (nI (L j)) 1) 15 (nI (L j)) (g 12 j) r = g r := fun r r14 r15 => by rw [pu_sa, if_neg r15, pu_sa, if_neg r14]
    obtain ⟨hl', g', i1, i2, i3, i4, i5⟩ := ih (j + 1) f f' (sw hl 1 24 (nI (L j)) (hl 3 j)) (sa (sa g 14 (nI (L j)) 1) 15 (nI (L j)) (g 12 j)) (by rw [ar 0 (by omega)]; exact s1) (by rw [br 0 (by omega) (by omega)]; exact s2) (by rw [ar 2 (by omega), ar 3 (by omega), br 11 (by omega) (by omega), br 12 (by omega) (by omega)]; exact s3) (by
      intro b hb
      rw [a1 b, b14 b, b15 b]
      by_cases e : b = L j
      · rw [if_pos e, if_pos e, if_pos e, ← z3]
        exact Or.inr ⟨rfl, rfl, z4⟩
      · rw [if_neg e, if_neg e, if_neg e]
        exact s4 b hb) (by omega) (by omega) (by omega)
    exact ⟨hl', g', i1, i2, fun r hr' => by rw [i3 r hr', ar r hr'], fun r r14 r15 => by rw [i4 r r14 r15, br r r14 r15], i5⟩
theorem tell_12 {P : Nat} (hw : w ≤ 24) (hL : ∀ j, j < w → L j < 24) (s1 : hl 0 5 = nI w) (s2 : g 0 27 = nI w) (s3 : ∀ i, i < w → hl 2 i = nI (L i) ∧ g 11 i = nI (L i) ∧ hl 3 i = g 12 i ∧ okp P (hl 3 i)) (hN : 30 ≤ N) (hN' : 30 ≤ N') : ∃ hl' g', F_Load_tellRow_3 N hl = some hl' ∧ F_Mo_tellsRow_12 N' g = some g' ∧ ToR hl' g' P ∧ (∀ i, i ≠ 0 → hl' 0 i = hl 0 i) ∧ (∀ r, r ≠ 0 → r ≠ 14 → r ≠ 15 → g' r = g r) ∧ ∀ i, i ≠ 32 → g' 0 i = g 0 i := by
  obtain ⟨g1, a1, a2, a3, -⟩ := tr7_12 (N := N') 24 0 N' (ss g 32 1) (by omega) (by omega)
  rw [show nI 0 = 0 from rfl] at a1
  have f1 : ∀ b, b < 24 → sf hl 1 24 (-6) 1 b = -6 := fun b hb => by rw [pu_sf, if_pos rfl]; unfold sv_fl; rw [if_pos hb]
  have fr : ∀ r, r ≠ 1 → sf hl 1 24 (-6) r = hl r := fun r hr' => by rw [pu_sf, if_neg hr']
  have q0 : ∀ i, g1 0 i = if i = 32 then 1 else g 0 i := fun i => by rw [a2 0 (by omega), pu_ss, if_pos rfl]
  have qr : ∀ r, r ≠ 0 → r ≠ 14 → g1 r = g r := fun r r0 r14 => by rw [a2 r r14, pu_ssr, if_neg r0]
  obtain ⟨hl2, g2, b1, b2, b3, b4, b5⟩ := tr28_12 (N := N) (N' := N') (P := P) hw hL w 0 N N' (sf hl 1 24 (-6)) g1 (by rw [fr 0 (by omega)]; exact s1) (by rw [q0, if_neg (by omega)]; exact s2) (by rw [fr 2 (by omega), fr 3 (by omega), qr 11 (by omega) (by omega), qr 12 (by omega) (by omega)]; exact s3) (fun b hb => Or.inl ⟨a3 b (by omega) hb, f1 b hb⟩) (by omega) (by omega) (by omega)
  rw [show nI 0 = 0 from rfl] at b1 b2
  refine ⟨ss hl2 0 1, g2, ?_, ?_, ⟨?_, Or.inr ⟨?_, ?_⟩⟩, ?_, ?_, ?_⟩
  · unfold F_Load_tellRow_3; rw [pu_letn, b1, bind_sn, pu_letn]
  · unfold F_Mo_tellsRow_12; rw [pu_letn, a1, bind_sn, b2, bind_sn]
  · rw [pu_ss, if_pos rfl, if_pos rfl, b4 0 (by omega) (by omega), q0, if_pos rfl]
  · rw [pu_ss, if_pos rfl, if_pos rfl]
  · intro b hb; rw [pu_ssr, if_neg (by omega)]; exact b5 b hb
  · intro i hi; rw [pu_ss, if_pos rfl, if_neg hi, b3 0 (by omega), fr 0 (by omega)]
  · intro r r0 r14 r15; rw [b4 r r14 r15, qr r r0 r14]
  · intro i hi; rw [b4 0 (by omega) (by omega), q0, if_neg hi]
theorem sim_27 : Sim_27 Inv := by
  intro a1 k g I
  have same : F_K_load 300 a1 (k 0) (k 2) (k 9) (k 10) (k 11) = some (-2, k 2, k 11) → F_Mo_load 300 a1 g = some (-2, g) → ∃ (N N' : Nat) (v : Int32) (k' : KS) (g' : HH), KO_27 N a1 k = some (v, k') ∧ MO_27 N' a1 g = some (v, g') ∧ Inv k' g' := by
    intro h1 h2
    refine ⟨300, 300, -2, k, g, ?_, ?_, I⟩
    · unfold KO_27; rw [h1]; show some (-2, ku (ku k 2 (k 2)) 11 (k 11)) = _
      rw [ku_self, ku_self]
    · unfold MO_27; rw [h2]; rfl
  rcases I.2 with J | ⟨B, R, H, D, K, n, o, J⟩
  · obtain ⟨e1, e2⟩ := n_puts J a1
    refine same ?_ ?_
    · unfold F_K_load; rw [e1]; rfl
    · unfold F_Mo_load; rw [e2]; rfl
  rcases a_puts J a1 with ⟨m, m1, m2, m3, e1, e2⟩ | ⟨e1, e2⟩
  case inr =>
    refine same ?_ ?_
    · unfold F_K_load; rw [e1]; rfl
    · unfold F_Mo_load; rw [e2]; rfl
  subst m3
  have hn := J.2.2.1.nn
  obtain ⟨hl', hc', g', w, L, x1, x2, V', S', hw, hL, dn, x4, x5, x6, x7⟩ := search_ok (N := 300) (N' := 300) J.2.2.1 J.2.2.2.1 (k 2) m2 (by omega) (by omega)
  obtain ⟨y1, y2⟩ := long_eq S' m2
  by_cases c : g' 0 26 = 0
  · have dn' : g' 0 30 ≠ -1 := by
      rcases dn with z | z
      · rw [c] at z; exact absurd z (by decide)
      · exact z
    obtain ⟨⟨s1, s2, s3, s4⟩, s5, -, lr, r1, r2⟩ := S'
    obtain ⟨r3, r4, r5⟩ : g' 0 30 = nI lr ∧ lr ≤ w ∧ ∀ j, j < w → hl' 4 j = g' 13 j ∧ okp (plN B R H D) (hl' 4 j) := by
      rcases r2 with ⟨z, -⟩ | z
      · exact absurd z dn'
      · exact z
    obtain ⟨hl2, g2, t1, t2, t3, t4, t5, t6⟩ := tell_13 (N := 300) (N' := 300) (P := plN B R H D) (L := L) hw (fun j hj => by have := hL j hj; omega) s1 s2 (fun i hi => ⟨(s5 i hi).1, (s5 i hi).2, (r5 i hi).1, (r5 i hi).2⟩) (by omega) (by omega)
    have V2 : VS (k 9) (k 10) hc' g2 B R H D K n o := V'.cg (t5 1 (by omega) (by omega) (by omega)) (t6 6 (by omega)) (t5 4 (by omega) (by omega) (by omega)) (t5 5 (by omega) (by omega) (by omega)) (t5 6 (by omega) (by omega) (by omega)) (t5 7 (by omega) (by omega) (by omega)) (t5 8 (by omega) (by omega) (by omega))
    refine ⟨300, 300, nI lr, ku (ku k 2 hl2) 11 hc', g2, ?_, ?_, Inv_l I.1 J V2 (fun c hc'' => by rw [t5 7 (by omega) (by omega) (by omega)]; exact x7 c hc'') t3 (fun r r0 r7 r8 r11 r12 r13 r14 r15 => by rw [t5 r r0 r14 r15, x5 r r0 r7 r8 r11 r12 r13]) (fun i i24 i25 i26 i27 i30 i32 => by rw [t6 i i32, x6 i i24 i25 i26 i27 i30])⟩
    · unfold KO_27 F_K_load F_Load_loadBest
      rw [e1, if_neg pu_10, x1, bind_sn]
      dsimp only
      rw [if_pos (y1.mpr c), t1, bind_sn, bind_sn, t4 6 (by omega), r1]
      rfl
    · unfold MO_27 F_Mo_load
      rw [e2, if_pos pu_10, x2, bind_sn, if_pos c]
      dsimp only
      rw [if_pos pu_10, t2, bind_sn, t6 30 (by omega), r3]
      rfl
  · have fin : Inv (ku (ku k 2 hl') 11 hc') g' := by
      refine Inv_l I.1 J V' x7 ?_ (fun r r0 r7 r8 r11 r12 r13 _ _ => x5 r r0 r7 r8 r11 r12 r13) (fun i i24 i25 i26 i27 i30 _ => x6 i i24 i25 i26 i27 i30)
      have T := J.2.2.2.2.2.2.1
      unfold ToR at *
      rw [x4.1, x4.2, x6 32 (by omega) (by omega) (by omega) (by omega) (by omega), x5 14 (by omega) (by omega) (by omega) (by omega) (by omega) (by omega), x5 15 (by omega) (by omega) (by omega) (by omega) (by omega) (by omega)]
      exact T
    refine ⟨300, 300, -3, ku (ku k 2 hl') 11 hc', g', ?_, ?_, fin⟩
    · unfold KO_27 F_K_load F_Load_loadBest
      rw [e1, if_neg pu_10, x1, bind_sn]
      dsimp only
      rw [if_neg (fun z => c (y1.mp z)), bind_sn]
      rfl
    · unfold MO_27 F_Mo_load
      rw [e2, if_pos pu_10, x2, bind_sn, if_neg c]
      dsimp only
      rw [ife0]
      rfl
end LOAD2
