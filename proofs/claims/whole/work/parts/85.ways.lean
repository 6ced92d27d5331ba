/-! ===== pure: the ways counted ===== -/
section WAYC
variable {k k' : KS} {g g' g2 gm gm' : HH} {hu hy hv hh hr hr' hc hc2 hp hl hl' : HH} {B R H D K n o N N' t w lim a0 S : Nat} {c c' : Nat → Nat}
abbrev wN (x : Nat) : Int64 := Int64.ofNat x
theorem wN_add (a b : Nat) : wN a + wN b = wN (a + b) := (Int64.ofNat_add a b).symm
theorem wN_mul (a b : Nat) : wN a * wN b = wN (a * b) := (Int64.ofNat_mul a b).symm
theorem updN_8 (hc8 : ∀ j, c j < 8) {k b : Nat} (hb : b < 8) : ∀ j, updN c k b j < 8 := by
  intro j; unfold updN; split
  · exact hb
  · exact hc8 j
theorem countFit_L (V : VS hh hr hc g B R H D K n o) {k : Nat} (hk : k < K) (hS : S ≤ 8) (hc8 : ∀ j, c j < 8) (h7 : ∀ j, j < k → lvl g k j ≠ 0 → hr 7 j = nI (c j)) (hN : 10 ≤ N) : ∀ (m b f a : Nat), b + m = S → m < f → L_Rules_countFitting_5 N f (nI k) (nI S) (wN a) (nI b) hr = some (wN (a + sumT (fun b => b1 (fitB g c k b)) b m)) := by
  intro m
  induction m with
  | zero =>
    intro b f a h1 h2
    obtain ⟨f, rfl⟩ : ∃ z, f = z + 1 := ⟨f - 1, by omega⟩
    rw [L_Rules_countFitting_5, if_pos (nI_le (by omega) (by omega)), sumT, Nat.add_zero]
  | succ m ih =>
    intro b f a h1 h2
    obtain ⟨f, rfl⟩ : ∃ z, f = z + 1 := ⟨f - 1, by omega⟩
    rw [L_Rules_countFitting_5, if_neg (nI_ge (by omega) (by omega)), fits_K V hk (by omega) hc8 h7 hN, bind_sn, nI_1, sumT, show (1 : Int64) = wN 1 from rfl, wN_add]
    cases e : fitB g c k b with
    | true =>
      rw [if_neg (show ¬ bi true = 0 by decide), ih (b + 1) f (a + 1) (by omega) (by omega)]
      show _ = some (wN (a + (1 + _)))
      rw [Nat.add_assoc]
    | false =>
      rw [if_pos (show bi false = 0 by decide), ih (b + 1) f a (by omega) (by omega)]
      show _ = some (wN (a + (0 + _)))
      rw [Nat.zero_add]
theorem cw_K (hS : S ≤ 8) (hN : 30 ≤ N) : ∀ (q dd : Nat) (c : Nat → Nat) (hr : HH), VS hh hr hc g B R H D K n o → q ≤ K → q < dd → (∀ j, c j < 8) → (∀ j, j < K - q → parB g K (K - q) j → hr 7 j = nI (c j)) → ∃ hr', F_Rules_countWaysFrom N dd (nI (K - q)) (nI S) hr = some (wN (Wc g K S q c), hr') ∧ (∀ r, r ≠ 7 → hr' r = hr r) ∧ ∀ j, j < K - q → hr' 7 j = hr 7 j := by
  intro q
  induction q with
  | zero =>
    intro dd c hr V hq hd hc8 h7
    have hK := V.kk
    obtain ⟨dd, rfl⟩ : ∃ z, dd = z + 1 := ⟨dd - 1, by omega⟩
    refine ⟨hr, ?_, fun _ _ => rfl, fun _ _ => rfl⟩
    rw [F_Rules_countWaysFrom, show hr 0 0 = nI K from V.2.2.2.1.1.1, Nat.sub_zero, if_neg (nI_nlt (by omega) (by omega))]
    rfl
  | succ q ih =>
    intro dd c hr V hq hd hc8 h7
    have hK := V.kk
    obtain ⟨dd, rfl⟩ : ∃ z, dd = z + 1 := ⟨dd - 1, by omega⟩
    have hk : K - (q + 1) < K := by omega
    have hk1 : K - (q + 1) + 1 = K - q := by omega
    rw [F_Rules_countWaysFrom, show hr 0 0 = nI K from V.2.2.2.1.1.1, if_pos (nI_lt hk (by omega))]
    have lv : ∀ (hr : HH), (∀ j, j < K - (q + 1) → parB g K (K - (q + 1)) j → hr 7 j = nI (c j)) → ∀ j, j < K - (q + 1) → lvl g (K - (q + 1)) j ≠ 0 → hr 7 j = nI (c j) := by
      intro hr h j hj hl
      exact h j hj ⟨K - (q + 1), Nat.le_refl _, hk, by rw [lvl_s V (by omega) hk]; exact hl⟩
    rcases part_K (N := N) V hk (by omega) with ⟨e, P⟩ | ⟨e, P⟩
    · rw [e, bind_sn, if_pos pu_10]
      have loop : ∀ (m b f a : Nat) (hr : HH), VS hh hr hc g B R H D K n o → (∀ j, j < K - (q + 1) → parB g K (K - (q + 1)) j → hr 7 j = nI (c j)) → b + m = S → m < f → ∃ hr', L_Rules_countWaysFrom_39 N (F_Rules_countWaysFrom N dd) f (nI (K - (q + 1))) (nI S) (wN a) (nI b) hr = some (wN (a + sumT (fun b => if fitB g c (K - (q + 1)) b = true then Wc g K S q (updN c (K - (q + 1)) b) else 0) b m), hr') ∧ (∀ r, r ≠ 7 → hr' r = hr r) ∧ ∀ j, j < K - (q + 1) → hr' 7 j = hr 7 j := by
        intro m
        induction m with
        | zero =>
          intro b f a hr V h7 h1 h2
          obtain ⟨f, rfl⟩ : ∃ z, f = z + 1 := ⟨f - 1, by omega⟩
          refine ⟨hr, ?_, fun _ _ => rfl, fun _ _ => rfl⟩
          rw [L_Rules_countWaysFrom_39, if_pos (nI_le (by omega) (by omega)), sumT, Nat.add_zero]
        | succ m ihm =>
          intro b f a hr V h7 h1 h2
          obtain ⟨f, rfl⟩ : ∃ z, f = z + 1 := ⟨f - 1, by omega⟩
          rw [L_Rules_countWaysFrom_39, if_neg (nI_ge (by omega) (by omega)), fits_K V hk (by omega) hc8 (lv hr h7) (by omega), bind_sn, nI_1, nI_1, sumT]
          cases ef : fitB g c (K - (q + 1)) b with
          | false =>
            rw [if_pos (show bi false = 0 by decide), if_neg (by decide), Nat.zero_add]
            exact ihm (b + 1) f a hr V h7 (by omega) (by omega)
          | true =>
            rw [if_neg (show ¬ bi true = 0 by decide), if_pos rfl, pu_letn, hk1]
            have s7 : ∀ j, sw hr 7 7 (nI (K - (q + 1))) (nI b) 7 j = if j = K - (q + 1) then nI b else hr 7 j := by
              intro j; rw [pu_sw, if_pos rfl, pu_wr _ _ (by omega) (by omega), pu_upd]
            have so : ∀ r, r ≠ 7 → sw hr 7 7 (nI (K - (q + 1))) (nI b) r = hr r := by
              intro r h; rw [pu_sw, if_neg h]
            obtain ⟨h2r, a1, a2, a3⟩ := ih dd (updN c (K - (q + 1)) b) (sw hr 7 7 (nI (K - (q + 1))) (nI b)) (V.r7 so) (by omega) (by omega) (updN_8 hc8 (by omega)) (by
              intro j hj hp
              rw [s7]
              unfold updN
              by_cases cj : j = K - (q + 1)
              · rw [if_pos cj, if_pos cj]
              · rw [if_neg cj, if_neg cj]
                obtain ⟨k', k1, k2, k3⟩ := hp
                exact h7 j (by omega) ⟨k', by omega, k2, k3⟩)
            rw [a1, bind_sn, wN_add]
            have fr : ∀ j, j < K - (q + 1) → h2r 7 j = hr 7 j := by
              intro j hj
              rw [a3 j (by omega), s7, if_neg (by omega)]
            obtain ⟨h3r, b1, b2, b3⟩ := ihm (b + 1) f (a + Wc g K S q (updN c (K - (q + 1)) b)) h2r (V.r7 (fun r h => by rw [a2 r h, so r h])) (fun j hj hp => by rw [fr j hj]; exact h7 j hj hp) (by omega) (by omega)
            refine ⟨h3r, ?_, fun r h => by rw [b2 r h, a2 r h, so r h], fun j hj => by rw [b3 j hj, fr j hj]⟩
            rw [b1, Nat.add_assoc]
      obtain ⟨h', a1, a2, a3⟩ := loop S 0 N 0 hr V h7 (by omega) (by omega)
      rw [show nI 0 = (0 : Int32) from rfl, show wN 0 = (0 : Int64) from rfl] at a1
      rw [a1, bind_sn]
      refine ⟨h', ?_, a2, a3⟩
      rw [Nat.zero_add, sumN_T]
      rfl
    · rw [e, bind_sn, ife0, nI_1, hk1]
      rw [hk1] at P
      have e1 := countFit_L (N := N) V hk hS hc8 (lv hr h7) (by omega) S 0 N 0 (by omega) (by omega)
      rw [show nI 0 = (0 : Int32) from rfl, show wN 0 = (0 : Int64) from rfl, Nat.zero_add, sumN_T] at e1
      have e2 : F_Rules_countFitting N (nI (K - (q + 1))) (nI S) hr = some (wN (sumN (fun b => b1 (fitB g c (K - (q + 1)) b)) S)) := by
        unfold F_Rules_countFitting
        rw [e1, bind_sn]
      obtain ⟨h', a1, a2, a3⟩ := ih dd c hr V (by omega) (by omega) hc8 (by
        intro j hj hp
        by_cases cj : j = K - (q + 1)
        · rw [cj] at hp; exact absurd hp P
        · obtain ⟨k', k1, k2, k3⟩ := hp
          exact h7 j (by omega) ⟨k', by omega, k2, k3⟩)
      rw [e2, bind_sn, a1, bind_sn, wN_mul, Wc_prod V hq P c]
      exact ⟨h', rfl, a2, fun j hj => a3 j (by omega)⟩
theorem cw_M (V : VS hh hr hc g B R H D K n o) (hS : S ≤ 8) (hN : 30 ≤ N) : ∀ (q dd : Nat) (c : Nat → Nat) (gm : HH), (∀ r, r ≠ 18 → gm r = g r) → q ≤ K → q < dd → (∀ j, c j < 8) → (∀ j, j < K - q → gm 18 j = nI (c j)) → ∃ gm', F_Mo_waysFrom N dd (nI (K - q)) (nI S) 0 gm = some (wN (Wc g K S q c), gm') ∧ (∀ r, r ≠ 18 → gm' r = g r) ∧ ∀ j, j < K - q → gm' 18 j = gm 18 j := by
  intro q
  have hK := V.kk
  have h16 : g 1 6 = nI K := V.2.2.2.1.1.2.1
  induction q with
  | zero =>
    intro dd c gm hg hq hd hc8 h7
    obtain ⟨dd, rfl⟩ : ∃ z, dd = z + 1 := ⟨dd - 1, by omega⟩
    refine ⟨gm, ?_, hg, fun _ _ => rfl⟩
    rw [F_Mo_waysFrom, if_pos (show sv_in (6 : Int32) 90 by decide), show ((6 : Int32)).toNatClampNeg = 6 from rfl, hg 1 (by omega), h16, Nat.sub_zero, ifn rfl]
    rfl
  | succ q ih =>
    intro dd c gm hg hq hd hc8 h7
    obtain ⟨dd, rfl⟩ : ∃ z, dd = z + 1 := ⟨dd - 1, by omega⟩
    have hk : K - (q + 1) < K := by omega
    have hk1 : K - (q + 1) + 1 = K - q := by omega
    have ik : sv_in (nI (K - (q + 1))) 7 := pu_in (by omega) (by omega)
    rw [F_Mo_waysFrom, if_pos (show sv_in (6 : Int32) 90 by decide), show ((6 : Int32)).toNatClampNeg = 6 from rfl, hg 1 (by omega), h16, if_pos (fun z => by have := (nI_eq (by omega) (by omega)).mp z; omega)]
    have loop : ∀ (m b f a : Nat) (gm : HH), (∀ r, r ≠ 18 → gm r = g r) → (∀ j, j < K - (q + 1) → gm 18 j = nI (c j)) → b + m = S → m < f → ∃ gm', L_Mo_waysFrom_19 N (F_Mo_waysFrom N dd) f (nI (K - (q + 1))) (nI S) 0 (wN a) (nI b) gm = some (.inl (wN (a + sumT (fun b => if fitB g c (K - (q + 1)) b = true then Wc g K S q (updN c (K - (q + 1)) b) else 0) b m), gm')) ∧ (∀ r, r ≠ 18 → gm' r = g r) ∧ ∀ j, j < K - (q + 1) → gm' 18 j = gm 18 j := by
      intro m
      induction m with
      | zero =>
        intro b f a gm hg h7 h1 h2
        obtain ⟨f, rfl⟩ : ∃ z, f = z + 1 := ⟨f - 1, by omega⟩
        refine ⟨gm, ?_, hg, fun _ _ => rfl⟩
        rw [L_Mo_waysFrom_19, if_pos (nI_le (by omega) (by omega)), sumT, Nat.add_zero]
      | succ m ihm =>
        intro b f a gm hg h7 h1 h2
        obtain ⟨f, rfl⟩ : ∃ z, f = z + 1 := ⟨f - 1, by omega⟩
        rw [L_Mo_waysFrom_19, if_neg (nI_ge (by omega) (by omega)), suits_M V (hg 1 (by omega)) hk (by omega) hc8 h7 (by omega), bind_sn, nI_1, nI_1, sumT]
        cases ef : fitB g c (K - (q + 1)) b with
        | false =>
          rw [if_neg (show ¬ ¬ bi false = 0 by decide), if_neg (by decide), Nat.zero_add]
          exact ihm (b + 1) f a gm hg h7 (by omega) (by omega)
        | true =>
          rw [if_pos (show ¬ bi true = 0 by decide), if_pos rfl, if_pos ik, pu_letn, hk1]
          have s7 : ∀ j, sa gm 18 (nI (K - (q + 1))) (nI b) 18 j = if j = K - (q + 1) then nI b else gm 18 j := by
            intro j; rw [pu_sa, if_pos rfl, nI_clamp (by omega), pu_upd]
          have so : ∀ r, r ≠ 18 → sa gm 18 (nI (K - (q + 1))) (nI b) r = g r := by
            intro r h; rw [pu_sa, if_neg h, hg r h]
          obtain ⟨h2r, a1, a2, a3⟩ := ih dd (updN c (K - (q + 1)) b) (sa gm 18 (nI (K - (q + 1))) (nI b)) so (by omega) (by omega) (updN_8 hc8 (by omega)) (by
            intro j hj
            rw [s7]
            unfold updN
            by_cases cj : j = K - (q + 1)
            · rw [if_pos cj, if_pos cj]
            · rw [if_neg cj, if_neg cj]
              exact h7 j (by omega))
          rw [a1, bind_sn, if_pos rfl, wN_add]
          have fr : ∀ j, j < K - (q + 1) → h2r 18 j = gm 18 j := by
            intro j hj
            rw [a3 j (by omega), s7, if_neg (by omega)]
          obtain ⟨h3r, b1, b2, b3⟩ := ihm (b + 1) f (a + Wc g K S q (updN c (K - (q + 1)) b)) h2r a2 (fun j hj => by rw [fr j hj]; exact h7 j hj) (by omega) (by omega)
          refine ⟨h3r, ?_, b2, fun j hj => by rw [b3 j hj, fr j hj]⟩
          rw [b1, Nat.add_assoc]
    obtain ⟨h', a1, a2, a3⟩ := loop S 0 N 0 gm hg h7 (by omega) (by omega)
    rw [show nI 0 = (0 : Int32) from rfl, show wN 0 = (0 : Int64) from rfl] at a1
    rw [a1]
    refine ⟨h', ?_, a2, a3⟩
    rw [Nat.zero_add, sumN_T]
    rfl
theorem sim_35 : Sim_35 Inv := by
  intro a1 k g I
  unfold KO_35 MO_35 F_K_ways F_Mo_ways F_K_isSpan
  rw [show (1 : Int64) = (1 : Int32).toInt64 from rfl, show (8 : Int64) = (8 : Int32).toInt64 from rfl]
  simp only [pu_inw]
  rcases i_there I with ⟨B, R, H, D, K, n, o, J, h1, h2⟩ | ⟨J, h1, h2⟩
  · rw [h1, h2]
    have V := J.2.2.1
    have hK := V.kk
    rcases pu_wc a1 1 8 (by omega) (by omega) with ⟨S, d1, d2, d3, d4⟩ | ⟨d1, d4⟩
    · rw [show nI 1 = 1 from rfl, show nI 8 = 8 from rfl] at d4
      subst d3
      obtain ⟨hr', q1, q2, q3⟩ := cw_K (N := 3000) (S := S) (by omega) (by omega) K 9 (fun _ => 0) (k 10) V (by omega) (by omega) (fun _ => by omega) (fun j hj => by omega)
      obtain ⟨g', r1, r2, r3⟩ := cw_M (N := 3000) (S := S) V (by omega) (by omega) K 9 (fun _ => 0) g (fun _ _ => rfl) (by omega) (by omega) (fun _ => by omega) (fun j hj => by omega)
      rw [Nat.sub_self, show nI 0 = (0 : Int32) from rfl] at q1 r1
      have eK : F_Rules_countWays 3000 (nI S) (k 10) = some (wN (Wc g K S K fun _ => 0), hr') := by
        unfold F_Rules_countWays
        rw [q1, bind_sn]
      refine ⟨3000, 3000, wN (Wc g K S K fun _ => 0), ku k 10 hr', g', ?_, ?_, Inv_r7 I q2 (fun r _ h18 _ _ _ => r2 r h18)⟩
      · rw [if_neg pu_10, d4, if_neg pu_10, if_neg pu_10, eK, bind_sn]; rfl
      · rw [if_neg pu_10, d4, if_neg pu_10, r1, bind_sn]; rfl
    · rw [show nI 1 = 1 from rfl, show nI 8 = 8 from rfl] at d4
      refine ⟨3000, 3000, -2, ku k 10 (k 10), g, ?_, ?_, Inv_r7 I (fun _ _ => rfl) (fun _ _ _ _ _ _ => rfl)⟩
      · rw [if_neg pu_10, d4, if_pos rfl, if_pos rfl]; rfl
      · rw [if_neg pu_10, d4, if_pos rfl]; rfl
  · rw [h1, h2]
    refine ⟨3000, 3000, -2, ku k 10 (k 10), g, ?_, ?_, Inv_r7 I (fun _ _ => rfl) (fun _ _ _ _ _ _ => rfl)⟩
    · rw [if_pos rfl, if_pos rfl]; rfl
    · rw [if_pos rfl]; rfl
end WAYC
