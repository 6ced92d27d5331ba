/-! ===== pure: hanging together, the class ===== -/
section HANG
variable {k k' : KS} {g g' g2 gm gm' : HH} {hu hy hv hh hr hc hc2 hp hl hl' : HH} {B R H D K n o N N' t w lim a0 : Nat} {A : Nat → Nat → Bool}
def besS (g : HH) (o R H D p q : Nat) : Bool := decide (adist (p / (H + D) % R) (q / (H + D) % R) + adist (p / (H + D) / R) (q / (H + D) / R) + adist (p % (H + D)) (q % (H + D)) = 1 ∧ adist (shutS g o (p / (H + D) / R)) (shutS g o (q / (H + D) / R)) = 0 ∧ deckS H D p = deckS H D q)
theorem adist_le {a b m : Nat} (h1 : a ≤ m) (h2 : b ≤ m) : adist a b ≤ m := by unfold adist; split <;> omega
theorem nI1 {a : Nat} (h : a < 100) : nI a = (1 : Int32) ↔ a = 1 := nI_eq (b := 1) (by omega) (by omega)
theorem adist_0 (a b : Nat) : adist a b = 0 ↔ a = b := by unfold adist; split <;> omega
theorem K_bes (V : VS hh hr hc g B R H D K n o) {p q : Nat} (hp : p < plN B R H D) (hq : q < plN B R H D) : F_Hull_isBeside (nI p) (nI q) hh = bi (besS g o R H D p q) := by
  have h := V.1
  have hH := V.2.2.1
  have hP := h.le
  have b1 := h.bl hp
  have b2 := h.bl hq
  have hB : B ≤ 6 := h.2.2.1
  have hRr : R ≤ 4 := h.2.2.2.2.1
  have r1 := h.rl p
  have r2 := h.rl q
  have t1 := h.md p
  have t2 := h.md q
  have hH3 : H ≤ 3 := h.2.2.2.2.2.1
  have hD3 : D ≤ 3 := h.2.2.2.2.2.2.1
  have s1 := shutS_le g o (p / (H + D) / R)
  have s2 := shutS_le g o (q / (H + D) / R)
  obtain ⟨p1, p2, p3⟩ := hH.2.1 p hp
  obtain ⟨q1, q2, q3⟩ := hH.2.1 q hq
  have x1 := adist_le (a := p / (H + D) % R) (b := q / (H + D) % R) (m := 4) (by omega) (by omega)
  have x2 := adist_le (a := p / (H + D) / R) (b := q / (H + D) / R) (m := 6) (by omega) (by omega)
  have x3 := adist_le (a := p % (H + D)) (b := q % (H + D)) (m := 6) (by omega) (by omega)
  have x4 := adist_le (a := shutS g o (p / (H + D) / R)) (b := shutS g o (q / (H + D) / R)) (m := 6) (by omega) (by omega)
  unfold F_Hull_isBeside F_Hull_rowsApart F_Hull_baysApart F_Hull_tiersApart F_Hull_shutBetween F_Hull_hatchBetween
  rw [K_bayAt V hp, K_bayAt V hq, K_deck V hp, K_deck V hq]
  rw [pu_rd _ (by omega) (by omega), pu_rd _ (by omega) (by omega), pu_rd _ (by omega) (by omega), pu_rd _ (by omega) (by omega), pu_rd _ (by omega) (by omega), pu_rd _ (by omega) (by omega), pu_rd _ (by omega) (by omega), pu_rd _ (by omega) (by omega)]
  rw [p1, p2, p3, q1, q2, q3, (hH.2.2 _ (by omega)).2, (hH.2.2 _ (by omega)).2]
  rw [pu_abs (by omega) (by omega), pu_abs (by omega) (by omega), pu_abs (by omega) (by omega), pu_abs (by omega) (by omega), nI_add, nI_add]
  unfold besS
  by_cases c1 : adist (p / (H + D) % R) (q / (H + D) % R) + adist (p / (H + D) / R) (q / (H + D) / R) + adist (p % (H + D)) (q % (H + D)) = 1
  · rw [ifn ((nI1 (by omega)).mpr c1)]
    by_cases c2 : adist (shutS g o (p / (H + D) / R)) (shutS g o (q / (H + D) / R)) = 0
    · rw [c2, show nI 0 = (0 : Int32) from rfl, ife0]
      by_cases c3 : deckS H D p = deckS H D q
      · rw [if_pos c3, ife0, decide_eq_true ⟨c1, rfl, c3⟩]; rfl
      · rw [if_neg c3, if_pos pu_10, decide_eq_false (fun z => c3 z.2.2)]; rfl
    · rw [if_pos (nI_ne0 (by omega) (by omega)), decide_eq_false (fun z => c2 z.2.1)]; rfl
  · rw [if_pos (mt (nI1 (by omega)).mp c1), decide_eq_false (fun z => c1 z.1)]; rfl
theorem Mo_bes (V : VS hh hr hc g B R H D K n o) (h1 : gm 1 = g 1) (ho : gm 0 11 = nI o) {p q : Nat} (hp : p < plN B R H D) (hq : q < plN B R H D) (hN : 10 ≤ N) : F_Mo_areBeside N (nI p) (nI q) gm = some (bi (besS g o R H D p q)) := by
  have G : Geo gm B R H D := by unfold Geo; rw [h1]; exact V.1
  have Wo : WallOK gm B o := by unfold WallOK; rw [h1]; exact V.2.1
  have h := V.1
  have hP := h.le
  have b1 := h.bl hp
  have b2 := h.bl hq
  have hB : B ≤ 6 := h.2.2.1
  have hRr : R ≤ 4 := h.2.2.2.2.1
  have r1 := h.rl p
  have r2 := h.rl q
  have t1 := h.md p
  have t2 := h.md q
  have hH3 : H ≤ 3 := h.2.2.2.2.2.1
  have hD3 : D ≤ 3 := h.2.2.2.2.2.2.1
  have s1 := shutS_le g o (p / (H + D) / R)
  have s2 := shutS_le g o (q / (H + D) / R)
  have x1 := adist_le (a := p / (H + D) % R) (b := q / (H + D) % R) (m := 4) (by omega) (by omega)
  have x2 := adist_le (a := p / (H + D) / R) (b := q / (H + D) / R) (m := 6) (by omega) (by omega)
  have x3 := adist_le (a := p % (H + D)) (b := q % (H + D)) (m := 6) (by omega) (by omega)
  have x4 := adist_le (a := shutS g o (p / (H + D) / R)) (b := shutS g o (q / (H + D) / R)) (m := 6) (by omega) (by omega)
  unfold F_Mo_areBeside
  rw [Mo_between0 G hp hq, bind_sn, Mo_between1 G hp hq, bind_sn, Mo_tierOf G (by omega), bind_sn, Mo_tierOf G (by omega), bind_sn, pu_abs (by omega) (by omega), nI_add, nI_add, Mo_deck G (by omega), Mo_deck G (by omega), bind_sn, bind_sn, ho, Mo_shut G Wo hp hq hN, bind_sn, shutS_c h1, shutS_c h1]
  unfold besS
  by_cases c1 : adist (p / (H + D) % R) (q / (H + D) % R) + adist (p / (H + D) / R) (q / (H + D) / R) + adist (p % (H + D)) (q % (H + D)) = 1
  · rw [if_pos ((nI1 (by omega)).mpr c1)]
    by_cases c2 : adist (p / (H + D) / R) (q / (H + D) / R) = 1
    · rw [ifn ((nI1 (by omega)).mpr c2)]
      have e : p % (H + D) = q % (H + D) := (adist_0 _ _).mp (by omega)
      have ed : deckS H D p = deckS H D q := by unfold deckS; rw [e]
      by_cases c3 : adist (shutS g o (p / (H + D) / R)) (shutS g o (q / (H + D) / R)) = 0
      · rw [c3, show nI 0 = (0 : Int32) from rfl, ife0, decide_eq_true ⟨c1, rfl, ed⟩]; rfl
      · rw [if_pos (nI_ne0 (by omega) (by omega)), decide_eq_false (fun z => c3 z.2.1)]; rfl
    · rw [if_pos (mt (nI1 (by omega)).mp c2)]
      have e : p / (H + D) / R = q / (H + D) / R := (adist_0 _ _).mp (by omega)
      have e2 : adist (shutS g o (p / (H + D) / R)) (shutS g o (q / (H + D) / R)) = 0 := by rw [e]; exact (adist_0 _ _).mpr rfl
      by_cases c3 : adist (p % (H + D)) (q % (H + D)) = 0
      · have e3 : p % (H + D) = q % (H + D) := (adist_0 _ _).mp c3
        have ed : deckS H D p = deckS H D q := by unfold deckS; rw [e3]
        rw [c3, show nI 0 = (0 : Int32) from rfl, if_pos rfl, decide_eq_true ⟨by rw [c3] at c1; exact c1, e2, ed⟩]; rfl
      · rw [if_neg (nI_ne0 (by omega) (by omega))]
        by_cases c4 : deckS H D p = deckS H D q
        · rw [ifn c4, decide_eq_true ⟨c1, e2, c4⟩]; rfl
        · rw [if_pos c4, decide_eq_false (fun z => c4 z.2.2)]; rfl
  · rw [if_neg (mt (nI1 (by omega)).mp c1), decide_eq_false (fun z => c1 z.1)]; rfl
def AdjS (g : HH) (o R H D x y : Nat) : Bool := decide (g 7 y ≠ -1) && besS g o R H D (nn (g 7 x)) (nn (g 7 y))
/-- what every set holds that holds the first and whatever lies beside one of its own -/
def Rch (A : Nat → Nat → Bool) (n a0 b : Nat) : Prop := ∀ P : Nat → Prop, P a0 → (∀ x y, P x → y < n → A x y = true → P y) → P b
theorem Rch_base : Rch A n a0 a0 := fun _ h _ => h
theorem Rch_step {x y : Nat} (r : Rch A n a0 x) (hy : y < n) (ha : A x y = true) : Rch A n a0 y := fun P h1 h2 => h2 x y (r P h1 h2) hy ha
theorem Rch_lies (h0 : a0 < n) (hl : g 7 a0 ≠ -1) {x : Nat} (r : Rch (AdjS g o R H D) n a0 x) : x < n ∧ g 7 x ≠ -1 := by
  refine r (fun x => x < n ∧ g 7 x ≠ -1) ⟨h0, hl⟩ ?_
  intro x y _ hy ha
  refine ⟨hy, ?_⟩
  unfold AdjS at ha
  rw [Bool.and_eq_true] at ha
  exact of_decide_eq_true ha.1
abbrev cnN (f : Nat → Int32) (n : Nat) : Nat := sumN (fun b => b1 (decide (f b = 1))) n
theorem cnN_le (f : Nat → Int32) (n : Nat) : cnN f n ≤ n := by
  have := sumN_le (fun b => b1 (decide (f b = 1))) 1 n (fun i _ => by show (if _ then 1 else 0) ≤ 1; split <;> omega)
  rw [Nat.mul_one] at this
  exact this
theorem cnN_c {f f' : Nat → Int32} (n : Nat) (h : ∀ b, b < n → (f' b = 1 ↔ f b = 1)) : cnN f' n = cnN f n := by
  refine sumN_congr n ?_
  intro i hi
  by_cases c : f i = 1
  · rw [decide_eq_true c, decide_eq_true ((h i hi).mpr c)]
  · rw [decide_eq_false c, decide_eq_false (fun z => c ((h i hi).mp z))]
theorem cnN_up {f f' : Nat → Int32} {y : Nat} : ∀ (n : Nat), y < n → f y ≠ 1 → f' y = 1 → (∀ b, b ≠ y → f' b = f b) → cnN f' n = cnN f n + 1
  | 0, h, _, _, _ => by omega
  | n + 1, h, h1, h2, h3 => by
    show cnN f' n + b1 (decide (f' n = 1)) = cnN f n + b1 (decide (f n = 1)) + 1
    by_cases c : y = n
    · subst c
      rw [cnN_c y (fun b hb => by rw [h3 b (by omega)]), decide_eq_true h2, decide_eq_false h1]
      rfl
    · rw [cnN_up n (by omega) h1 h2 h3, h3 n (by omega)]
      omega
theorem cnN_mono {f f' : Nat → Int32} : ∀ (n : Nat), (∀ b, b < n → f b = 1 → f' b = 1) → cnN f n ≤ cnN f' n ∧ (cnN f n = cnN f' n → ∀ b, b < n → f' b = 1 → f b = 1)
  | 0, _ => ⟨Nat.le_refl _, fun _ b hb => by omega⟩
  | n + 1, h => by
    obtain ⟨h1, h2⟩ := cnN_mono n (fun b hb => h b (by omega))
    show cnN f n + b1 (decide (f n = 1)) ≤ cnN f' n + b1 (decide (f' n = 1)) ∧ (cnN f n + b1 (decide (f n = 1)) = cnN f' n + b1 (decide (f' n = 1)) → _)
    by_cases c : f n = 1
    · rw [decide_eq_true c, decide_eq_true (h n (by omega) c)]
      refine ⟨by omega, fun e b hb hb1 => ?_⟩
      by_cases cb : b = n
      · subst cb; exact c
      · exact h2 (by omega) b (by omega) hb1
    · rw [decide_eq_false c]
      by_cases c' : f' n = 1
      · rw [decide_eq_true c']
        refine ⟨by show _ + 0 ≤ _ + 1; omega, fun e => ?_⟩
        exfalso
        have : cnN f n + 0 = cnN f' n + 1 := e
        omega
      · rw [decide_eq_false c']
        refine ⟨by omega, fun e b hb hb1 => ?_⟩
        by_cases cb : b = n
        · subst cb; exact absurd hb1 c'
        · exact h2 (by omega) b (by omega) hb1
/-- what the class has reached -/
def FI (A : Nat → Nat → Bool) (hu : HH) (n a0 c : Nat) : Prop := (∀ b, b < n → hu 2 b = 0 ∨ (hu 2 b = 1 ∧ Rch A n a0 b)) ∧ c = cnN (hu 2) n ∧ (∀ i, i < c → ∃ b, b < n ∧ hu 1 i = nI b ∧ hu 2 b = 1) ∧ (∀ b, b < n → hu 2 b = 1 → ∃ i, i < c ∧ hu 1 i = nI b)
theorem adj_K (V : VS hh hr hc g B R H D K n o) {x y : Nat} (hx : x < n) (hlx : g 7 x ≠ -1) (hy : y < n) (hly : g 7 y ≠ -1) : F_Hull_isBeside (F_Cargo_placeOf (nI x) hc) (F_Cargo_placeOf (nI y) hc) hh = bi (AdjS g o R H D x y) := by
  obtain ⟨_, _, _, _, _, _, _, _, _, _, _, _, _, _, e1⟩ := V.box hx
  obtain ⟨_, _, _, _, _, _, _, _, _, _, _, _, _, _, e2⟩ := V.box hy
  have hP := V.pp
  rcases V.plc hx with z | ⟨p, p1, p2, p3⟩
  · exact absurd z hlx
  rcases V.plc hy with z | ⟨q, q1, q2, q3⟩
  · exact absurd z hly
  rw [e1, e2]
  unfold AdjS
  rw [decide_eq_true hly, p2, q2, K_bes V p1 q1]
  show _ = bi (true && besS g o R H D (nI p).toNatClampNeg (nI q).toNatClampNeg)
  rw [nI_clamp (by omega), nI_clamp (by omega), Bool.true_and]
theorem reach_L (V : VS hh hr hc g B R H D K n o) (h0 : a0 < n) (hl0 : g 7 a0 ≠ -1) {x : Nat} (rx : Rch (AdjS g o R H D) n a0 x) : ∀ (m j f c : Nat) (hu : HH), FI (AdjS g o R H D) hu n a0 c → j + m = n → m < f → ∃ c' hu', L_Surv_reachBeside_6 N f (nI x) (nI c) (nI j) hu hh hc = some (nI c', hu') ∧ FI (AdjS g o R H D) hu' n a0 c' ∧ c ≤ c' ∧ (∀ i, i < c → hu' 1 i = hu 1 i) ∧ (∀ b, b < n → hu 2 b = 1 → hu' 2 b = 1) ∧ ∀ y, j ≤ y → y < n → AdjS g o R H D x y = true → hu' 2 y = 1 := by
  intro m
  have hn := V.nn
  obtain ⟨hx, hlx⟩ := Rch_lies h0 hl0 rx
  induction m with
  | zero =>
    intro j f c hu F h1 h2
    obtain ⟨f, rfl⟩ : ∃ z, f = z + 1 := ⟨f - 1, by omega⟩
    have : j = n := by omega
    refine ⟨c, hu, ?_, F, Nat.le_refl _, fun _ _ => rfl, fun _ _ h => h, fun y y1 y2 => by omega⟩
    rw [L_Surv_reachBeside_6, V.h0, this, if_pos (Int32.le_refl _)]
  | succ m ih =>
    intro j f c hu F h1 h2
    obtain ⟨f, rfl⟩ : ∃ z, f = z + 1 := ⟨f - 1, by omega⟩
    have hj : j < n := by omega
    rw [L_Surv_reachBeside_6, V.h0, if_neg (nI_ge (by omega) (by omega)), V.lies hj, pu_rd _ (by omega) (by omega), pu_letn, nI_1, nI_1]
    have skip : (AdjS g o R H D x j = true → hu 2 j = 1) → ∃ c' hu', L_Surv_reachBeside_6 N f (nI x) (nI c) (nI (j + 1)) hu hh hc = some (nI c', hu') ∧ FI (AdjS g o R H D) hu' n a0 c' ∧ c ≤ c' ∧ (∀ i, i < c → hu' 1 i = hu 1 i) ∧ (∀ b, b < n → hu 2 b = 1 → hu' 2 b = 1) ∧ ∀ y, j ≤ y → y < n → AdjS g o R H D x y = true → hu' 2 y = 1 := by
      intro hs
      obtain ⟨c', hu', a1, a2, a3, a4, a5, a6⟩ := ih (j + 1) f c hu F (by omega) (by omega)
      refine ⟨c', hu', a1, a2, a3, a4, a5, ?_⟩
      intro y y1 y2 y3
      by_cases cy : y = j
      · subst cy; exact a5 y hj (hs y3)
      · exact a6 y (by omega) y2 y3
    by_cases c7 : g 7 j = -1
    · rw [if_pos c7, if_pos rfl, if_pos rfl]
      refine skip (fun z => ?_)
      unfold AdjS at z
      rw [Bool.and_eq_true] at z
      exact absurd c7 (of_decide_eq_true z.1)
    · rw [if_neg c7, if_neg pu_10, adj_K V hx hlx hj c7]
      rcases F.1 j hj with f0 | ⟨f1, f2⟩
      · rw [f0, ife0, if_neg pu_10]
        by_cases ca : AdjS g o R H D x j = true
        · rw [ca, if_neg (show ¬ bi true = 0 by decide), pu_letn, pu_letn]
          have hcn : c < n := by
            have e := F.2.1
            have h3 := cnN_up (f := hu 2) (f' := upd (hu 2) j 1) (y := j) n hj (by rw [f0]; decide) (by rw [pu_upd, if_pos rfl]) (fun b hb => by rw [pu_upd, if_neg hb])
            have h4 := cnN_le (upd (hu 2) j 1) n
            omega
          have w2 : ∀ b, sw (sw hu 2 24 (nI j) 1) 1 24 (nI c) (nI j) 2 b = if b = j then 1 else hu 2 b := by
            intro b
            rw [pu_sw, if_neg (by omega), pu_sw, if_pos rfl, pu_wr _ _ (by omega) (by omega), pu_upd]
          have w1 : ∀ i, sw (sw hu 2 24 (nI j) 1) 1 24 (nI c) (nI j) 1 i = if i = c then nI j else hu 1 i := by
            intro i
            rw [pu_sw, if_pos rfl, pu_sw, if_neg (by omega), pu_wr _ _ (by omega) (by omega), pu_upd]
          have F' : FI (AdjS g o R H D) (sw (sw hu 2 24 (nI j) 1) 1 24 (nI c) (nI j)) n a0 (c + 1) := by
            refine ⟨?_, ?_, ?_, ?_⟩
            · intro b hb
              rw [w2]
              by_cases cb : b = j
              · rw [if_pos cb]; exact Or.inr ⟨rfl, by rw [cb]; exact Rch_step rx hj ca⟩
              · rw [if_neg cb]; exact F.1 b hb
            · have h3 := cnN_up (f := hu 2) (f' := sw (sw hu 2 24 (nI j) 1) 1 24 (nI c) (nI j) 2) (y := j) n hj (by rw [f0]; decide) (by rw [w2, if_pos rfl]) (fun b hb => by rw [w2, if_neg hb])
              rw [h3, ← F.2.1]
            · intro i hi
              rw [w1]
              by_cases ci : i = c
              · rw [if_pos ci]; exact ⟨j, hj, rfl, by rw [w2, if_pos rfl]⟩
              · rw [if_neg ci]
                obtain ⟨b, b1, b2, b3⟩ := F.2.2.1 i (by omega)
                refine ⟨b, b1, b2, ?_⟩
                rw [w2]; split
                · rfl
                · exact b3
            · intro b hb hb1
              rw [w2] at hb1
              by_cases cb : b = j
              · exact ⟨c, by omega, by rw [w1, if_pos rfl, cb]⟩
              · rw [if_neg cb] at hb1
                obtain ⟨i, i1, i2⟩ := F.2.2.2 b hb hb1
                exact ⟨i, by omega, by rw [w1, if_neg (by omega), i2]⟩
          obtain ⟨c', hu', a1, a2, a3, a4, a5, a6⟩ := ih (j + 1) f (c + 1) _ F' (by omega) (by omega)
          refine ⟨c', hu', a1, a2, by omega, ?_, ?_, ?_⟩
          · intro i hi
            rw [a4 i (by omega), w1, if_neg (by omega)]
          · intro b hb hb1
            refine a5 b hb ?_
            rw [w2]; split
            · rfl
            · exact hb1
          · intro y y1 y2 y3
            by_cases cy : y = j
            · subst cy; exact a5 y hj (by rw [w2, if_pos rfl])
            · exact a6 y (by omega) y2 y3
        · rw [if_pos ((bi0 _).mpr (by simpa using ca))]
          exact skip (fun z => absurd z ca)
      · rw [f1, if_pos pu_10, if_pos rfl]
        exact skip (fun _ => f1)
theorem hang_K (V : VS hh hr hc g B R H D K n o) (h0 : a0 < n) (hl0 : g 7 a0 ≠ -1) (hN : 30 ≤ N) : ∀ (d i f c : Nat) (hu : HH), FI (AdjS g o R H D) hu n a0 c → hu 2 a0 = 1 → (∀ i', i' < i → ∀ b, b < n → hu 1 i' = nI b → ∀ y, y < n → AdjS g o R H D b y = true → hu 2 y = 1) → i ≤ c → n - i ≤ d → d < f → ∃ c' hu', L_Surv_countHanging_48 N f (nI c) (nI i) hu hh hc = some (nI c', hu') ∧ c' = cnN (hu' 2) n ∧ ∀ b, b < n → (hu' 2 b = 1 ↔ Rch (AdjS g o R H D) n a0 b) := by
  intro d
  have hn := V.nn
  induction d with
  | zero =>
    intro i f c hu F F0 P h1 h2 h3
    obtain ⟨f, rfl⟩ : ∃ z, f = z + 1 := ⟨f - 1, by omega⟩
    have hc := cnN_le (hu 2) n
    have e := F.2.1
    have : c = i := by omega
    subst this
    refine ⟨c, hu, ?_, e, ?_⟩
    · rw [L_Surv_countHanging_48, if_pos (Int32.le_refl _)]
    · intro b hb
      constructor
      · intro z
        rcases F.1 b hb with y | ⟨_, y⟩
        · rw [y] at z; exact absurd z (by decide)
        · exact y
      · intro r
        refine (r (fun x => x < n ∧ hu 2 x = 1) ⟨h0, F0⟩ ?_).2
        intro x y hx hy ha
        obtain ⟨i', i1, i2⟩ := F.2.2.2 _ hx.1 hx.2
        exact ⟨hy, P i' i1 _ hx.1 i2 _ hy ha⟩
  | succ d ih =>
    intro i f c hu F F0 P h1 h2 h3
    obtain ⟨f, rfl⟩ : ∃ z, f = z + 1 := ⟨f - 1, by omega⟩
    have hc := cnN_le (hu 2) n
    have e := F.2.1
    by_cases ci : c = i
    · subst ci
      refine ⟨c, hu, ?_, e, ?_⟩
      · rw [L_Surv_countHanging_48, if_pos (Int32.le_refl _)]
      · intro b hb
        constructor
        · intro z
          rcases F.1 b hb with y | ⟨_, y⟩
          · rw [y] at z; exact absurd z (by decide)
          · exact y
        · intro r
          refine (r (fun x => x < n ∧ hu 2 x = 1) ⟨h0, F0⟩ ?_).2
          intro x y hx hy ha
          obtain ⟨i', i1, i2⟩ := F.2.2.2 _ hx.1 hx.2
          exact ⟨hy, P i' i1 _ hx.1 i2 _ hy ha⟩
    · obtain ⟨x, x1, x2, x3⟩ := F.2.2.1 i (by omega)
      have rx : Rch (AdjS g o R H D) n a0 x := by
        rcases F.1 x x1 with y | ⟨_, y⟩
        · rw [y] at x3; exact absurd x3 (by decide)
        · exact y
      obtain ⟨c', hu', a1, a2, a3, a4, a5, a6⟩ := reach_L (N := N) V h0 hl0 rx n 0 N c hu F (by omega) (by omega)
      rw [L_Surv_countHanging_48, if_neg (nI_ge (by omega) (by omega)), if_neg (by
        rw [show (24 : Int32) = nI 24 from rfl]
        exact nI_ge (by omega) (by omega)), pu_rd _ (by omega) (by omega), x2]
      unfold F_Surv_reachBeside
      rw [show nI 0 = (0 : Int32) from rfl] at a1
      rw [a1, bind_sn, bind_sn, nI_1]
      refine ih (i + 1) f c' hu' a2 (a5 a0 h0 F0) ?_ (by omega) (by omega) (by omega)
      intro i' hi' b hb hb1 y hy hy1
      by_cases ci' : i' = i
      · subst ci'
        rw [a4 i' (by omega), x2] at hb1
        have : x = b := (nI_eq (by omega) (by omega)).mp hb1
        subst this
        exact a6 y (by omega) hy hy1
      · rw [a4 i' (by omega)] at hb1
        exact a5 y hy (P i' (by omega) b hb hb1 y hy hy1)
end HANG
