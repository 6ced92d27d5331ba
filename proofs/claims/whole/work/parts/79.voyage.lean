/-! ===== pure: the voyage, the class ===== -/
section VOYA
variable {k k' : KS} {g g' g2 : HH} {hu hy hv hh hr hc hc2 hp hl hl' : HH} {B R H D K n o N N' t w lim : Nat} {L : Nat → Nat}
/-- only scratch rows of the reference changed -/
theorem Inv_fr (I : Inv k g) (h : ∀ r, r ≠ 17 → r ≠ 18 → r ≠ 19 → r ≠ 20 → r ≠ 21 → g' r = g r) : Inv (ku k 4 hu) g' := by
  have h0 := h 0 (by omega) (by omega) (by omega) (by omega) (by omega)
  have h1 : ∀ r, r < 17 → g' r = g r := fun r hr => h r (by omega) (by omega) (by omega) (by omega) (by omega)
  have h22 := h 22 (by omega) (by omega) (by omega) (by omega) (by omega)
  refine ⟨InvB_c I.1 rfl rfl rfl (by rw [h0]) (by rw [h0]) (by rw [h0]) (by rw [h0]) (h1 9 (by omega)) h22, ?_⟩
  rcases I.2 with J | ⟨B, R, H, D, K, n, o, J⟩
  · left
    unfold InvN at *
    simp only [pu_ku]
    rw [h0, h1 1 (by omega)]
    exact J
  · right
    refine ⟨B, R, H, D, K, n, o, ?_⟩
    have hn := J.2.2.1.nn
    refine ⟨?_, ?_, ?_, ?_, ?_, ?_, ?_, ?_⟩
    · simp only [pu_ku]; exact J.1
    · rw [h0]; exact J.2.1
    · simp only [pu_ku]
      exact J.2.2.1.cg (h1 1 (by omega)) (by rw [h0]) (h1 4 (by omega)) (h1 5 (by omega)) (h1 6 (by omega)) (h1 7 (by omega)) (h1 8 (by omega))
    · rw [h0]; exact J.2.2.2.1
    · unfold NoH; rw [h1 8 (by omega)]; exact J.2.2.2.2.1
    · simp only [pu_ku]
      exact HiR_c hn J.2.2.2.2.2.1 (Nat.le_refl _) (by rw [h0]) (h1 10 (by omega)) (h1 1 (by omega)) (fun b _ => by rw [h1 4 (by omega), h1 5 (by omega), h1 6 (by omega)]; exact ⟨rfl, rfl, rfl⟩)
    · simp only [pu_ku]
      exact ToR_c J.2.2.2.2.2.2.1 (by rw [h0]) (h1 14 (by omega)) (h1 15 (by omega))
    · simp only [pu_ku]
      exact ShR_c J.2.2.2.2.2.2.2 (by rw [h0]) (h1 16 (by omega))
def Hold (f : Nat → Int32) : Nat → List Int32 → Prop
  | _, [] => True
  | j, x :: l => f j = x ∧ Hold f (j + 1) l
def cntF (q : Int32 → Bool) : Bool → List Int32 → Nat
  | _, [] => 0
  | s, x :: l => if q x = true then cntF q true l else b1 s + cntF q s l
def remF (q : Int32 → Bool) : List Int32 → List Int32
  | [] => []
  | x :: l => if q x = true then remF q l else x :: remF q l
def stkB (f : Nat → Int32) : Nat → Nat → List Int32
  | _, 0 => []
  | p, m + 1 => if f p = -1 then stkB f (p + 1) m else f p :: stkB f (p + 1) m
def ptq (g : HH) (t : Nat) (b : Int32) : Bool := decide (g 6 (nn b) = nI t)
def ptv (g : HH) (b : Int32) : Int32 := g 6 (nn b)
def LtF (g : HH) (l : List Int32) : Nat → List Int32
  | 0 => l
  | i + 1 => remF (ptq g (i + 1)) (LtF g l i)
def cF (g : HH) (l : List Int32) (i : Nat) : Nat := cntF (ptq g (i + 1)) false (LtF g l i)
theorem remF_len (q : Int32 → Bool) : ∀ l, (remF q l).length ≤ l.length
  | [] => Nat.le_refl _
  | x :: l => by
    unfold remF
    have := remF_len q l
    split
    · simp only [List.length_cons]; omega
    · simp only [List.length_cons]; omega
theorem LtF_len (l : List Int32) : ∀ i, (LtF g l i).length ≤ l.length
  | 0 => Nat.le_refl _
  | i + 1 => Nat.le_trans (remF_len _ _) (LtF_len l i)
theorem stkB_len (f : Nat → Int32) : ∀ m p, (stkB f p m).length ≤ m
  | 0, _ => Nat.le_refl _
  | m + 1, p => by
    unfold stkB
    have := stkB_len f m (p + 1)
    split
    · omega
    · simp only [List.length_cons]; omega
theorem Hold_app (f : Nat → Int32) : ∀ (a : List Int32) (j : Nat) (b : List Int32), Hold f j (a ++ b) ↔ Hold f j a ∧ Hold f (j + a.length) b
  | [], j, b => by simp [Hold]
  | x :: a, j, b => by
    have := Hold_app f a (j + 1) b
    simp only [List.cons_append, Hold, this, List.length_cons]
    rw [show j + 1 + a.length = j + (a.length + 1) by omega, and_assoc]
theorem Hold_c {f f' : Nat → Int32} : ∀ (a : List Int32) (j : Nat), (∀ i, j ≤ i → i < j + a.length → f' i = f i) → Hold f j a → Hold f' j a
  | [], _, _, _ => trivial
  | x :: a, j, h, hh => by
    refine ⟨?_, ?_⟩
    · rw [h j (Nat.le_refl _) (by simp only [List.length_cons]; omega)]; exact hh.1
    · exact Hold_c a (j + 1) (fun i h1 h2 => h i (by omega) (by simp only [List.length_cons]; omega)) hh.2
/-- a pile is read -/
theorem pile_L (V : VS hh hr hc g B R H D K n o) {p h : Nat} (hp : p + h ≤ 144) : ∀ (m j f : Nat) (W : List Int32) (hu : HH), j + m = h → m < f → W.length + m ≤ 3 → Hold (hu 3) 0 (W.map (ptv g)) → ∃ hu', L_Surv_sailStack_30 N f (nI p) (nI h) (nI W.length) (nI j) hu hc = some (nI (W ++ stkB (g 8) (p + j) m).length, hu') ∧ Hold (hu' 3) 0 ((W ++ stkB (g 8) (p + j) m).map (ptv g)) ∧ ∀ r, r ≠ 3 → hu' r = hu r := by
  intro m
  induction m with
  | zero =>
    intro j f W hu h1 h2 h3 h4
    obtain ⟨f, rfl⟩ : ∃ z, f = z + 1 := ⟨f - 1, by omega⟩
    have : j = h := by omega
    subst this
    refine ⟨hu, ?_, ?_, fun _ _ => rfl⟩
    · rw [L_Surv_sailStack_30, if_pos (Int32.le_refl _)]
      simp only [stkB, List.append_nil]
    · simp only [stkB, List.append_nil]; exact h4
  | succ m ih =>
    intro j f W hu h1 h2 h3 h4
    obtain ⟨f, rfl⟩ : ∃ z, f = z + 1 := ⟨f - 1, by omega⟩
    rw [L_Surv_sailStack_30, if_neg (nI_ge (by omega) (by omega)), nI_add, V.at (by omega), nI_1]
    by_cases c : g 8 (p + j) = -1
    · rw [if_pos c]
      have e : stkB (g 8) (p + j) (m + 1) = stkB (g 8) (p + (j + 1)) m := by
        rw [stkB, if_pos c]; rfl
      rw [e]
      exact ih (j + 1) f W hu (by omega) (by omega) (by omega) h4
    · rw [if_neg c, pu_letn, nI_1]
      have e : stkB (g 8) (p + j) (m + 1) = g 8 (p + j) :: stkB (g 8) (p + (j + 1)) m := by
        rw [stkB, if_neg c]; rfl
      rw [e]
      rcases V.atb (p := p + j) (by omega) with c' | ⟨b, b1, b2, b3⟩
      · exact absurd c' c
      obtain ⟨kd, w, t, v1, v2, v3, v4, v5, v6, v7, v8, v9, v10, v11, v12⟩ := V.box b1
      have hn := V.nn
      have hW : (W ++ [g 8 (p + j)]).length = W.length + 1 := by simp
      have := ih (j + 1) f (W ++ [g 8 (p + j)]) (sw hu 3 3 (nI W.length) (F_Cargo_portOf (g 8 (p + j)) hc)) (by omega) (by omega) (by omega) (by
        rw [List.map_append]
        rw [Hold_app]
        refine ⟨?_, ?_, trivial⟩
        · refine Hold_c _ _ ?_ h4
          intro i _ hi
          rw [List.length_map] at hi
          rw [pu_sw, if_pos rfl, pu_wr _ _ (by omega) (by omega), pu_upd, if_neg (by omega)]
        · rw [List.length_map, pu_sw, if_pos rfl, pu_wr _ _ (by omega) (by omega), pu_upd, if_pos (by omega), b2, v11]
          unfold ptv
          show _ = g 6 (nI b).toNatClampNeg
          rw [nI_clamp (by omega), v8])
      obtain ⟨hu', a1, a2, a3⟩ := this
      rw [hW, List.append_assoc] at a1
      rw [List.append_assoc] at a2
      refine ⟨hu', a1, a2, ?_⟩
      intro r hr
      rw [a3 r hr, pu_sw, if_neg hr]
/-- one call at a port -/
theorem call_L {t : Nat} (ht : t < 6) : ∀ (S : List Int32) (j f : Nat) (W : List Int32) (hu : HH), W.length ≤ j → j + S.length ≤ 3 → S.length < f → Hold (hu 3) 0 (W.map (ptv g)) → Hold (hu 3) j (S.map (ptv g)) → ∃ hu', L_Surv_callAt_5 N f (nI t) (nI (j + S.length)) (nI W.length) (nI j) hu = some (nI (W ++ remF (ptq g t) S).length, hu') ∧ Hold (hu' 3) 0 ((W ++ remF (ptq g t) S).map (ptv g)) ∧ ∀ i, hu' 4 i = if i = t then hu 4 t + nI (cntF (ptq g t) (decide (W.length < j)) S) else hu 4 i := by
  intro S
  induction S with
  | nil =>
    intro j f W hu h1 h2 h3 h4 h5
    obtain ⟨f, rfl⟩ : ∃ z, f = z + 1 := ⟨f - 1, by omega⟩
    refine ⟨hu, ?_, ?_, ?_⟩
    · rw [L_Surv_callAt_5, List.length_nil, Nat.add_zero, if_pos (Int32.le_refl _), remF, List.append_nil]
    · rw [remF, List.append_nil]; exact h4
    · intro i
      rw [cntF, show nI 0 = 0 from rfl, Int32.add_zero]
      by_cases c : i = t
      · rw [if_pos c, c]
      · rw [if_neg c]
  | cons b S ih =>
    intro j f W hu h1 h2 h3 h4 h5
    obtain ⟨f, rfl⟩ : ∃ z, f = z + 1 := ⟨f - 1, by omega⟩
    obtain ⟨h5, h6⟩ := h5
    rw [List.length_cons] at h2 h3
    rw [L_Surv_callAt_5, List.length_cons, if_neg (nI_ge (by omega) (by omega)), pu_rd _ (by omega) (by omega), h5, nI_1, nI_1, show j + (S.length + 1) = (j + 1) + S.length by omega]
    by_cases c : ptv g b = nI t
    · have cq : ptq g t b = true := decide_eq_true c
      rw [if_pos c]
      obtain ⟨hu', a1, a2, a3⟩ := ih (j + 1) f W hu (by omega) (by omega) (by omega) h4 h6
      rw [remF, if_pos cq]
      refine ⟨hu', a1, a2, ?_⟩
      intro i
      rw [a3 i, cntF, if_pos cq, decide_eq_true (show W.length < j + 1 by omega)]
    · have cq : ¬ ptq g t b = true := fun z => c (of_decide_eq_true z)
      rw [if_neg c, pu_letn, pu_letn, remF, if_neg cq]
      have hW : (W ++ [b]).length = W.length + 1 := by simp
      obtain ⟨hu1, u3, u4⟩ : ∃ hu1, hu1 = (if nI j ≤ nI W.length then hu else sv_let (sw hu 4 6 (nI t) (rd 6 (hu 4) (nI t) + 1)) fun hu_4 => hu_4) ∧ hu1 3 = hu 3 ∧ ∀ i, hu1 4 i = if i = t then hu 4 t + nI (b1 (decide (W.length < j))) else hu 4 i := by
        refine ⟨_, rfl, ?_, ?_⟩
        · split
          · rfl
          · rw [pu_letn, pu_sw, if_neg (by omega)]
        · intro i
          by_cases c' : W.length < j
          · rw [if_neg (nI_ge c' (by omega)), pu_letn, pu_sw, if_pos rfl, pu_wr _ _ (by omega) (by omega), pu_upd, pu_rd _ (by omega) (by omega), decide_eq_true c']
            rfl
          · rw [if_pos (nI_le (by omega) (by omega)), decide_eq_false c']
            show _ = if i = t then hu 4 t + nI 0 else hu 4 i
            rw [show nI 0 = 0 from rfl, Int32.add_zero]
            by_cases c2 : i = t
            · rw [if_pos c2, c2]
            · rw [if_neg c2]
      rw [← u3]
      obtain ⟨u4, u5⟩ := u4
      obtain ⟨hu', a1, a2, a3⟩ := ih (j + 1) f (W ++ [b]) (sw hu1 3 3 (nI W.length) (ptv g b)) (by omega) (by omega) (by omega) (by
        rw [List.map_append, Hold_app]
        refine ⟨?_, ?_, trivial⟩
        · refine Hold_c _ _ ?_ h4
          intro i _ hi
          rw [List.length_map] at hi
          rw [pu_sw, if_pos rfl, pu_wr _ _ (by omega) (by omega), pu_upd, if_neg (by omega), u4]
        · rw [List.length_map, pu_sw, if_pos rfl, pu_wr _ _ (by omega) (by omega), pu_upd, if_pos (by omega)]) (by
        refine Hold_c _ _ ?_ h6
        intro i hi _
        rw [pu_sw, if_pos rfl, pu_wr _ _ (by omega) (by omega), pu_upd, if_neg (by omega), u4])
      rw [hW, List.append_assoc] at a1
      rw [List.append_assoc] at a2
      refine ⟨hu', a1, a2, ?_⟩
      intro i
      have s4 : sw hu1 3 3 (nI W.length) (ptv g b) 4 = hu1 4 := by rw [pu_sw, if_neg (by omega)]
      rw [a3 i, hW, cntF, if_neg cq, s4, u5 t, if_pos rfl, u5 i, ← nI_add, ← Int32.add_assoc]
      have e : decide (W.length + 1 < j + 1) = decide (W.length < j) := by
        by_cases c' : W.length < j
        · rw [decide_eq_true c', decide_eq_true (by omega)]
        · rw [decide_eq_false c', decide_eq_false (by omega)]
      rw [e]
      by_cases c2 : i = t
      · rw [if_pos c2, if_pos c2]
      · rw [if_neg c2, if_neg c2, if_neg c2]
/-- one stack, over the ports -/
theorem ports_L (l : List Int32) (hl : l.length ≤ 3) (hN : 10 ≤ N) : ∀ (m i f : Nat) (hu : HH), i + m = 5 → m < f → Hold (hu 3) 0 ((LtF g l i).map (ptv g)) → ∃ hu', L_Surv_sailStack_85 N f (nI (LtF g l i).length) (nI (i + 1)) hu = some hu' ∧ ∀ x, x < 5 → hu' 4 (x + 1) = if i ≤ x then hu 4 (x + 1) + nI (cF g l x) else hu 4 (x + 1) := by
  intro m
  induction m with
  | zero =>
    intro i f hu h1 h2 h3
    obtain ⟨f, rfl⟩ : ∃ z, f = z + 1 := ⟨f - 1, by omega⟩
    have : i = 5 := by omega
    subst this
    refine ⟨hu, ?_, ?_⟩
    · rw [L_Surv_sailStack_85, if_pos (by decide)]
    · intro x hx
      rw [if_neg (by omega)]
  | succ m ih =>
    intro i f hu h1 h2 h3
    obtain ⟨f, rfl⟩ : ∃ z, f = z + 1 := ⟨f - 1, by omega⟩
    have hll := LtF_len (g := g) l i
    obtain ⟨hu1, a1, a2, a3⟩ := call_L (g := g) (N := N) (t := i + 1) (by omega) (LtF g l i) 0 N [] hu (Nat.le_refl _) (by omega) (by omega) trivial h3
    have e : F_Surv_callAt N (nI (i + 1)) (nI (LtF g l i).length) hu = some (nI (LtF g l (i + 1)).length, hu1) := by
      unfold F_Surv_callAt
      rw [Nat.zero_add] at a1
      rw [show (0 : Int32) = nI ([] : List Int32).length from rfl]
      rw [show nI ([] : List Int32).length = nI 0 from rfl] at a1 ⊢
      rw [a1, bind_sn]
      rfl
    rw [L_Surv_sailStack_85, if_neg (by
      rw [show (5 : Int32) = nI 5 from rfl]
      exact nI_nlt (by omega) (by omega)), e, bind_sn, nI_1]
    obtain ⟨hu2, c1, c2⟩ := ih (i + 1) f hu1 (by omega) (by omega) a2
    refine ⟨hu2, c1, ?_⟩
    intro x hx
    rw [c2 x hx, a3]
    by_cases cx : x = i
    · subst cx
      rw [if_neg (by omega), if_pos rfl, if_pos (Nat.le_refl _)]
      rfl
    · rw [if_neg (show ¬ x + 1 = i + 1 by omega)]
      by_cases cy : i ≤ x
      · rw [if_pos cy, if_pos (by omega)]
      · rw [if_neg cy, if_neg (by omega)]
/-- what comes back at a port from the stack that begins at a place -/
def backP (g : HH) (H D i p : Nat) : Nat := if p = lowS H D p then cF g (stkB (g 8) p (highS H D p)) i else 0
theorem high3 (h : Geo g B R H D) (p : Nat) : highS H D p ≤ 3 := by
  obtain ⟨-, h1, h2, h3, h4, h5, h6, h7⟩ := h
  unfold highS; split <;> omega
theorem sail_L (V : VS hh hr hc g B R H D K n o) (hN : 10 ≤ N) : ∀ (m p f : Nat) (hu : HH), p + m = plN B R H D → m < f → ∃ hu', L_Surv_sail_10 N f (nI p) hu hh hc = some hu' ∧ ∀ x, x < 5 → hu' 4 (x + 1) = hu 4 (x + 1) + nI (sumT (backP g H D x) p m) := by
  intro m
  have hP := V.pp
  induction m with
  | zero =>
    intro p f hu h1 h2
    obtain ⟨f, rfl⟩ : ∃ z, f = z + 1 := ⟨f - 1, by omega⟩
    have : p = plN B R H D := by omega
    refine ⟨hu, ?_, ?_⟩
    · rw [L_Surv_sail_10, V.h4, this, if_pos (Int32.le_refl _)]
    · intro x hx
      rw [sumT, show nI 0 = 0 from rfl, Int32.add_zero]
  | succ m ih =>
    intro p f hu h1 h2
    obtain ⟨f, rfl⟩ : ∃ z, f = z + 1 := ⟨f - 1, by omega⟩
    have hp : p < plN B R H D := by omega
    rw [L_Surv_sail_10, V.h4, if_neg (nI_ge (by omega) (by omega)), K_lowest V hp, nI_1]
    by_cases c : p = lowS H D p
    · rw [if_pos c, if_neg pu_10]
      have h3 := high3 V.1 p
      have hst := V.1.st hp
      obtain ⟨hu1, a1, a2, a3⟩ := pile_L (N := N) V (p := p) (h := highS H D p) (by omega) (highS H D p) 0 N [] hu (by omega) (by omega) (by simp; omega) trivial
      obtain ⟨hu2, c1, c2⟩ := ports_L (g := g) (N := N) (stkB (g 8) p (highS H D p)) (Nat.le_trans (stkB_len _ _ _) h3) hN 5 0 N hu1 (by omega) (by omega) a2
      have e : F_Surv_sailStack N (nI p) hu hh hc = some hu2 := by
        unfold F_Surv_sailStack
        rw [pu_letn, K_deck V hp, K_tiers V p]
        rw [show nI ([] : List Int32).length = (0 : Int32) from rfl, show nI 0 = (0 : Int32) from rfl] at a1
        rw [a1, bind_sn]
        rw [show nI (0 + 1) = (1 : Int32) from rfl] at c1
        show Option.bind (L_Surv_sailStack_85 N N (nI (LtF g (stkB (g 8) p (highS H D p)) 0).length) 1 hu1) _ = _
        rw [c1, bind_sn]
      rw [e, bind_sn]
      obtain ⟨hu', d1, d2⟩ := ih (p + 1) f hu2 (by omega) (by omega)
      refine ⟨hu', d1, ?_⟩
      intro x hx
      rw [d2 x hx, c2 x hx, if_pos (by omega), a3 4 (by omega), Int32.add_assoc, nI_add, sumT]
      rw [show backP g H D x p = cF g (stkB (g 8) p (highS H D p)) x from if_pos c]
    · rw [if_neg c, if_pos rfl]
      obtain ⟨hu', d1, d2⟩ := ih (p + 1) f hu (by omega) (by omega)
      refine ⟨hu', d1, ?_⟩
      intro x hx
      rw [d2 x hx, sumT, show backP g H D x p = 0 from if_neg c, Nat.zero_add]
end VOYA
