/-! ===== pure: the class builds a hull ===== -/
section BLD
variable {hd hd' ht ht' hh hr hc : HH} {B R H D K n N N' s x l : Nat}
/-- places told so far -/
def Bd (hh : HH) (R T p : Nat) : Prop := ∀ q, q < p → hh 1 q = nI (q / T / R) ∧ hh 2 q = nI (q / T % R) ∧ hh 3 q = nI (q % T)
def BdF (h h' : HH) : Prop := (∀ j, j ≠ 4 → h' 0 j = h 0 j) ∧ ∀ r, 4 ≤ r → h' r = h r
theorem BdF.tr {h1 h2 h3 : HH} (a : BdF h1 h2) (b : BdF h2 h3) : BdF h1 h3 := ⟨fun j h => by rw [b.1 j h, a.1 j h], fun r h => by rw [b.2 r h, a.2 r h]⟩
theorem bd_53 {z b r T : Nat} (hT : 1 ≤ T) (hzb : z / R = b) (hzr : z % R = r) (hz : z * T + T ≤ 144) (hb : b < 2 ^ 30) (hr : r < 2 ^ 30) : ∀ (m t f : Nat) (hh : HH), t + m = T → m < f → hh 0 2 + hh 0 3 = nI T → hh 0 4 = nI (z * T + t) → Bd hh R T (z * T + t) → ∃ hh', L_Hull_build_53 N f (nI b) (nI r) (nI t) hh = some hh' ∧ hh' 0 4 = nI (z * T + T) ∧ Bd hh' R T (z * T + T) ∧ BdF hh hh' := by
  intro m
  induction m with
  | zero =>
    intro t f hh h1 h2 h3 h4 h5
    obtain ⟨f, rfl⟩ : ∃ y, f = y + 1 := ⟨f - 1, by omega⟩
    have et : t = T := by omega
    subst et
    rw [L_Hull_build_53, h3, if_pos (Int32.le_refl _)]
    exact ⟨hh, rfl, h4, h5, fun _ _ => rfl, fun _ _ => rfl⟩
  | succ m ih =>
    intro t f hh h1 h2 h3 h4 h5
    obtain ⟨f, rfl⟩ : ∃ y, f = y + 1 := ⟨f - 1, by omega⟩
    have ht : t < T := by omega
    have hT1 : T ≤ 144 := by omega
    rw [L_Hull_build_53, h3, if_neg (nI_ge ht (by omega))]
    have zd : (z * T + t) / T = z := by rw [Nat.mul_comm, Nat.mul_add_div (by omega), Nat.div_eq_of_lt ht, Nat.add_zero]
    have zm : (z * T + t) % T = t := by rw [Nat.mul_comm, Nat.mul_add_mod, Nat.mod_eq_of_lt ht]
    obtain ⟨y, ey⟩ : ∃ y, y = z * T := ⟨_, rfl⟩
    rw [← ey] at hz h4 h5 zd zm
    obtain ⟨a1, ea1⟩ : ∃ a1, a1 = sw hh 1 144 (hh 0 4) (nI b) := ⟨_, rfl⟩
    obtain ⟨a2, ea2⟩ : ∃ a2, a2 = sw a1 2 144 (a1 0 4) (nI r) := ⟨_, rfl⟩
    obtain ⟨a3, ea3⟩ : ∃ a3, a3 = sw a2 3 144 (a2 0 4) (nI t) := ⟨_, rfl⟩
    obtain ⟨a4, ea4⟩ : ∃ a4, a4 = ss a3 4 (a3 0 4 + 1) := ⟨_, rfl⟩
    have p1 : a1 0 = hh 0 := by rw [ea1, pu_sw, if_neg (by omega)]
    have p2 : a2 0 = hh 0 := by rw [ea2, pu_sw, if_neg (by omega), p1]
    have p3 : a3 0 = hh 0 := by rw [ea3, pu_sw, if_neg (by omega), p2]
    have p4 : a4 0 4 = nI (y + (t + 1)) := by rw [ea4, pu_ss, if_pos rfl, if_pos rfl, p3, h4, nI_1]; rfl
    have p5 : ∀ j, j ≠ 4 → a4 0 j = hh 0 j := fun j h => by rw [ea4, pu_ss, if_pos rfl, if_neg h, p3]
    have p6 : ∀ r, 4 ≤ r → a4 r = hh r := fun r h => by rw [ea4, pu_ssr, if_neg (by omega), ea3, pu_sw, if_neg (by omega), ea2, pu_sw, if_neg (by omega), ea1, pu_sw, if_neg (by omega)]
    have r1 : ∀ q, a4 1 q = if q = y + t then nI b else hh 1 q := fun q => by
      rw [ea4, pu_ssr, if_neg (by omega), ea3, pu_sw, if_neg (by omega), ea2, pu_sw, if_neg (by omega), ea1, pu_sw, if_pos rfl, h4, pu_wr _ _ (by omega) (by omega), pu_upd]
    have r2 : ∀ q, a4 2 q = if q = y + t then nI r else hh 2 q := fun q => by
      rw [ea4, pu_ssr, if_neg (by omega), ea3, pu_sw, if_neg (by omega), ea2, pu_sw, if_pos rfl, p1, h4, ea1, pu_sw, if_neg (by omega), pu_wr _ _ (by omega) (by omega), pu_upd]
    have r3 : ∀ q, a4 3 q = if q = y + t then nI t else hh 3 q := fun q => by
      rw [ea4, pu_ssr, if_neg (by omega), ea3, pu_sw, if_pos rfl, p2, h4, ea2, pu_sw, if_neg (by omega), ea1, pu_sw, if_neg (by omega), pu_wr _ _ (by omega) (by omega), pu_upd]
    have hBd : Bd a4 R T (y + (t + 1)) := by
      intro q hq
      rw [r1, r2, r3]
      by_cases c : q = y + t
      · rw [if_pos c, if_pos c, if_pos c, c, zd, zm, hzb, hzr]; exact ⟨rfl, rfl, rfl⟩
      · rw [if_neg c, if_neg c, if_neg c]; exact h5 q (by omega)
    obtain ⟨hh', x1, x2, x3, x4⟩ := ih (t + 1) f a4 (by omega) (by omega) (by rw [p5 2 (by omega), p5 3 (by omega)]; exact h3) (by rw [p4, ey]) (by rw [← ey]; exact hBd)
    refine ⟨hh', ?_, x2, x3, BdF.tr ⟨p5, p6⟩ x4⟩
    simp only [pu_letn]
    rw [← ea1, ← ea2, ← ea3, ← ea4, nI_1]
    exact x1
theorem bd_41 {b T : Nat} (hT : 1 ≤ T) (hR : 1 ≤ R) (hz : (b + 1) * R * T ≤ 144) (hb : b < 2 ^ 30) (hR4 : R ≤ 4) (hN : 200 ≤ N) : ∀ (m r f : Nat) (hh : HH), r + m = R → m < f → hh 0 1 = nI R → hh 0 2 + hh 0 3 = nI T → hh 0 4 = nI ((b * R + r) * T) → Bd hh R T ((b * R + r) * T) → ∃ hh', L_Hull_build_41 N f (nI b) (nI r) hh = some hh' ∧ hh' 0 4 = nI ((b + 1) * R * T) ∧ Bd hh' R T ((b + 1) * R * T) ∧ BdF hh hh' := by
  intro m
  induction m with
  | zero =>
    intro r f hh h1 h2 h3 h4 h5 h6
    obtain ⟨f, rfl⟩ : ∃ y, f = y + 1 := ⟨f - 1, by omega⟩
    have et : r = R := by omega
    subst et
    rw [show b * r + r = (b + 1) * r from (Nat.succ_mul b r).symm] at h5 h6
    rw [L_Hull_build_41, h3, if_pos (Int32.le_refl _)]
    exact ⟨hh, rfl, h5, h6, fun _ _ => rfl, fun _ _ => rfl⟩
  | succ m ih =>
    intro r f hh h1 h2 h3 h4 h5 h6
    obtain ⟨f, rfl⟩ : ∃ y, f = y + 1 := ⟨f - 1, by omega⟩
    have hr : r < R := by omega
    have zb : (b * R + r) / R = b := by rw [Nat.mul_comm, Nat.mul_add_div (by omega), Nat.div_eq_of_lt hr, Nat.add_zero]
    have zr : (b * R + r) % R = r := by rw [Nat.mul_comm, Nat.mul_add_mod, Nat.mod_eq_of_lt hr]
    have e1 : (b * R + r) * T + T = (b * R + (r + 1)) * T := (Nat.succ_mul (b * R + r) T).symm
    have zl : (b * R + r) * T + T ≤ 144 := by
      rw [e1]
      refine Nat.le_trans (Nat.mul_le_mul_right T ?_) hz
      rw [Nat.succ_mul]
      omega
    have hT1 : T ≤ 144 := by omega
    obtain ⟨h9, x1, x2, x3, x4⟩ := bd_53 (N := N) hT zb zr zl hb (by omega) T 0 N hh (by omega) (by omega) h4 h5 h6
    rw [e1] at x2 x3
    obtain ⟨h8, y1, y2, y3, y4⟩ := ih (r + 1) f h9 (by omega) (by omega) (by rw [x4.1 1 (by omega)]; exact h3) (by rw [x4.1 2 (by omega), x4.1 3 (by omega)]; exact h4) x2 x3
    refine ⟨h8, ?_, y2, y3, BdF.tr x4 y4⟩
    rw [show nI 0 = (0 : Int32) from rfl] at x1
    rw [L_Hull_build_41, h3, if_neg (nI_ge hr (by omega)), x1, bind_sn, nI_1]
    exact y1
theorem bd_29 {T : Nat} (hT : 1 ≤ T) (hR : 1 ≤ R) (hz : B * R * T ≤ 144) (hB : B ≤ 6) (hR4 : R ≤ 4) (hN : 200 ≤ N) : ∀ (m b f : Nat) (hh : HH), b + m = B → m < f → hh 0 0 = nI B → hh 0 1 = nI R → hh 0 2 + hh 0 3 = nI T → hh 0 4 = nI (b * R * T) → Bd hh R T (b * R * T) → ∃ hh', L_Hull_build_29 N f (nI b) hh = some hh' ∧ hh' 0 4 = nI (B * R * T) ∧ Bd hh' R T (B * R * T) ∧ BdF hh hh' := by
  intro m
  induction m with
  | zero =>
    intro b f hh h1 h2 h0 h3 h4 h5 h6
    obtain ⟨f, rfl⟩ : ∃ y, f = y + 1 := ⟨f - 1, by omega⟩
    have et : b = B := by omega
    subst et
    rw [L_Hull_build_29, h0, if_pos (Int32.le_refl _)]
    exact ⟨hh, rfl, h5, h6, fun _ _ => rfl, fun _ _ => rfl⟩
  | succ m ih =>
    intro b f hh h1 h2 h0 h3 h4 h5 h6
    obtain ⟨f, rfl⟩ : ∃ y, f = y + 1 := ⟨f - 1, by omega⟩
    have zl : (b + 1) * R * T ≤ 144 := Nat.le_trans (Nat.mul_le_mul_right T (Nat.mul_le_mul_right R (by omega))) hz
    obtain ⟨h9, x1, x2, x3, x4⟩ := bd_41 (N := N) (b := b) hT hR zl (by omega) hR4 hN R 0 N hh (by omega) (by omega) h3 h4 h5 h6
    obtain ⟨h8, y1, y2, y3, y4⟩ := ih (b + 1) f h9 (by omega) (by omega) (by rw [x4.1 0 (by omega)]; exact h0) (by rw [x4.1 1 (by omega)]; exact h3) (by rw [x4.1 2 (by omega), x4.1 3 (by omega)]; exact h4) x2 x3
    refine ⟨h8, ?_, y2, y3, BdF.tr x4 y4⟩
    rw [show nI 0 = (0 : Int32) from rfl] at x1
    rw [L_Hull_build_29, h0, if_neg (nI_ge (by omega) (by omega)), x1, bind_sn, nI_1]
    exact y1
theorem build_ok (hh : HH) (hB1 : 1 ≤ B) (hB : B ≤ 6) (hR1 : 1 ≤ R) (hR : R ≤ 4) (hH : H ≤ 3) (hD : D ≤ 3) (hT : 1 ≤ H + D) (hN : 200 ≤ N) : ∃ hh', F_Hull_build N (nI B) (nI R) (nI H) (nI D) hh = some hh' ∧ (hh' 0 0 = nI B ∧ hh' 0 1 = nI R ∧ hh' 0 2 = nI H ∧ hh' 0 3 = nI D ∧ hh' 0 4 = nI (plN B R H D)) ∧ (∀ j, 5 ≤ j → hh' 0 j = hh 0 j) ∧ (∀ r, 4 ≤ r → hh' r = hh r) ∧ ∀ p, p < plN B R H D → hh' 1 p = nI (p / (H + D) / R) ∧ hh' 2 p = nI (p / (H + D) % R) ∧ hh' 3 p = nI (p % (H + D)) := by
  obtain ⟨h5, e5⟩ : ∃ h5, h5 = ss (ss (ss (ss (ss hh 0 (nI B)) 1 (nI R)) 2 (nI H)) 3 (nI D)) 4 0 := ⟨_, rfl⟩
  have f : ∀ j, h5 0 j = if j = 4 then 0 else if j = 3 then nI D else if j = 2 then nI H else if j = 1 then nI R else if j = 0 then nI B else hh 0 j := fun j => by
    rw [e5, pu_ss, if_pos rfl, pu_ss, if_pos rfl, pu_ss, if_pos rfl, pu_ss, if_pos rfl, pu_ss, if_pos rfl]
  have fr : ∀ r, r ≠ 0 → h5 r = hh r := fun r h => by
    rw [e5, pu_ssr, if_neg h, pu_ssr, if_neg h, pu_ssr, if_neg h, pu_ssr, if_neg h, pu_ssr, if_neg h]
  have q1 : B * R ≤ 6 * 4 := Nat.mul_le_mul hB hR
  have q2 : B * R * (H + D) ≤ 24 * 6 := Nat.mul_le_mul q1 (by omega)
  obtain ⟨h6, x1, x2, x3, x4⟩ := bd_29 (N := N) (T := H + D) (R := R) hT hR1 q2 hB hR hN B 0 N h5 (by omega) (by omega) (f 0) (f 1) (by rw [f 2, f 3]; exact nI_add H D) (by rw [f 4, Nat.zero_mul, Nat.zero_mul]; rfl) (by intro q hq; rw [Nat.zero_mul, Nat.zero_mul] at hq; omega)
  refine ⟨h6, ?_, ⟨(x4.1 0 (by omega)).trans (f 0), (x4.1 1 (by omega)).trans (f 1), (x4.1 2 (by omega)).trans (f 2), (x4.1 3 (by omega)).trans (f 3), x2⟩, fun j hj => ?_, fun r hr => ?_, x3⟩
  · rw [show nI 0 = (0 : Int32) from rfl] at x1
    unfold F_Hull_build
    simp only [pu_letn]
    rw [← e5, x1, bind_sn]
  · rw [x4.1 j (by omega), f, if_neg (by omega), if_neg (by omega), if_neg (by omega), if_neg (by omega), if_neg (by omega)]
  · rw [x4.2 r hr, fr r (by omega)]
end BLD
