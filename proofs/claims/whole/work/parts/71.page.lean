/-! ===== pure: what is written ===== -/
def PgR (hp g : HH) (t : Nat) : Prop := t ≤ 60 ∧ hp 0 0 = nI t ∧ g 0 46 = nI t ∧ ∀ i, i < t → hp 1 i = g 22 i
def Un (g g' : HH) : Prop := (∀ r, r ≠ 0 → r ≠ 22 → g' r = g r) ∧ ∀ i, i ≠ 46 → g' 0 i = g 0 i
theorem Un.refl (g : HH) : Un g g := ⟨fun _ _ _ => rfl, fun _ _ => rfl⟩
theorem Un.tr {a b c : HH} (h1 : Un a b) (h2 : Un b c) : Un a c := ⟨fun r r0 r22 => by rw [h2.1 r r0 r22, h1.1 r r0 r22], fun i hi => by rw [h2.2 i hi, h1.2 i hi]⟩
theorem bind_sn {α β : Type} (a : α) (f : α → Option β) : Option.bind (some a) f = f a := Eq.trans rfl rfl
theorem pu_letn {α β : Type} (x : α) (f : α → β) : sv_let x f = f x := Eq.trans rfl rfl
section PAGE
variable {k k' : KS} {g g' : HH} {hy hv hh hr hc hp : HH} {B R H D K n o N N' t : Nat}
theorem VS.un (V : VS hh hr hc g B R H D K n o) (u : Un g g') : VS hh hr hc g' B R H D K n o := V.cg (u.1 1 (by omega) (by omega)) (u.2 6 (by omega)) (u.1 4 (by omega) (by omega)) (u.1 5 (by omega) (by omega)) (u.1 6 (by omega) (by omega)) (u.1 7 (by omega) (by omega)) (u.1 8 (by omega) (by omega))
theorem say_ok (P : PgR hp g t) (ht : t < 60) {x : Nat} (hx : x < 128) : ∃ g', F_Mo_says N (nI x) g = some g' ∧ PgR (F_Page_append (nI x) hp) g' (t + 1) ∧ Un g g' := by
  obtain ⟨p1, p2, p3, p4⟩ := P
  unfold F_Mo_says
  rw [pk_vb, pu_small hx, p3, if_pos (pu_in ht (by omega))]
  simp only [pu_let]
  refine ⟨_, rfl, ⟨by omega, ?_, ?_, ?_⟩, ?_, ?_⟩
  · unfold F_Page_append; simp only [pu_let]; rw [pu_ss, if_pos rfl, if_pos rfl, pu_sw, if_neg (by omega), p2, nI_1]
  · rw [pu_ss, if_pos rfl, if_pos rfl, pu_sa, if_neg (by omega), p3, nI_1]
  · intro i hi
    unfold F_Page_append; simp only [pu_let]
    rw [pu_ssr, if_neg (by omega), pu_ssr, if_neg (by omega), pu_sw, if_pos rfl, pu_sa, if_pos rfl, p2, pu_wr _ _ (by omega) (by omega), nI_clamp (by omega), pu_upd, pu_upd]
    by_cases e : i = t
    · rw [if_pos e, if_pos e]
    · rw [if_neg e, if_neg e]; exact p4 i (by omega)
  · intro r r0 r22; rw [pu_ssr, if_neg r0, pu_sa, if_neg r22]
  · intro i hi; rw [pu_ss, if_pos rfl, if_neg hi, pu_sa, if_neg (by omega)]
theorem dg {v : Nat} (hv : v < 2 ^ 31) : nI v - nI v / 10 * 10 = nI (v % 10) := pk_rem (d := 10) hv (by omega) (by omega)
theorem nm_1 {v : Nat} (hv : v < 1000) : nI v / 1 = nI v := by
  have := pk_div (a := v) (d := 1) (by omega) (by omega) (by omega)
  rw [Nat.div_one] at this; exact this
theorem nm_10 {v : Nat} (hv : v < 1000) : nI v / 10 = nI (v / 10) := pk_div (a := v) (d := 10) (by omega) (by omega) (by omega)
theorem nm_100 {v : Nat} (hv : v < 1000) : nI v / 100 = nI (v / 100) := pk_div (a := v) (d := 100) (by omega) (by omega) (by omega)
theorem nm_48 (x : Nat) : (48 : Int32) + nI x = nI (48 + x) := nI_add 48 x
theorem nm_l10 {x : Nat} (hx : x < 1000) : nI x < 10 ↔ x < 10 := nI_ltI (a := x) (b := 10) (by omega) (by omega)
theorem nm_l100 {x : Nat} (hx : x < 1000) : nI x < 100 ↔ x < 100 := nI_ltI (a := x) (b := 100) (by omega) (by omega)
theorem nq_e (f : Nat) (x : Int32) (g : HH) : L_Mo_saysNumber_18 N (f + 1) x 0 g = some g := by
  rw [L_Mo_saysNumber_18, if_pos (Int32.le_refl _)]
theorem nm_q1 : (1 : Int32) / 10 = 0 := by decide
theorem nm_q10 : (10 : Int32) / 10 = 1 := by decide
theorem nm_q100 : (100 : Int32) / 10 = 10 := by decide
theorem nm_z10 : ¬ (10 : Int32) = 0 := by decide
theorem nm_z100 : ¬ (100 : Int32) = 0 := by decide
theorem nm_p1 : ¬ (1 : Int32) ≤ 0 := by decide
theorem nm_p10 : ¬ (10 : Int32) ≤ 0 := by decide
theorem nm_p100 : ¬ (100 : Int32) ≤ 0 := by decide
theorem nm_m1 : (1 : Int32) * 10 = 10 := by decide
theorem nm_m10 : (10 : Int32) * 10 = 100 := by decide
/-- a digit is said -/
theorem nm_s {f v : Nat} (x : Int32) (d : Nat) (hx : ¬ x = 0) (hp : ¬ x ≤ 0) (e : nI v / x = nI d) (hd : d < 1000) : L_Mo_saysNumber_18 N (f + 1) (nI v) x g = Option.bind (F_Mo_says N (nI (48 + d % 10)) g) fun v6 => L_Mo_saysNumber_18 N f (nI v) (x / 10) v6 := by
  rw [L_Mo_saysNumber_18, if_neg hp, if_pos hx, e, dg (by omega), nm_48]
theorem num_1 (P : PgR hp g t) (ht : t + 3 ≤ 60) {v : Nat} (h1 : v < 10) (hN : 10 ≤ N) : ∃ g' t', F_Mo_saysNumber N (nI v) g = some g' ∧ PgR (F_Page_appendNumber (nI v) hp) g' t' ∧ t' ≤ t + 3 ∧ Un g g' := by
  obtain ⟨f, hf⟩ : ∃ z, N = z + 5 := ⟨N - 5, by omega⟩
  have e2 : L_Mo_saysNumber_2 N (f + 5) (nI v) 1 = some 1 := by
    rw [L_Mo_saysNumber_2, if_pos pu_10, nm_1 (by omega), if_pos ((nm_l10 (by omega)).mpr h1)]
  obtain ⟨g1, s1, P1, u1⟩ := say_ok (N := N) P (by omega) (x := 48 + v % 10) (by omega)
  have e3 : L_Mo_saysNumber_18 N (f + 5) (nI v) 1 g = some g1 := by
    rw [nm_s 1 v pu_10 nm_p1 (nm_1 (by omega)) (by omega), s1]
    simp only [Option.bind_some]
    rw [nm_q1, nq_e]
  refine ⟨g1, t + 1, ?_, ?_, by omega, u1⟩
  · unfold F_Mo_saysNumber
    rw [← hf] at e2 e3
    rw [e2]
    simp only [Option.bind_some]
    rw [e3]
    simp only [Option.bind_some]
  · unfold F_Page_appendNumber
    simp only [pu_letn]
    rw [if_pos ((nm_l100 (by omega)).mpr (by omega)), if_pos ((nm_l10 (by omega)).mpr h1), dg (by omega), nm_48]
    exact P1
theorem nk_2 {v : Nat} (h1 : 10 ≤ v) (h2 : v < 100) : F_Page_appendNumber (nI v) hp = F_Page_append (nI (48 + v % 10)) (F_Page_append (nI (48 + v / 10 % 10)) hp) := by
  have n10 : ¬ nI v < 10 := fun z => by have := (nm_l10 (x := v) (by omega)).mp z; omega
  have p100 : nI v < 100 := (nm_l100 (by omega)).mpr h2
  unfold F_Page_appendNumber
  simp only [pu_letn, if_pos p100, if_neg n10]
  rw [dg (v := v) (by omega), nm_10 (by omega), dg (v := v / 10) (by omega), nm_48, nm_48]
theorem nk_3 {v : Nat} (h1 : 100 ≤ v) (h2 : v < 1000) : F_Page_appendNumber (nI v) hp = F_Page_append (nI (48 + v % 10)) (F_Page_append (nI (48 + v / 10 % 10)) (F_Page_append (nI (48 + v / 100)) hp)) := by
  have n10 : ¬ nI v < 10 := fun z => by have := (nm_l10 (x := v) (by omega)).mp z; omega
  have n100 : ¬ nI v < 100 := fun z => by have := (nm_l100 (x := v) (by omega)).mp z; omega
  unfold F_Page_appendNumber
  simp only [pu_letn, if_neg n100, if_neg n10]
  rw [dg (v := v) (by omega), nm_10 (by omega), nm_100 (by omega), dg (v := v / 10) (by omega), nm_48, nm_48, nm_48]
theorem nt_2 {f v : Nat} (h1 : 10 ≤ v) (h2 : v < 100) : L_Mo_saysNumber_2 N (f + 5) (nI v) 1 = some 10 := by
  have n10 : ¬ nI v < 10 := fun z => by have := (nm_l10 (x := v) (by omega)).mp z; omega
  rw [L_Mo_saysNumber_2, if_pos pu_10, nm_1 (by omega), if_neg n10, nm_m1, L_Mo_saysNumber_2, if_pos nm_z10, nm_10 (by omega), if_pos ((nm_l10 (by omega)).mpr (by omega))]
theorem nt_3 {f v : Nat} (h1 : 100 ≤ v) (h2 : v < 1000) : L_Mo_saysNumber_2 N (f + 5) (nI v) 1 = some 100 := by
  have n10 : ¬ nI v < 10 := fun z => by have := (nm_l10 (x := v) (by omega)).mp z; omega
  have n10' : ¬ nI (v / 10) < 10 := fun z => by have := (nm_l10 (x := v / 10) (by omega)).mp z; omega
  rw [L_Mo_saysNumber_2, if_pos pu_10, nm_1 (by omega), if_neg n10, nm_m1, L_Mo_saysNumber_2, if_pos nm_z10, nm_10 (by omega), if_neg n10', nm_m10, L_Mo_saysNumber_2, if_pos nm_z100, nm_100 (by omega), if_pos ((nm_l10 (by omega)).mpr (by omega))]
theorem num_2a (P : PgR hp g t) (ht : t + 3 ≤ 60) {v : Nat} (h2 : v < 100) : ∃ g1 g2, F_Mo_says N (nI (48 + v / 10 % 10)) g = some g1 ∧ F_Mo_says N (nI (48 + v % 10)) g1 = some g2 ∧ PgR (F_Page_append (nI (48 + v % 10)) (F_Page_append (nI (48 + v / 10 % 10)) hp)) g2 (t + 2) ∧ Un g g2 := by
  obtain ⟨g1, s1, P1, u1⟩ := say_ok (N := N) P (by omega) (x := 48 + v / 10 % 10) (by omega)
  obtain ⟨g2, s2, P2, u2⟩ := say_ok (N := N) P1 (by omega) (x := 48 + v % 10) (by omega)
  exact ⟨g1, g2, s1, s2, P2, u1.tr u2⟩
theorem num_2b {f v : Nat} {g1 g2 : HH} (h2 : v < 100) (s1 : F_Mo_says N (nI (48 + v / 10 % 10)) g = some g1) (s2 : F_Mo_says N (nI (48 + v % 10)) g1 = some g2) : L_Mo_saysNumber_18 N (f + 5) (nI v) 10 g = some g2 := by
  have e3 := nm_s (N := N) (g := g) (f := f + 4) (v := v) 10 (v / 10) nm_z10 nm_p10 (nm_10 (by omega)) (by omega)
  have e4 := nm_s (N := N) (g := g1) (f := f + 3) (v := v) 1 v pu_10 nm_p1 (nm_1 (by omega)) (by omega)
  rw [s1, nm_q10, bind_sn] at e3
  rw [s2, nm_q1, bind_sn, nq_e] at e4
  rw [e3, e4]
theorem num_2 (P : PgR hp g t) (ht : t + 3 ≤ 60) {v : Nat} (h1 : 10 ≤ v) (h2 : v < 100) (hN : 10 ≤ N) : ∃ g' t', F_Mo_saysNumber N (nI v) g = some g' ∧ PgR (F_Page_appendNumber (nI v) hp) g' t' ∧ t' ≤ t + 3 ∧ Un g g' := by
  obtain ⟨f, hf⟩ : ∃ z, N = z + 5 := ⟨N - 5, by omega⟩
  have e2 := nt_2 (N := N) (f := f) h1 h2
  obtain ⟨g1, g2, s1, s2, P2, u⟩ := num_2a (N := N) P ht h2
  have e3 := num_2b (N := N) (f := f) h2 s1 s2
  rw [← hf] at e2 e3
  rw [nk_2 h1 h2]
  refine ⟨g2, t + 2, ?_, P2, by omega, u⟩
  unfold F_Mo_saysNumber
  rw [e2]
  simp only [Option.bind_some]
  rw [e3]
  simp only [Option.bind_some]
theorem num_3 (P : PgR hp g t) (ht : t + 3 ≤ 60) {v : Nat} (h1 : 100 ≤ v) (h2 : v < 1000) (hN : 10 ≤ N) : ∃ g' t', F_Mo_saysNumber N (nI v) g = some g' ∧ PgR (F_Page_appendNumber (nI v) hp) g' t' ∧ t' ≤ t + 3 ∧ Un g g' := by
  obtain ⟨f, hf⟩ : ∃ z, N = z + 5 := ⟨N - 5, by omega⟩
  have e2 := nt_3 (N := N) (f := f) h1 h2
  have em : v / 100 % 10 = v / 100 := Nat.mod_eq_of_lt (by omega)
  obtain ⟨g1, s1, P1, u1⟩ := say_ok (N := N) P (by omega) (x := 48 + v / 100) (by omega)
  obtain ⟨g2, s2, P2, u2⟩ := say_ok (N := N) P1 (by omega) (x := 48 + v / 10 % 10) (by omega)
  obtain ⟨g3, s3, P3, u3⟩ := say_ok (N := N) P2 (by omega) (x := 48 + v % 10) (by omega)
  have e3 := nm_s (N := N) (g := g) (f := f + 4) (v := v) 100 (v / 100) nm_z100 nm_p100 (nm_100 (by omega)) (by omega)
  have e4 := nm_s (N := N) (g := g1) (f := f + 3) (v := v) 10 (v / 10) nm_z10 nm_p10 (nm_10 (by omega)) (by omega)
  have e5 := nm_s (N := N) (g := g2) (f := f + 2) (v := v) 1 v pu_10 nm_p1 (nm_1 (by omega)) (by omega)
  rw [em, s1, nm_q100, bind_sn] at e3
  rw [s2, nm_q10, bind_sn] at e4
  rw [s3, nm_q1, bind_sn, nq_e] at e5
  rw [nk_3 h1 h2]
  refine ⟨g3, t + 1 + 1 + 1, ?_, P3, by omega, (u1.tr u2).tr u3⟩
  unfold F_Mo_saysNumber
  have hf' : f + 4 + 1 = N := by omega
  rw [hf'] at e3
  rw [← hf] at e2
  rw [e2]
  simp only [Option.bind_some]
  rw [e3, e4, e5]
  simp only [Option.bind_some]
theorem num_ok (P : PgR hp g t) (ht : t + 3 ≤ 60) {v : Nat} (hv : v < 1000) (hN : 10 ≤ N) : ∃ g' t', F_Mo_saysNumber N (nI v) g = some g' ∧ PgR (F_Page_appendNumber (nI v) hp) g' t' ∧ t' ≤ t + 3 ∧ Un g g' := by
  rcases Nat.lt_or_ge v 10 with h1 | h1
  · exact num_1 P ht h1 hN
  rcases Nat.lt_or_ge v 100 with h2 | h2
  · exact num_2 P ht h1 h2 hN
  · exact num_3 P ht h2 hv hN
/-- all but what is written is as it was -/
theorem Inv_pg (I : Inv k g) (P : PgR hp g' t) (u : Un g g') : Inv (ku k 5 hp) g' := by
  obtain ⟨h1, h0⟩ := u
  refine ⟨⟨?_, ?_, ⟨t, P.1, ?_, P.2.2.1, ?_⟩⟩, ?_⟩
  · simp only [pu_ku]
    rw [h0 14 (by omega), h1 9 (by omega) (by omega)]
    exact I.1.1
  · simp only [pu_ku]
    rw [h0 20 (by omega), h0 21 (by omega)]
    exact I.1.2.1
  · simp only [pu_ku]; exact P.2.1
  · simp only [pu_ku]; exact P.2.2.2
  · rcases I.2 with J | ⟨B, R, H, D, K, n, o, J⟩
    · left
      unfold InvN at *
      simp only [pu_ku]
      rw [h0 1 (by omega), h0 6 (by omega), h0 22 (by omega), h1 1 (by omega) (by omega)]
      exact J
    · right
      refine ⟨B, R, H, D, K, n, o, ?_⟩
      have hn := J.2.2.1.nn
      refine ⟨?_, ?_, ?_, ?_, ?_, ?_, ?_, ?_⟩
      · simp only [pu_ku]; exact J.1
      · rw [h0 1 (by omega)]; exact J.2.1
      · simp only [pu_ku]
        exact J.2.2.1.un ⟨h1, h0⟩
      · rw [h0 11 (by omega)]; exact J.2.2.2.1
      · unfold NoH; rw [h1 8 (by omega) (by omega)]; exact J.2.2.2.2.1
      · simp only [pu_ku]
        exact HiR_c hn J.2.2.2.2.2.1 (Nat.le_refl _) (h0 22 (by omega)) (h1 10 (by omega) (by omega)) (h1 1 (by omega) (by omega)) (fun b _ => by rw [h1 4 (by omega) (by omega), h1 5 (by omega) (by omega), h1 6 (by omega) (by omega)]; exact ⟨rfl, rfl, rfl⟩)
      · simp only [pu_ku]
        exact ToR_c J.2.2.2.2.2.2.1 (h0 32 (by omega)) (h1 14 (by omega) (by omega)) (h1 15 (by omega) (by omega))
      · simp only [pu_ku]
        exact ShR_c J.2.2.2.2.2.2.2 (h0 37 (by omega)) (h1 16 (by omega) (by omega))
theorem pg_0 : PgR (ss hp 0 0) (ss g 46 0) 0 ∧ Un g (ss g 46 0) := by
  refine ⟨⟨by omega, ?_, ?_, fun i hi => by omega⟩, fun r r0 _ => by rw [pu_ssr, if_neg r0], fun i hi => by rw [pu_ss, if_pos rfl, if_neg hi]⟩
  · rw [pu_ss, if_pos rfl, if_pos rfl]; rfl
  · rw [pu_ss, if_pos rfl, if_pos rfl]; rfl
/-- what box() says, over a state that differs in what is written alone -/
theorem Mo_boxv (V : VS hh hr hc g B R H D K n o) {b : Nat} (hb : b < n) {i : Nat} (hi : i < 4) : F_Mo_box N (nI b) (nI i) g = some (if i = 0 then g 4 b else if i = 1 then g 5 b else if i = 2 then g 6 b else g 7 b) := by
  have hn := V.nn
  have h4 : F_Mo_isBox (nI b) g = 1 := by unfold F_Mo_isBox; rw [pu_in0, V.n6]; exact w_yes hb (by omega)
  have hin : sv_in (nI b) 24 := pu_in (by omega) (by omega)
  have w3 : F_Mo_in (nI i).toInt64 0 3 = 1 := by
    have : F_Mo_in (nI i).toInt64 0 3 = F_K_within (nI i) 0 3 := pu_inw _ 0 3
    rw [this]; exact w_yes (a := i) (n := 4) hi (by omega)
  unfold F_Mo_box
  simp only [if_pos hin]
  rw [h4, if_neg pu_10, w3, if_pos pu_10, nI_clamp (by omega)]
  have : i = 0 ∨ i = 1 ∨ i = 2 ∨ i = 3 := by omega
  rcases this with rfl | rfl | rfl | rfl <;> rfl
/-- the words of a box, in their order -/
theorem lab_K (V : VS hh hr hc g B R H D K n o) {b : Nat} (hb : b < n) {kd w tt : Nat} (k4 : F_Cargo_kindOf (nI b) hc = nI kd) (k5 : F_Cargo_weightOf (nI b) hc = nI w) (k6 : F_Cargo_portOf (nI b) hc = nI tt) (k7 : F_Cargo_placeOf (nI b) hc = g 7 b) {h1 h2 h3 h4 h5 h6 h7 h8 : HH} (e1 : F_Page_append (nI (97 + b)) (ss hp 0 0) = h1) (e2 : F_Page_append (nI 32) h1 = h2) (e3 : F_Page_appendNumber (nI kd) h2 = h3) (e4 : F_Page_append (nI 32) h3 = h4) (e5 : F_Page_appendNumber (nI w) h4 = h5) (e6 : F_Page_append (nI 32) h5 = h6) (e7 : F_Page_appendNumber (nI tt) h6 = h7) (e8 : F_Page_append (nI 32) h7 = h8) : F_Page_writeBox (nI b) hp hc = if g 7 b = -1 then F_Page_append (nI 45) h8 else F_Page_appendNumber (g 7 b) h8 := by
  unfold F_Page_writeBox
  simp only [pu_letn]
  rw [show (32 : Int32) = nI 32 from rfl, show (45 : Int32) = nI 45 from rfl, k4, k5, k6, k7, show (97 : Int32) + nI b = nI (97 + b) from nI_add 97 b, e1, e2, e3, e4, e5, e6, e7, e8, V.lies hb]
  by_cases c : g 7 b = -1
  · rw [if_pos c, if_pos c, if_pos rfl]
  · rw [if_neg c, if_neg c, if_neg pu_10]
theorem lab_u {ga gb : HH} {x : Int32} (hs : F_Mo_says N x ga = some gb) : Un ga gb := by
  unfold F_Mo_says at hs
  by_cases c : sv_in (ga 0 46) 60
  · rw [if_pos c] at hs
    simp only [pu_let] at hs
    cases hs
    exact ⟨fun r r0 r22 => by rw [pu_ssr, if_neg r0, pu_sa, if_neg r22], fun i hi => by rw [pu_ss, if_pos rfl, if_neg hi, pu_sa, if_neg (by omega)]⟩
  · rw [if_neg c] at hs; cases hs
/-- one word of the reference -/
theorem lab_M (V : VS hh hr hc g B R H D K n o) {b : Nat} (hb : b < n) {f i v : Nat} {ga gb gc : HH} (hi : i < 4) (u : Un g ga) (hv : (if i = 0 then g 4 b else if i = 1 then g 5 b else if i = 2 then g 6 b else g 7 b) = nI v) (hv2 : v < 1000) (s1 : F_Mo_says N (nI 32) ga = some gb) (s2 : F_Mo_saysNumber N (nI v) gb = some gc) : L_Mo_label_26 N (f + 1) (nI b) (nI i) ga = L_Mo_label_26 N f (nI b) (nI (i + 1)) gc := by
  have h4' : ¬ (4 : Int32) ≤ nI i := nI_ge (a := i) (b := 4) (by omega) (by omega)
  have U := u.tr (lab_u s1)
  have e := Mo_boxv (N := N) (V.un U) hb hi
  rw [U.1 4 (by omega) (by omega), U.1 5 (by omega) (by omega), U.1 6 (by omega) (by omega), U.1 7 (by omega) (by omega), hv] at e
  rw [L_Mo_label_26, if_neg h4', nI_1, show (32 : Int32) = nI 32 from rfl, s1]
  simp only [Option.bind_some]
  rw [e]
  simp only [Option.bind_some]
  rw [if_pos (pu_m1 (by omega)), s2]
  simp only [Option.bind_some]
theorem lab_M1 (V : VS hh hr hc g B R H D K n o) {b : Nat} (hb : b < n) {f : Nat} {ga gb gc : HH} (u : Un g ga) (hv : g 7 b = -1) (s1 : F_Mo_says N (nI 32) ga = some gb) (s2 : F_Mo_says N (nI 45) gb = some gc) : L_Mo_label_26 N (f + 1) (nI b) (nI 3) ga = L_Mo_label_26 N f (nI b) (nI (3 + 1)) gc := by
  have h4' : ¬ (4 : Int32) ≤ nI 3 := by decide
  have U := u.tr (lab_u s1)
  have e := Mo_boxv (N := N) (V.un U) hb (i := 3) (by omega)
  rw [if_neg (by omega), if_neg (by omega), if_neg (by omega), U.1 7 (by omega) (by omega), hv] at e
  rw [L_Mo_label_26, if_neg h4', nI_1, show (32 : Int32) = nI 32 from rfl, show (45 : Int32) = nI 45 from rfl, s1]
  simp only [Option.bind_some]
  rw [e]
  simp only [Option.bind_some]
  simp only [not_true, if_false]
  rw [s2]
  simp only [Option.bind_some]
theorem lab_e {f b : Nat} {ga : HH} : L_Mo_label_26 N (f + 1) (nI b) (nI (3 + 1)) ga = some ga := by
  rw [L_Mo_label_26, if_pos (by decide)]
theorem lab_ok (V : VS hh hr hc g B R H D K n o) {b : Nat} (hb : b < n) (hN : 10 ≤ N) : ∃ g' t', Option.bind (F_Mo_says N (nI (97 + b)) (ss g 46 0)) (fun v3 => L_Mo_label_26 N N (nI b) (nI 0) v3) = some g' ∧ PgR (F_Page_writeBox (nI b) hp hc) g' t' ∧ Un g g' := by
  have hn := V.nn
  have hP := V.pp
  have hK := V.kk
  obtain ⟨f, hf⟩ : ∃ z, N = z + 5 := ⟨N - 5, by omega⟩
  obtain ⟨kd, w, tt, k1, k2, -, w99, g5, -, t5, g6, k4, k5, k6, k7⟩ := V.box hb
  obtain ⟨P0, u0⟩ := pg_0 (hp := hp) (g := g)
  obtain ⟨g1, s1, P1, u1⟩ := say_ok (N := N) P0 (by omega) (x := 97 + b) (by omega)
  generalize e1 : F_Page_append (nI (97 + b)) (ss hp 0 0) = h1 at P1
  obtain ⟨g2, s2, P2, u2⟩ := say_ok (N := N) P1 (by omega) (x := 32) (by omega)
  generalize e2 : F_Page_append (nI 32) h1 = h2 at P2
  obtain ⟨g3, t3, s3, P3, l3, u3⟩ := num_ok (N := N) P2 (by omega) (v := kd) (by omega) hN
  generalize e3 : F_Page_appendNumber (nI kd) h2 = h3 at P3
  obtain ⟨g4, s4, P4, u4⟩ := say_ok (N := N) P3 (by omega) (x := 32) (by omega)
  generalize e4 : F_Page_append (nI 32) h3 = h4 at P4
  obtain ⟨g5', t5', s5, P5, l5, u5⟩ := num_ok (N := N) P4 (by omega) (v := w) (by omega) hN
  generalize e5 : F_Page_appendNumber (nI w) h4 = h5 at P5
  obtain ⟨g6', s6, P6, u6⟩ := say_ok (N := N) P5 (by omega) (x := 32) (by omega)
  generalize e6 : F_Page_append (nI 32) h5 = h6 at P6
  obtain ⟨g7, t7, s7, P7, l7, u7⟩ := num_ok (N := N) P6 (by omega) (v := tt) (by omega) hN
  generalize e7 : F_Page_appendNumber (nI tt) h6 = h7 at P7
  obtain ⟨g8, s8, P8, u8⟩ := say_ok (N := N) P7 (by omega) (x := 32) (by omega)
  generalize e8 : F_Page_append (nI 32) h7 = h8 at P8
  have U1 := u0.tr u1
  have U3 := (U1.tr u2).tr u3
  have U5 := (U3.tr u4).tr u5
  have U7 := (U5.tr u6).tr u7
  have U8 := U7.tr u8
  have eK := lab_K (hp := hp) V hb k4 k5 k6 k7 e1 e2 e3 e4 e5 e6 e7 e8
  have m0 := lab_M (N := N) (f := f + 4) (i := 0) (v := kd) V hb (by omega) U1 (by rw [if_pos rfl, k2]) (by omega) s2 s3
  have m1 := lab_M (N := N) (f := f + 3) (i := 1) (v := w) V hb (by omega) U3 (by rw [if_neg (by omega), if_pos rfl, g5]) (by omega) s4 s5
  have m2 := lab_M (N := N) (f := f + 2) (i := 2) (v := tt) V hb (by omega) U5 (by rw [if_neg (by omega), if_neg (by omega), if_pos rfl, g6]) (by omega) s6 s7
  rw [eK, s1]
  simp only [Option.bind_some]
  have hN5 : N = f + 4 + 1 := by omega
  rcases V.plc hb with p0 | ⟨p, hp', p0, -⟩
  · obtain ⟨g9, s9, P9, u9⟩ := say_ok (N := N) P8 (by omega) (x := 45) (by omega)
    have m3 := lab_M1 (N := N) (f := f + 1) V hb U7 p0 s8 s9
    rw [if_pos p0]
    refine ⟨g9, _, ?_, P9, U8.tr u9⟩
    rw [← hN5] at m0
    rw [m0, m1, m2, m3, lab_e]
  · obtain ⟨g9, t9, s9, P9, l9, u9⟩ := num_ok (N := N) P8 (by omega) (v := p) (by omega) hN
    have m3 := lab_M (N := N) (f := f + 1) (i := 3) (v := p) V hb (by omega) U7 (by rw [if_neg (by omega), if_neg (by omega), if_neg (by omega), p0]) (by omega) s8 s9
    rw [p0, if_neg (pu_m1 (by omega))]
    refine ⟨g9, _, ?_, P9, U8.tr u9⟩
    rw [← hN5] at m0
    rw [m0, m1, m2, m3, lab_e]
theorem sim_51 : Sim_51 Inv := by
  intro a1 k g I
  rcases i_box I a1 with ⟨B, R, H, D, K, n, o, b, J, h1, h2, h3, h4⟩ | ⟨h3, h4⟩
  case inr =>
    refine ⟨30, 30, -2, k, g, ?_, ?_, I⟩
    · unfold KO_51 F_K_label; rw [h3]; show some (-2, ku k 5 (k 5)) = _; rw [ku_self]
    · unfold MO_51 F_Mo_label; rw [h4]; rfl
  subst h2
  obtain ⟨g9, t9, e, P9, U9⟩ := lab_ok (N := 30) (hp := k 5) J.2.2.1 h1 (by omega)
  refine ⟨30, 30, nI t9, ku k 5 (F_Page_writeBox (nI b) (k 5) (k 11)), g9, ?_, ?_, Inv_pg I P9 U9⟩
  · unfold KO_51 F_K_label
    rw [h3, if_pos pu_10]
    simp only [pu_let, Option.map_some]
    rw [P9.2.1]
  · unfold MO_51 F_Mo_label
    rw [h4, if_pos pu_10]
    simp only [pu_let]
    rw [show (97 : Int32) + nI b = nI (97 + b) from nI_add 97 b]
    cases hs : F_Mo_says 30 (nI (97 + b)) (ss g 46 0) with
    | none => rw [hs] at e; cases e
    | some v3 =>
      rw [hs] at e
      simp only [Option.bind_some] at e ⊢
      rw [show nI 0 = 0 from rfl] at e
      rw [e]
      simp only [Option.bind_some, Option.map_some]
      rw [P9.2.2.1]
end PAGE
