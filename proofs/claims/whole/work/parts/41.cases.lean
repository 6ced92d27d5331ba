/-! the law's cases -/
def KO_0 (N : Nat) (a1 : Int32) (a2 : Int32) (a3 : Int32) (a4 : Int32) (a5 : Int32) (k : KS) : Option (Int32 × KS) := Option.map (fun x => (x.1, (ku k 7 x.2))) (F_K_feed N a1 a2 a3 a4 a5 (k 7))
def MO_0 (N : Nat) (a1 : Int32) (a2 : Int32) (a3 : Int32) (a4 : Int32) (a5 : Int32) (g : Nat → Nat → Int32) : Option (Int32 × (Nat → Nat → Int32)) := Option.map (fun x => (x.1, x.2)) (F_Mo_feed N a1 a2 a3 a4 a5 g)
set_option maxHeartbeats 4000000 in
set_option maxRecDepth 100000 in
theorem lc_0 {X : Nat × (Nat → Int32)} (hL : X.1 ≤ 3072) (b : Bool) (k k' : KS) (g g' : Nat → Nat → Int32) (i N N' : Nat) (v : Int32) (hi : i + 6 ≤ X.1) (hk : KO_0 N (X.2 (nI i + nI 1).toNatClampNeg) (X.2 (nI i + nI 2).toNatClampNeg) (X.2 (nI i + nI 3).toNatClampNeg) (X.2 (nI i + nI 4).toNatClampNeg) (X.2 (nI i + nI 5).toNatClampNeg) k = some (v, k')) (hg : MO_0 N' (X.2 (nI i + nI 1).toNatClampNeg) (X.2 (nI i + nI 2).toNatClampNeg) (X.2 (nI i + nI 3).toNatClampNeg) (X.2 (nI i + nI 4).toNatClampNeg) (X.2 (nI i + nI 5).toNatClampNeg) g = some (v, g')) : sv_Q X 60 M_law (256, [some (.ref 999), some (.ref 0), some (.ref 67), some (.int (nI i))], [], LWo b k g) (some ()) (fun _ σ' => σ' = (1654, [some (.ref 999), some (.ref 0), some (.ref 67), some (.int (nI i))], [], LWo b k' g')) := by
  obtain ⟨x, hx, hf⟩ := Option.map_eq_some_iff.mp hk
  obtain ⟨y, hy, hf2⟩ := Option.map_eq_some_iff.mp hg
  have hk2 : (ku k 7 x.2) = k' := congrArg Prod.snd hf
  subst hk2
  have hv : x.1 = y.1 := (show x.1 = v from congrArg Prod.fst hf).trans (show y.1 = v from congrArg Prod.fst hf2).symm
  have hg2 : y.2 = g' := congrArg Prod.snd hf2
  subst hg2
  refine sv_Q.s (σ' := (257, [some (.ref 999), some (.ref 0), some (.ref 67), some (.int (nI i))], [.ref 0], LWo b k g)) 1 rfl ?_
  refine sv_Q.s (σ' := (261, [some (.ref 999), some (.ref 0), some (.ref 67), some (.int (nI i))], [.int (nI i + nI 1), .ref 999, .ref 0], LWo b k g)) 4 rfl ?_
  refine lw_rd b (q := (261, .null, 0, 0, 0)) rfl (lw_in hL 1 (by omega) hi) ?_
  refine sv_Q.s (σ' := (266, [some (.ref 999), some (.ref 0), some (.ref 67), some (.int (nI i))], [.int (nI i + nI 2), .ref 999, .int (X.2 (nI i + nI 1).toNatClampNeg), .ref 0], LWo b k g)) 4 rfl ?_
  refine lw_rd b (q := (266, .null, 0, 0, 0)) rfl (lw_in hL 2 (by omega) hi) ?_
  refine sv_Q.s (σ' := (271, [some (.ref 999), some (.ref 0), some (.ref 67), some (.int (nI i))], [.int (nI i + nI 3), .ref 999, .int (X.2 (nI i + nI 2).toNatClampNeg), .int (X.2 (nI i + nI 1).toNatClampNeg), .ref 0], LWo b k g)) 4 rfl ?_
  refine lw_rd b (q := (271, .null, 0, 0, 0)) rfl (lw_in hL 3 (by omega) hi) ?_
  refine sv_Q.s (σ' := (276, [some (.ref 999), some (.ref 0), some (.ref 67), some (.int (nI i))], [.int (nI i + nI 4), .ref 999, .int (X.2 (nI i + nI 3).toNatClampNeg), .int (X.2 (nI i + nI 2).toNatClampNeg), .int (X.2 (nI i + nI 1).toNatClampNeg), .ref 0], LWo b k g)) 4 rfl ?_
  refine lw_rd b (q := (276, .null, 0, 0, 0)) rfl (lw_in hL 4 (by omega) hi) ?_
  refine sv_Q.s (σ' := (281, [some (.ref 999), some (.ref 0), some (.ref 67), some (.int (nI i))], [.int (nI i + nI 5), .ref 999, .int (X.2 (nI i + nI 4).toNatClampNeg), .int (X.2 (nI i + nI 3).toNatClampNeg), .int (X.2 (nI i + nI 2).toNatClampNeg), .int (X.2 (nI i + nI 1).toNatClampNeg), .ref 0], LWo b k g)) 4 rfl ?_
  refine lw_rd b (q := (281, .null, 0, 0, 0)) rfl (lw_in hL 5 (by omega) hi) ?_
  refine lw_K b (k' := (ku k 7 x.2)) (av := [.int (X.2 (nI i + nI 1).toNatClampNeg), .int (X.2 (nI i + nI 2).toNatClampNeg), .int (X.2 (nI i + nI 3).toNatClampNeg), .int (X.2 (nI i + nI 4).toNatClampNeg), .int (X.2 (nI i + nI 5).toNatClampNeg)]) (rest := []) (rv := some (.int x.1)) (q := (282, .null, 0, 0, 0)) lk_Law_13 (r_K_feed N (k 0) (k 1) (k 2) (k 3) (k 4) (k 5) (k 6) (k 7) (k 8) (k 9) (k 10) (k 11) (k 12) (k 13) (k 14) (k 15) (X.2 (nI i + nI 1).toNatClampNeg) (X.2 (nI i + nI 2).toNatClampNeg) (X.2 (nI i + nI 3).toNatClampNeg) (X.2 (nI i + nI 4).toNatClampNeg) (X.2 (nI i + nI 5).toNatClampNeg) x hx) rfl rfl rfl rfl (fun π => rfl) (fun π => rfl) rfl ?_
  refine sv_Q.s (σ' := (286, [some (.ref 999), some (.ref 0), some (.ref 67), some (.int (nI i))], [.ref 67, .int x.1], LWo b (ku k 7 x.2) g)) 1 rfl ?_
  refine sv_Q.s (σ' := (290, [some (.ref 999), some (.ref 0), some (.ref 67), some (.int (nI i))], [.int (nI i + nI 1), .ref 999, .ref 67, .int x.1], LWo b (ku k 7 x.2) g)) 4 rfl ?_
  refine lw_rd b (q := (290, .null, 0, 0, 0)) rfl (lw_in hL 1 (by omega) hi) ?_
  refine sv_Q.s (σ' := (295, [some (.ref 999), some (.ref 0), some (.ref 67), some (.int (nI i))], [.int (nI i + nI 2), .ref 999, .int (X.2 (nI i + nI 1).toNatClampNeg), .ref 67, .int x.1], LWo b (ku k 7 x.2) g)) 4 rfl ?_
  refine lw_rd b (q := (295, .null, 0, 0, 0)) rfl (lw_in hL 2 (by omega) hi) ?_
  refine sv_Q.s (σ' := (300, [some (.ref 999), some (.ref 0), some (.ref 67), some (.int (nI i))], [.int (nI i + nI 3), .ref 999, .int (X.2 (nI i + nI 2).toNatClampNeg), .int (X.2 (nI i + nI 1).toNatClampNeg), .ref 67, .int x.1], LWo b (ku k 7 x.2) g)) 4 rfl ?_
  refine lw_rd b (q := (300, .null, 0, 0, 0)) rfl (lw_in hL 3 (by omega) hi) ?_
  refine sv_Q.s (σ' := (305, [some (.ref 999), some (.ref 0), some (.ref 67), some (.int (nI i))], [.int (nI i + nI 4), .ref 999, .int (X.2 (nI i + nI 3).toNatClampNeg), .int (X.2 (nI i + nI 2).toNatClampNeg), .int (X.2 (nI i + nI 1).toNatClampNeg), .ref 67, .int x.1], LWo b (ku k 7 x.2) g)) 4 rfl ?_
  refine lw_rd b (q := (305, .null, 0, 0, 0)) rfl (lw_in hL 4 (by omega) hi) ?_
  refine sv_Q.s (σ' := (310, [some (.ref 999), some (.ref 0), some (.ref 67), some (.int (nI i))], [.int (nI i + nI 5), .ref 999, .int (X.2 (nI i + nI 4).toNatClampNeg), .int (X.2 (nI i + nI 3).toNatClampNeg), .int (X.2 (nI i + nI 2).toNatClampNeg), .int (X.2 (nI i + nI 1).toNatClampNeg), .ref 67, .int x.1], LWo b (ku k 7 x.2) g)) 4 rfl ?_
  refine lw_rd b (q := (310, .null, 0, 0, 0)) rfl (lw_in hL 5 (by omega) hi) ?_
  refine lw_M b (g' := y.2) (av := [.int (X.2 (nI i + nI 1).toNatClampNeg), .int (X.2 (nI i + nI 2).toNatClampNeg), .int (X.2 (nI i + nI 3).toNatClampNeg), .int (X.2 (nI i + nI 4).toNatClampNeg), .int (X.2 (nI i + nI 5).toNatClampNeg)]) (rest := [.int x.1]) (rv := some (.int y.1)) (q := (311, .null, 0, 0, 0)) lk_Law_17 (r_Mo_feed N' g (X.2 (nI i + nI 1).toNatClampNeg) (X.2 (nI i + nI 2).toNatClampNeg) (X.2 (nI i + nI 3).toNatClampNeg) (X.2 (nI i + nI 4).toNatClampNeg) (X.2 (nI i + nI 5).toNatClampNeg) y hy) rfl rfl rfl rfl (fun π => rfl) (fun π => rfl) rfl ?_
  refine sv_Q.b2 rfl (fun _ => sv_Q.z rfl) (fun c => absurd hv c)
def KO_1 (N : Nat) (a1 : Int32) (k : KS) : Option (Int32 × KS) := Option.map (fun x => (x.1, (ku k 7 x.2))) (some (F_K_end a1 (k 7)))
def MO_1 (N : Nat) (a1 : Int32) (g : Nat → Nat → Int32) : Option (Int32 × (Nat → Nat → Int32)) := Option.map (fun x => (x.1, x.2)) (some (F_Mo_end a1 g))
set_option maxHeartbeats 4000000 in
set_option maxRecDepth 100000 in
theorem lc_1 {X : Nat × (Nat → Int32)} (hL : X.1 ≤ 3072) (b : Bool) (k k' : KS) (g g' : Nat → Nat → Int32) (i N N' : Nat) (v : Int32) (hi : i + 6 ≤ X.1) (hk : KO_1 N (X.2 (nI i + nI 1).toNatClampNeg) k = some (v, k')) (hg : MO_1 N' (X.2 (nI i + nI 1).toNatClampNeg) g = some (v, g')) : sv_Q X 60 M_law (319, [some (.ref 999), some (.ref 0), some (.ref 67), some (.int (nI i))], [], LWo b k g) (some ()) (fun _ σ' => σ' = (1654, [some (.ref 999), some (.ref 0), some (.ref 67), some (.int (nI i))], [], LWo b k' g')) := by
  obtain ⟨x, hx, hf⟩ := Option.map_eq_some_iff.mp hk
  obtain ⟨y, hy, hf2⟩ := Option.map_eq_some_iff.mp hg
  have hk2 : (ku k 7 x.2) = k' := congrArg Prod.snd hf
  subst hk2
  have hv : x.1 = y.1 := (show x.1 = v from congrArg Prod.fst hf).trans (show y.1 = v from congrArg Prod.fst hf2).symm
  have hg2 : y.2 = g' := congrArg Prod.snd hf2
  subst hg2
  refine sv_Q.s (σ' := (320, [some (.ref 999), some (.ref 0), some (.ref 67), some (.int (nI i))], [.ref 0], LWo b k g)) 1 rfl ?_
  refine sv_Q.s (σ' := (324, [some (.ref 999), some (.ref 0), some (.ref 67), some (.int (nI i))], [.int (nI i + nI 1), .ref 999, .ref 0], LWo b k g)) 4 rfl ?_
  refine lw_rd b (q := (324, .null, 0, 0, 0)) rfl (lw_in hL 1 (by omega) hi) ?_
  refine lw_K b (k' := (ku k 7 x.2)) (av := [.int (X.2 (nI i + nI 1).toNatClampNeg)]) (rest := []) (rv := some (.int x.1)) (q := (325, .null, 0, 0, 0)) lk_Law_18 (r_K_end (k 0) (k 1) (k 2) (k 3) (k 4) (k 5) (k 6) (k 7) (k 8) (k 9) (k 10) (k 11) (k 12) (k 13) (k 14) (k 15) (X.2 (nI i + nI 1).toNatClampNeg) x hx) rfl rfl rfl rfl (fun π => rfl) (fun π => rfl) rfl ?_
  refine sv_Q.s (σ' := (329, [some (.ref 999), some (.ref 0), some (.ref 67), some (.int (nI i))], [.ref 67, .int x.1], LWo b (ku k 7 x.2) g)) 1 rfl ?_
  refine sv_Q.s (σ' := (333, [some (.ref 999), some (.ref 0), some (.ref 67), some (.int (nI i))], [.int (nI i + nI 1), .ref 999, .ref 67, .int x.1], LWo b (ku k 7 x.2) g)) 4 rfl ?_
  refine lw_rd b (q := (333, .null, 0, 0, 0)) rfl (lw_in hL 1 (by omega) hi) ?_
  refine lw_M b (g' := y.2) (av := [.int (X.2 (nI i + nI 1).toNatClampNeg)]) (rest := [.int x.1]) (rv := some (.int y.1)) (q := (334, .null, 0, 0, 0)) lk_Law_22 (r_Mo_end g (X.2 (nI i + nI 1).toNatClampNeg) y hy) rfl rfl rfl rfl (fun π => rfl) (fun π => rfl) rfl ?_
  refine sv_Q.b2 rfl (fun _ => sv_Q.z rfl) (fun c => absurd hv c)
def KO_2 (N : Nat) (k : KS) : Option (Int32 × KS × Bool) := Option.map (fun x => (x.1, (ku (ku (ku (ku (ku (ku (ku (ku (ku (ku (ku (ku (ku (ku k 0 x.2.2.1) 1 x.2.2.2.1) 2 x.2.2.2.2.1) 3 x.2.2.2.2.2.1) 6 x.2.2.2.2.2.2.1) 7 x.2.2.2.2.2.2.2.1) 8 x.2.2.2.2.2.2.2.2.1) 9 x.2.2.2.2.2.2.2.2.2.1) 10 x.2.2.2.2.2.2.2.2.2.2.1) 11 x.2.2.2.2.2.2.2.2.2.2.2.1) 12 x.2.2.2.2.2.2.2.2.2.2.2.2.1) 13 x.2.2.2.2.2.2.2.2.2.2.2.2.2.1) 14 x.2.2.2.2.2.2.2.2.2.2.2.2.2.2.1) 15 x.2.2.2.2.2.2.2.2.2.2.2.2.2.2.2), x.2.1)) (F_K_ship N (k 0) (k 1) (k 2) (k 3) (k 6) (k 7) (k 8) (k 9) (k 10) (k 11) (k 12) (k 13) (k 14) (k 15))
def MO_2 (N : Nat)  (g : Nat → Nat → Int32) : Option (Int32 × (Nat → Nat → Int32)) := Option.map (fun x => (x.1, x.2)) (F_Mo_ship N g)
set_option maxHeartbeats 4000000 in
set_option maxRecDepth 100000 in
theorem lc_2 {X : Nat × (Nat → Int32)} (hL : X.1 ≤ 3072) (b : Bool) (k k' : KS) (g g' : Nat → Nat → Int32) (i N N' : Nat) (v : Int32) (s : Bool) (hi : i + 6 ≤ X.1) (hk : KO_2 N k = some (v, k', s)) (hg : MO_2 N' g = some (v, g')) : sv_Q X 60 M_law (342, [some (.ref 999), some (.ref 0), some (.ref 67), some (.int (nI i))], [], LWo b k g) (some ()) (fun _ σ' => σ' = (1654, [some (.ref 999), some (.ref 0), some (.ref 67), some (.int (nI i))], [], LWo (xor b s) k' g')) := by
  obtain ⟨x, hx, hf⟩ := Option.map_eq_some_iff.mp hk
  obtain ⟨y, hy, hf2⟩ := Option.map_eq_some_iff.mp hg
  have hk2 : (ku (ku (ku (ku (ku (ku (ku (ku (ku (ku (ku (ku (ku (ku k 0 x.2.2.1) 1 x.2.2.2.1) 2 x.2.2.2.2.1) 3 x.2.2.2.2.2.1) 6 x.2.2.2.2.2.2.1) 7 x.2.2.2.2.2.2.2.1) 8 x.2.2.2.2.2.2.2.2.1) 9 x.2.2.2.2.2.2.2.2.2.1) 10 x.2.2.2.2.2.2.2.2.2.2.1) 11 x.2.2.2.2.2.2.2.2.2.2.2.1) 12 x.2.2.2.2.2.2.2.2.2.2.2.2.1) 13 x.2.2.2.2.2.2.2.2.2.2.2.2.2.1) 14 x.2.2.2.2.2.2.2.2.2.2.2.2.2.2.1) 15 x.2.2.2.2.2.2.2.2.2.2.2.2.2.2.2) = k' := congrArg (fun z => z.2.1) hf
  subst hk2
  have hs2 : x.2.1 = s := congrArg (fun z => z.2.2) hf
  subst hs2
  have hv : x.1 = y.1 := (show x.1 = v from congrArg Prod.fst hf).trans (show y.1 = v from congrArg Prod.fst hf2).symm
  have hg2 : y.2 = g' := congrArg Prod.snd hf2
  subst hg2
  refine sv_Q.s (σ' := (343, [some (.ref 999), some (.ref 0), some (.ref 67), some (.int (nI i))], [.ref 0], LWo b k g)) 1 rfl ?_
  have hR := r_K_ship (X := X) N (k 0) (k 1) (k 2) (k 3) (k 4) (k 5) (k 6) (k 7) (k 8) (k 9) (k 10) (k 11) (k 12) (k 13) (k 14) (k 15) x hx
  have step : ∀ {E : Option Unit} {K : Unit → sv_S → Prop}, sv_Q X 60 M_law (346, [some (.ref 999), some (.ref 0), some (.ref 67), some (.int (nI i))], [.int x.1], LWo (xor b x.2.1) (ku (ku (ku (ku (ku (ku (ku (ku (ku (ku (ku (ku (ku (ku k 0 x.2.2.1) 1 x.2.2.2.1) 2 x.2.2.2.2.1) 3 x.2.2.2.2.2.1) 6 x.2.2.2.2.2.2.1) 7 x.2.2.2.2.2.2.2.1) 8 x.2.2.2.2.2.2.2.2.1) 9 x.2.2.2.2.2.2.2.2.2.1) 10 x.2.2.2.2.2.2.2.2.2.2.1) 11 x.2.2.2.2.2.2.2.2.2.2.2.1) 12 x.2.2.2.2.2.2.2.2.2.2.2.2.1) 13 x.2.2.2.2.2.2.2.2.2.2.2.2.2.1) 14 x.2.2.2.2.2.2.2.2.2.2.2.2.2.2.1) 15 x.2.2.2.2.2.2.2.2.2.2.2.2.2.2.2) g) E K → sv_Q X 60 M_law (343, [some (.ref 999), some (.ref 0), some (.ref 67), some (.int (nI i))], [.ref 0], LWo b k g) E K := by
    intro E K h
    cases hs : x.2.1 with
    | true =>
      rw [hs] at hR h
      exact lw_Kt b (k' := (ku (ku (ku (ku (ku (ku (ku (ku (ku (ku (ku (ku (ku (ku k 0 x.2.2.1) 1 x.2.2.2.1) 2 x.2.2.2.2.1) 3 x.2.2.2.2.2.1) 6 x.2.2.2.2.2.2.1) 7 x.2.2.2.2.2.2.2.1) 8 x.2.2.2.2.2.2.2.2.1) 9 x.2.2.2.2.2.2.2.2.2.1) 10 x.2.2.2.2.2.2.2.2.2.2.1) 11 x.2.2.2.2.2.2.2.2.2.2.2.1) 12 x.2.2.2.2.2.2.2.2.2.2.2.2.1) 13 x.2.2.2.2.2.2.2.2.2.2.2.2.2.1) 14 x.2.2.2.2.2.2.2.2.2.2.2.2.2.2.1) 15 x.2.2.2.2.2.2.2.2.2.2.2.2.2.2.2)) (av := []) (rest := []) (rv := some (.int x.1)) (q := (343, .null, 0, 0, 0)) lk_Law_23 hR rfl rfl rfl rfl (fun π => rfl) (fun π => rfl) rfl (by rw [Bool.xor_true] at h; exact h)
    | false =>
      rw [hs] at hR h
      exact lw_K b (k' := (ku (ku (ku (ku (ku (ku (ku (ku (ku (ku (ku (ku (ku (ku k 0 x.2.2.1) 1 x.2.2.2.1) 2 x.2.2.2.2.1) 3 x.2.2.2.2.2.1) 6 x.2.2.2.2.2.2.1) 7 x.2.2.2.2.2.2.2.1) 8 x.2.2.2.2.2.2.2.2.1) 9 x.2.2.2.2.2.2.2.2.2.1) 10 x.2.2.2.2.2.2.2.2.2.2.1) 11 x.2.2.2.2.2.2.2.2.2.2.2.1) 12 x.2.2.2.2.2.2.2.2.2.2.2.2.1) 13 x.2.2.2.2.2.2.2.2.2.2.2.2.2.1) 14 x.2.2.2.2.2.2.2.2.2.2.2.2.2.2.1) 15 x.2.2.2.2.2.2.2.2.2.2.2.2.2.2.2)) (av := []) (rest := []) (rv := some (.int x.1)) (q := (343, .null, 0, 0, 0)) lk_Law_23 hR rfl rfl rfl rfl (fun π => rfl) (fun π => rfl) rfl (by rw [Bool.xor_false] at h; exact h)
  refine step ?_
  refine sv_Q.s (σ' := (347, [some (.ref 999), some (.ref 0), some (.ref 67), some (.int (nI i))], [.ref 67, .int x.1], LWo (xor b x.2.1) (ku (ku (ku (ku (ku (ku (ku (ku (ku (ku (ku (ku (ku (ku k 0 x.2.2.1) 1 x.2.2.2.1) 2 x.2.2.2.2.1) 3 x.2.2.2.2.2.1) 6 x.2.2.2.2.2.2.1) 7 x.2.2.2.2.2.2.2.1) 8 x.2.2.2.2.2.2.2.2.1) 9 x.2.2.2.2.2.2.2.2.2.1) 10 x.2.2.2.2.2.2.2.2.2.2.1) 11 x.2.2.2.2.2.2.2.2.2.2.2.1) 12 x.2.2.2.2.2.2.2.2.2.2.2.2.1) 13 x.2.2.2.2.2.2.2.2.2.2.2.2.2.1) 14 x.2.2.2.2.2.2.2.2.2.2.2.2.2.2.1) 15 x.2.2.2.2.2.2.2.2.2.2.2.2.2.2.2) g)) 1 rfl ?_
  refine lw_M (xor b x.2.1) (g' := y.2) (av := []) (rest := [.int x.1]) (rv := some (.int y.1)) (q := (347, .null, 0, 0, 0)) lk_Law_27 (r_Mo_ship N' g y hy) rfl rfl rfl rfl (fun π => rfl) (fun π => rfl) rfl ?_
  refine sv_Q.b2 rfl (fun _ => sv_Q.z rfl) (fun c => absurd hv c)
def KO_3 (N : Nat) (a1 : Int32) (k : KS) : Option (Int32 × KS) := Option.map (fun x => (x, k)) (some (F_K_fault a1 (k 6)))
def MO_3 (N : Nat) (a1 : Int32) (g : Nat → Nat → Int32) : Option (Int32 × (Nat → Nat → Int32)) := Option.map (fun x => (x, g)) (some (F_Mo_fault a1 g))
set_option maxHeartbeats 4000000 in
set_option maxRecDepth 100000 in
theorem lc_3 {X : Nat × (Nat → Int32)} (hL : X.1 ≤ 3072) (b : Bool) (k k' : KS) (g g' : Nat → Nat → Int32) (i N N' : Nat) (v : Int32) (hi : i + 6 ≤ X.1) (hk : KO_3 N (X.2 (nI i + nI 1).toNatClampNeg) k = some (v, k')) (hg : MO_3 N' (X.2 (nI i + nI 1).toNatClampNeg) g = some (v, g')) : sv_Q X 60 M_law (355, [some (.ref 999), some (.ref 0), some (.ref 67), some (.int (nI i))], [], LWo b k g) (some ()) (fun _ σ' => σ' = (1654, [some (.ref 999), some (.ref 0), some (.ref 67), some (.int (nI i))], [], LWo b k' g')) := by
  obtain ⟨x, hx, hf⟩ := Option.map_eq_some_iff.mp hk
  obtain ⟨y, hy, hf2⟩ := Option.map_eq_some_iff.mp hg
  have hk2 : k = k' := congrArg Prod.snd hf
  subst hk2
  have hv : x = y := (show x = v from congrArg Prod.fst hf).trans (show y = v from congrArg Prod.fst hf2).symm
  have hg2 : g = g' := congrArg Prod.snd hf2
  subst hg2
  refine sv_Q.s (σ' := (356, [some (.ref 999), some (.ref 0), some (.ref 67), some (.int (nI i))], [.ref 0], LWo b k g)) 1 rfl ?_
  refine sv_Q.s (σ' := (360, [some (.ref 999), some (.ref 0), some (.ref 67), some (.int (nI i))], [.int (nI i + nI 1), .ref 999, .ref 0], LWo b k g)) 4 rfl ?_
  refine lw_rd b (q := (360, .null, 0, 0, 0)) rfl (lw_in hL 1 (by omega) hi) ?_
  refine lw_K b (k' := k) (av := [.int (X.2 (nI i + nI 1).toNatClampNeg)]) (rest := []) (rv := some (.int x)) (q := (361, .null, 0, 0, 0)) lk_Law_28 (r_K_fault (k 0) (k 1) (k 2) (k 3) (k 4) (k 5) (k 6) (k 7) (k 8) (k 9) (k 10) (k 11) (k 12) (k 13) (k 14) (k 15) (X.2 (nI i + nI 1).toNatClampNeg) x hx) rfl rfl rfl rfl (fun π => rfl) (fun π => rfl) rfl ?_
  refine sv_Q.s (σ' := (365, [some (.ref 999), some (.ref 0), some (.ref 67), some (.int (nI i))], [.ref 67, .int x], LWo b k g)) 1 rfl ?_
  refine sv_Q.s (σ' := (369, [some (.ref 999), some (.ref 0), some (.ref 67), some (.int (nI i))], [.int (nI i + nI 1), .ref 999, .ref 67, .int x], LWo b k g)) 4 rfl ?_
  refine lw_rd b (q := (369, .null, 0, 0, 0)) rfl (lw_in hL 1 (by omega) hi) ?_
  refine lw_M b (g' := g) (av := [.int (X.2 (nI i + nI 1).toNatClampNeg)]) (rest := [.int x]) (rv := some (.int y)) (q := (370, .null, 0, 0, 0)) lk_Law_31 (r_Mo_fault g (X.2 (nI i + nI 1).toNatClampNeg) y hy) rfl rfl rfl rfl (fun π => rfl) (fun π => rfl) rfl ?_
  refine sv_Q.b2 rfl (fun _ => sv_Q.z rfl) (fun c => absurd hv c)
def KO_4 (N : Nat) (a1 : Int32) (k : KS) : Option (Int32 × KS) := Option.map (fun x => (x, k)) (F_K_count N a1 (k 0) (k 1) (k 5) (k 7) (k 9) (k 10) (k 11))
def MO_4 (N : Nat) (a1 : Int32) (g : Nat → Nat → Int32) : Option (Int32 × (Nat → Nat → Int32)) := Option.map (fun x => (x, g)) (F_Mo_count N a1 g)
set_option maxHeartbeats 4000000 in
set_option maxRecDepth 100000 in
theorem lc_4 {X : Nat × (Nat → Int32)} (hL : X.1 ≤ 3072) (b : Bool) (k k' : KS) (g g' : Nat → Nat → Int32) (i N N' : Nat) (v : Int32) (hi : i + 6 ≤ X.1) (hk : KO_4 N (X.2 (nI i + nI 1).toNatClampNeg) k = some (v, k')) (hg : MO_4 N' (X.2 (nI i + nI 1).toNatClampNeg) g = some (v, g')) : sv_Q X 60 M_law (378, [some (.ref 999), some (.ref 0), some (.ref 67), some (.int (nI i))], [], LWo b k g) (some ()) (fun _ σ' => σ' = (1654, [some (.ref 999), some (.ref 0), some (.ref 67), some (.int (nI i))], [], LWo b k' g')) := by
  obtain ⟨x, hx, hf⟩ := Option.map_eq_some_iff.mp hk
  obtain ⟨y, hy, hf2⟩ := Option.map_eq_some_iff.mp hg
  have hk2 : k = k' := congrArg Prod.snd hf
  subst hk2
  have hv : x = y := (show x = v from congrArg Prod.fst hf).trans (show y = v from congrArg Prod.fst hf2).symm
  have hg2 : g = g' := congrArg Prod.snd hf2
  subst hg2
  refine sv_Q.s (σ' := (379, [some (.ref 999), some (.ref 0), some (.ref 67), some (.int (nI i))], [.ref 0], LWo b k g)) 1 rfl ?_
  refine sv_Q.s (σ' := (383, [some (.ref 999), some (.ref 0), some (.ref 67), some (.int (nI i))], [.int (nI i + nI 1), .ref 999, .ref 0], LWo b k g)) 4 rfl ?_
  refine lw_rd b (q := (383, .null, 0, 0, 0)) rfl (lw_in hL 1 (by omega) hi) ?_
  refine lw_K b (k' := k) (av := [.int (X.2 (nI i + nI 1).toNatClampNeg)]) (rest := []) (rv := some (.int x)) (q := (384, .null, 0, 0, 0)) lk_Law_32 (r_K_count N (k 0) (k 1) (k 2) (k 3) (k 4) (k 5) (k 6) (k 7) (k 8) (k 9) (k 10) (k 11) (k 12) (k 13) (k 14) (k 15) (X.2 (nI i + nI 1).toNatClampNeg) x hx) rfl rfl rfl rfl (fun π => rfl) (fun π => rfl) rfl ?_
  refine sv_Q.s (σ' := (388, [some (.ref 999), some (.ref 0), some (.ref 67), some (.int (nI i))], [.ref 67, .int x], LWo b k g)) 1 rfl ?_
  refine sv_Q.s (σ' := (392, [some (.ref 999), some (.ref 0), some (.ref 67), some (.int (nI i))], [.int (nI i + nI 1), .ref 999, .ref 67, .int x], LWo b k g)) 4 rfl ?_
  refine lw_rd b (q := (392, .null, 0, 0, 0)) rfl (lw_in hL 1 (by omega) hi) ?_
  refine lw_M b (g' := g) (av := [.int (X.2 (nI i + nI 1).toNatClampNeg)]) (rest := [.int x]) (rv := some (.int y)) (q := (393, .null, 0, 0, 0)) lk_Law_35 (r_Mo_count N' g (X.2 (nI i + nI 1).toNatClampNeg) y hy) rfl rfl rfl rfl (fun π => rfl) (fun π => rfl) rfl ?_
  refine sv_Q.b2 rfl (fun _ => sv_Q.z rfl) (fun c => absurd hv c)
def KO_5 (N : Nat) (a1 : Int32) (k : KS) : Option (Int32 × KS) := Option.map (fun x => (x, k)) (some (F_K_wall a1 (k 0) (k 9)))
def MO_5 (N : Nat) (a1 : Int32) (g : Nat → Nat → Int32) : Option (Int32 × (Nat → Nat → Int32)) := Option.map (fun x => (x, g)) (F_Mo_wall N a1 g)
set_option maxHeartbeats 4000000 in
set_option maxRecDepth 100000 in
theorem lc_5 {X : Nat × (Nat → Int32)} (hL : X.1 ≤ 3072) (b : Bool) (k k' : KS) (g g' : Nat → Nat → Int32) (i N N' : Nat) (v : Int32) (hi : i + 6 ≤ X.1) (hk : KO_5 N (X.2 (nI i + nI 1).toNatClampNeg) k = some (v, k')) (hg : MO_5 N' (X.2 (nI i + nI 1).toNatClampNeg) g = some (v, g')) : sv_Q X 60 M_law (401, [some (.ref 999), some (.ref 0), some (.ref 67), some (.int (nI i))], [], LWo b k g) (some ()) (fun _ σ' => σ' = (1654, [some (.ref 999), some (.ref 0), some (.ref 67), some (.int (nI i))], [], LWo b k' g')) := by
  obtain ⟨x, hx, hf⟩ := Option.map_eq_some_iff.mp hk
  obtain ⟨y, hy, hf2⟩ := Option.map_eq_some_iff.mp hg
  have hk2 : k = k' := congrArg Prod.snd hf
  subst hk2
  have hv : x = y := (show x = v from congrArg Prod.fst hf).trans (show y = v from congrArg Prod.fst hf2).symm
  have hg2 : g = g' := congrArg Prod.snd hf2
  subst hg2
  refine sv_Q.s (σ' := (402, [some (.ref 999), some (.ref 0), some (.ref 67), some (.int (nI i))], [.ref 0], LWo b k g)) 1 rfl ?_
  refine sv_Q.s (σ' := (406, [some (.ref 999), some (.ref 0), some (.ref 67), some (.int (nI i))], [.int (nI i + nI 1), .ref 999, .ref 0], LWo b k g)) 4 rfl ?_
  refine lw_rd b (q := (406, .null, 0, 0, 0)) rfl (lw_in hL 1 (by omega) hi) ?_
  refine lw_K b (k' := k) (av := [.int (X.2 (nI i + nI 1).toNatClampNeg)]) (rest := []) (rv := some (.int x)) (q := (407, .null, 0, 0, 0)) lk_Law_36 (r_K_wall (k 0) (k 1) (k 2) (k 3) (k 4) (k 5) (k 6) (k 7) (k 8) (k 9) (k 10) (k 11) (k 12) (k 13) (k 14) (k 15) (X.2 (nI i + nI 1).toNatClampNeg) x hx) rfl rfl rfl rfl (fun π => rfl) (fun π => rfl) rfl ?_
  refine sv_Q.s (σ' := (411, [some (.ref 999), some (.ref 0), some (.ref 67), some (.int (nI i))], [.ref 67, .int x], LWo b k g)) 1 rfl ?_
  refine sv_Q.s (σ' := (415, [some (.ref 999), some (.ref 0), some (.ref 67), some (.int (nI i))], [.int (nI i + nI 1), .ref 999, .ref 67, .int x], LWo b k g)) 4 rfl ?_
  refine lw_rd b (q := (415, .null, 0, 0, 0)) rfl (lw_in hL 1 (by omega) hi) ?_
  refine lw_M b (g' := g) (av := [.int (X.2 (nI i + nI 1).toNatClampNeg)]) (rest := [.int x]) (rv := some (.int y)) (q := (416, .null, 0, 0, 0)) lk_Law_39 (r_Mo_wall N' g (X.2 (nI i + nI 1).toNatClampNeg) y hy) rfl rfl rfl rfl (fun π => rfl) (fun π => rfl) rfl ?_
  refine sv_Q.b2 rfl (fun _ => sv_Q.z rfl) (fun c => absurd hv c)
def KO_6 (N : Nat) (a1 : Int32) (a2 : Int32) (k : KS) : Option (Int32 × KS) := Option.map (fun x => (x, k)) (some (F_K_level a1 a2 (k 0) (k 10)))
def MO_6 (N : Nat) (a1 : Int32) (a2 : Int32) (g : Nat → Nat → Int32) : Option (Int32 × (Nat → Nat → Int32)) := Option.map (fun x => (x, g)) (F_Mo_level N a1 a2 g)
set_option maxHeartbeats 4000000 in
set_option maxRecDepth 100000 in
theorem lc_6 {X : Nat × (Nat → Int32)} (hL : X.1 ≤ 3072) (b : Bool) (k k' : KS) (g g' : Nat → Nat → Int32) (i N N' : Nat) (v : Int32) (hi : i + 6 ≤ X.1) (hk : KO_6 N (X.2 (nI i + nI 1).toNatClampNeg) (X.2 (nI i + nI 2).toNatClampNeg) k = some (v, k')) (hg : MO_6 N' (X.2 (nI i + nI 1).toNatClampNeg) (X.2 (nI i + nI 2).toNatClampNeg) g = some (v, g')) : sv_Q X 60 M_law (424, [some (.ref 999), some (.ref 0), some (.ref 67), some (.int (nI i))], [], LWo b k g) (some ()) (fun _ σ' => σ' = (1654, [some (.ref 999), some (.ref 0), some (.ref 67), some (.int (nI i))], [], LWo b k' g')) := by
  obtain ⟨x, hx, hf⟩ := Option.map_eq_some_iff.mp hk
  obtain ⟨y, hy, hf2⟩ := Option.map_eq_some_iff.mp hg
  have hk2 : k = k' := congrArg Prod.snd hf
  subst hk2
  have hv : x = y := (show x = v from congrArg Prod.fst hf).trans (show y = v from congrArg Prod.fst hf2).symm
  have hg2 : g = g' := congrArg Prod.snd hf2
  subst hg2
  refine sv_Q.s (σ' := (425, [some (.ref 999), some (.ref 0), some (.ref 67), some (.int (nI i))], [.ref 0], LWo b k g)) 1 rfl ?_
  refine sv_Q.s (σ' := (429, [some (.ref 999), some (.ref 0), some (.ref 67), some (.int (nI i))], [.int (nI i + nI 1), .ref 999, .ref 0], LWo b k g)) 4 rfl ?_
  refine lw_rd b (q := (429, .null, 0, 0, 0)) rfl (lw_in hL 1 (by omega) hi) ?_
  refine sv_Q.s (σ' := (434, [some (.ref 999), some (.ref 0), some (.ref 67), some (.int (nI i))], [.int (nI i + nI 2), .ref 999, .int (X.2 (nI i + nI 1).toNatClampNeg), .ref 0], LWo b k g)) 4 rfl ?_
  refine lw_rd b (q := (434, .null, 0, 0, 0)) rfl (lw_in hL 2 (by omega) hi) ?_
  refine lw_K b (k' := k) (av := [.int (X.2 (nI i + nI 1).toNatClampNeg), .int (X.2 (nI i + nI 2).toNatClampNeg)]) (rest := []) (rv := some (.int x)) (q := (435, .null, 0, 0, 0)) lk_Law_40 (r_K_level (k 0) (k 1) (k 2) (k 3) (k 4) (k 5) (k 6) (k 7) (k 8) (k 9) (k 10) (k 11) (k 12) (k 13) (k 14) (k 15) (X.2 (nI i + nI 1).toNatClampNeg) (X.2 (nI i + nI 2).toNatClampNeg) x hx) rfl rfl rfl rfl (fun π => rfl) (fun π => rfl) rfl ?_
  refine sv_Q.s (σ' := (439, [some (.ref 999), some (.ref 0), some (.ref 67), some (.int (nI i))], [.ref 67, .int x], LWo b k g)) 1 rfl ?_
  refine sv_Q.s (σ' := (443, [some (.ref 999), some (.ref 0), some (.ref 67), some (.int (nI i))], [.int (nI i + nI 1), .ref 999, .ref 67, .int x], LWo b k g)) 4 rfl ?_
  refine lw_rd b (q := (443, .null, 0, 0, 0)) rfl (lw_in hL 1 (by omega) hi) ?_
  refine sv_Q.s (σ' := (448, [some (.ref 999), some (.ref 0), some (.ref 67), some (.int (nI i))], [.int (nI i + nI 2), .ref 999, .int (X.2 (nI i + nI 1).toNatClampNeg), .ref 67, .int x], LWo b k g)) 4 rfl ?_
  refine lw_rd b (q := (448, .null, 0, 0, 0)) rfl (lw_in hL 2 (by omega) hi) ?_
  refine lw_M b (g' := g) (av := [.int (X.2 (nI i + nI 1).toNatClampNeg), .int (X.2 (nI i + nI 2).toNatClampNeg)]) (rest := [.int x]) (rv := some (.int y)) (q := (449, .null, 0, 0, 0)) lk_Law_44 (r_Mo_level N' g (X.2 (nI i + nI 1).toNatClampNeg) (X.2 (nI i + nI 2).toNatClampNeg) y hy) rfl rfl rfl rfl (fun π => rfl) (fun π => rfl) rfl ?_
  refine sv_Q.b2 rfl (fun _ => sv_Q.z rfl) (fun c => absurd hv c)
def KO_7 (N : Nat) (a1 : Int32) (k : KS) : Option (Int32 × KS) := Option.map (fun x => (x, k)) (some (F_K_kind a1 (k 0) (k 10)))
def MO_7 (N : Nat) (a1 : Int32) (g : Nat → Nat → Int32) : Option (Int32 × (Nat → Nat → Int32)) := Option.map (fun x => (x, g)) (F_Mo_kind N a1 g)
set_option maxHeartbeats 4000000 in
set_option maxRecDepth 100000 in
theorem lc_7 {X : Nat × (Nat → Int32)} (hL : X.1 ≤ 3072) (b : Bool) (k k' : KS) (g g' : Nat → Nat → Int32) (i N N' : Nat) (v : Int32) (hi : i + 6 ≤ X.1) (hk : KO_7 N (X.2 (nI i + nI 1).toNatClampNeg) k = some (v, k')) (hg : MO_7 N' (X.2 (nI i + nI 1).toNatClampNeg) g = some (v, g')) : sv_Q X 60 M_law (457, [some (.ref 999), some (.ref 0), some (.ref 67), some (.int (nI i))], [], LWo b k g) (some ()) (fun _ σ' => σ' = (1654, [some (.ref 999), some (.ref 0), some (.ref 67), some (.int (nI i))], [], LWo b k' g')) := by
  obtain ⟨x, hx, hf⟩ := Option.map_eq_some_iff.mp hk
  obtain ⟨y, hy, hf2⟩ := Option.map_eq_some_iff.mp hg
  have hk2 : k = k' := congrArg Prod.snd hf
  subst hk2
  have hv : x = y := (show x = v from congrArg Prod.fst hf).trans (show y = v from congrArg Prod.fst hf2).symm
  have hg2 : g = g' := congrArg Prod.snd hf2
  subst hg2
  refine sv_Q.s (σ' := (458, [some (.ref 999), some (.ref 0), some (.ref 67), some (.int (nI i))], [.ref 0], LWo b k g)) 1 rfl ?_
  refine sv_Q.s (σ' := (462, [some (.ref 999), some (.ref 0), some (.ref 67), some (.int (nI i))], [.int (nI i + nI 1), .ref 999, .ref 0], LWo b k g)) 4 rfl ?_
  refine lw_rd b (q := (462, .null, 0, 0, 0)) rfl (lw_in hL 1 (by omega) hi) ?_
  refine lw_K b (k' := k) (av := [.int (X.2 (nI i + nI 1).toNatClampNeg)]) (rest := []) (rv := some (.int x)) (q := (463, .null, 0, 0, 0)) lk_Law_45 (r_K_kind (k 0) (k 1) (k 2) (k 3) (k 4) (k 5) (k 6) (k 7) (k 8) (k 9) (k 10) (k 11) (k 12) (k 13) (k 14) (k 15) (X.2 (nI i + nI 1).toNatClampNeg) x hx) rfl rfl rfl rfl (fun π => rfl) (fun π => rfl) rfl ?_
  refine sv_Q.s (σ' := (467, [some (.ref 999), some (.ref 0), some (.ref 67), some (.int (nI i))], [.ref 67, .int x], LWo b k g)) 1 rfl ?_
  refine sv_Q.s (σ' := (471, [some (.ref 999), some (.ref 0), some (.ref 67), some (.int (nI i))], [.int (nI i + nI 1), .ref 999, .ref 67, .int x], LWo b k g)) 4 rfl ?_
  refine lw_rd b (q := (471, .null, 0, 0, 0)) rfl (lw_in hL 1 (by omega) hi) ?_
  refine lw_M b (g' := g) (av := [.int (X.2 (nI i + nI 1).toNatClampNeg)]) (rest := [.int x]) (rv := some (.int y)) (q := (472, .null, 0, 0, 0)) lk_Law_48 (r_Mo_kind N' g (X.2 (nI i + nI 1).toNatClampNeg) y hy) rfl rfl rfl rfl (fun π => rfl) (fun π => rfl) rfl ?_
  refine sv_Q.b2 rfl (fun _ => sv_Q.z rfl) (fun c => absurd hv c)
def KO_8 (N : Nat) (a1 : Int32) (a2 : Int32) (k : KS) : Option (Int32 × KS) := Option.map (fun x => (x, k)) (some (F_K_apart a1 a2 (k 0) (k 10)))
def MO_8 (N : Nat) (a1 : Int32) (a2 : Int32) (g : Nat → Nat → Int32) : Option (Int32 × (Nat → Nat → Int32)) := Option.map (fun x => (x, g)) (F_Mo_apart N a1 a2 g)
set_option maxHeartbeats 4000000 in
set_option maxRecDepth 100000 in
theorem lc_8 {X : Nat × (Nat → Int32)} (hL : X.1 ≤ 3072) (b : Bool) (k k' : KS) (g g' : Nat → Nat → Int32) (i N N' : Nat) (v : Int32) (hi : i + 6 ≤ X.1) (hk : KO_8 N (X.2 (nI i + nI 1).toNatClampNeg) (X.2 (nI i + nI 2).toNatClampNeg) k = some (v, k')) (hg : MO_8 N' (X.2 (nI i + nI 1).toNatClampNeg) (X.2 (nI i + nI 2).toNatClampNeg) g = some (v, g')) : sv_Q X 60 M_law (480, [some (.ref 999), some (.ref 0), some (.ref 67), some (.int (nI i))], [], LWo b k g) (some ()) (fun _ σ' => σ' = (1654, [some (.ref 999), some (.ref 0), some (.ref 67), some (.int (nI i))], [], LWo b k' g')) := by
  obtain ⟨x, hx, hf⟩ := Option.map_eq_some_iff.mp hk
  obtain ⟨y, hy, hf2⟩ := Option.map_eq_some_iff.mp hg
  have hk2 : k = k' := congrArg Prod.snd hf
  subst hk2
  have hv : x = y := (show x = v from congrArg Prod.fst hf).trans (show y = v from congrArg Prod.fst hf2).symm
  have hg2 : g = g' := congrArg Prod.snd hf2
  subst hg2
  refine sv_Q.s (σ' := (481, [some (.ref 999), some (.ref 0), some (.ref 67), some (.int (nI i))], [.ref 0], LWo b k g)) 1 rfl ?_
  refine sv_Q.s (σ' := (485, [some (.ref 999), some (.ref 0), some (.ref 67), some (.int (nI i))], [.int (nI i + nI 1), .ref 999, .ref 0], LWo b k g)) 4 rfl ?_
  refine lw_rd b (q := (485, .null, 0, 0, 0)) rfl (lw_in hL 1 (by omega) hi) ?_
  refine sv_Q.s (σ' := (490, [some (.ref 999), some (.ref 0), some (.ref 67), some (.int (nI i))], [.int (nI i + nI 2), .ref 999, .int (X.2 (nI i + nI 1).toNatClampNeg), .ref 0], LWo b k g)) 4 rfl ?_
  refine lw_rd b (q := (490, .null, 0, 0, 0)) rfl (lw_in hL 2 (by omega) hi) ?_
  refine lw_K b (k' := k) (av := [.int (X.2 (nI i + nI 1).toNatClampNeg), .int (X.2 (nI i + nI 2).toNatClampNeg)]) (rest := []) (rv := some (.int x)) (q := (491, .null, 0, 0, 0)) lk_Law_49 (r_K_apart (k 0) (k 1) (k 2) (k 3) (k 4) (k 5) (k 6) (k 7) (k 8) (k 9) (k 10) (k 11) (k 12) (k 13) (k 14) (k 15) (X.2 (nI i + nI 1).toNatClampNeg) (X.2 (nI i + nI 2).toNatClampNeg) x hx) rfl rfl rfl rfl (fun π => rfl) (fun π => rfl) rfl ?_
  refine sv_Q.s (σ' := (495, [some (.ref 999), some (.ref 0), some (.ref 67), some (.int (nI i))], [.ref 67, .int x], LWo b k g)) 1 rfl ?_
  refine sv_Q.s (σ' := (499, [some (.ref 999), some (.ref 0), some (.ref 67), some (.int (nI i))], [.int (nI i + nI 1), .ref 999, .ref 67, .int x], LWo b k g)) 4 rfl ?_
  refine lw_rd b (q := (499, .null, 0, 0, 0)) rfl (lw_in hL 1 (by omega) hi) ?_
  refine sv_Q.s (σ' := (504, [some (.ref 999), some (.ref 0), some (.ref 67), some (.int (nI i))], [.int (nI i + nI 2), .ref 999, .int (X.2 (nI i + nI 1).toNatClampNeg), .ref 67, .int x], LWo b k g)) 4 rfl ?_
  refine lw_rd b (q := (504, .null, 0, 0, 0)) rfl (lw_in hL 2 (by omega) hi) ?_
  refine lw_M b (g' := g) (av := [.int (X.2 (nI i + nI 1).toNatClampNeg), .int (X.2 (nI i + nI 2).toNatClampNeg)]) (rest := [.int x]) (rv := some (.int y)) (q := (505, .null, 0, 0, 0)) lk_Law_52 (r_Mo_apart N' g (X.2 (nI i + nI 1).toNatClampNeg) (X.2 (nI i + nI 2).toNatClampNeg) y hy) rfl rfl rfl rfl (fun π => rfl) (fun π => rfl) rfl ?_
  refine sv_Q.b2 rfl (fun _ => sv_Q.z rfl) (fun c => absurd hv c)
def KO_9 (N : Nat) (a1 : Int32) (a2 : Int32) (k : KS) : Option (Int32 × KS) := Option.map (fun x => (x, k)) (some (F_K_box a1 a2 (k 0) (k 11)))
def MO_9 (N : Nat) (a1 : Int32) (a2 : Int32) (g : Nat → Nat → Int32) : Option (Int32 × (Nat → Nat → Int32)) := Option.map (fun x => (x, g)) (F_Mo_box N a1 a2 g)
set_option maxHeartbeats 4000000 in
set_option maxRecDepth 100000 in
theorem lc_9 {X : Nat × (Nat → Int32)} (hL : X.1 ≤ 3072) (b : Bool) (k k' : KS) (g g' : Nat → Nat → Int32) (i N N' : Nat) (v : Int32) (hi : i + 6 ≤ X.1) (hk : KO_9 N (X.2 (nI i + nI 1).toNatClampNeg) (X.2 (nI i + nI 2).toNatClampNeg) k = some (v, k')) (hg : MO_9 N' (X.2 (nI i + nI 1).toNatClampNeg) (X.2 (nI i + nI 2).toNatClampNeg) g = some (v, g')) : sv_Q X 60 M_law (513, [some (.ref 999), some (.ref 0), some (.ref 67), some (.int (nI i))], [], LWo b k g) (some ()) (fun _ σ' => σ' = (1654, [some (.ref 999), some (.ref 0), some (.ref 67), some (.int (nI i))], [], LWo b k' g')) := by
  obtain ⟨x, hx, hf⟩ := Option.map_eq_some_iff.mp hk
  obtain ⟨y, hy, hf2⟩ := Option.map_eq_some_iff.mp hg
  have hk2 : k = k' := congrArg Prod.snd hf
  subst hk2
  have hv : x = y := (show x = v from congrArg Prod.fst hf).trans (show y = v from congrArg Prod.fst hf2).symm
  have hg2 : g = g' := congrArg Prod.snd hf2
  subst hg2
  refine sv_Q.s (σ' := (514, [some (.ref 999), some (.ref 0), some (.ref 67), some (.int (nI i))], [.ref 0], LWo b k g)) 1 rfl ?_
  refine sv_Q.s (σ' := (518, [some (.ref 999), some (.ref 0), some (.ref 67), some (.int (nI i))], [.int (nI i + nI 1), .ref 999, .ref 0], LWo b k g)) 4 rfl ?_
  refine lw_rd b (q := (518, .null, 0, 0, 0)) rfl (lw_in hL 1 (by omega) hi) ?_
  refine sv_Q.s (σ' := (523, [some (.ref 999), some (.ref 0), some (.ref 67), some (.int (nI i))], [.int (nI i + nI 2), .ref 999, .int (X.2 (nI i + nI 1).toNatClampNeg), .ref 0], LWo b k g)) 4 rfl ?_
  refine lw_rd b (q := (523, .null, 0, 0, 0)) rfl (lw_in hL 2 (by omega) hi) ?_
  refine lw_K b (k' := k) (av := [.int (X.2 (nI i + nI 1).toNatClampNeg), .int (X.2 (nI i + nI 2).toNatClampNeg)]) (rest := []) (rv := some (.int x)) (q := (524, .null, 0, 0, 0)) lk_Law_53 (r_K_box (k 0) (k 1) (k 2) (k 3) (k 4) (k 5) (k 6) (k 7) (k 8) (k 9) (k 10) (k 11) (k 12) (k 13) (k 14) (k 15) (X.2 (nI i + nI 1).toNatClampNeg) (X.2 (nI i + nI 2).toNatClampNeg) x hx) rfl rfl rfl rfl (fun π => rfl) (fun π => rfl) rfl ?_
  refine sv_Q.s (σ' := (528, [some (.ref 999), some (.ref 0), some (.ref 67), some (.int (nI i))], [.ref 67, .int x], LWo b k g)) 1 rfl ?_
  refine sv_Q.s (σ' := (532, [some (.ref 999), some (.ref 0), some (.ref 67), some (.int (nI i))], [.int (nI i + nI 1), .ref 999, .ref 67, .int x], LWo b k g)) 4 rfl ?_
  refine lw_rd b (q := (532, .null, 0, 0, 0)) rfl (lw_in hL 1 (by omega) hi) ?_
  refine sv_Q.s (σ' := (537, [some (.ref 999), some (.ref 0), some (.ref 67), some (.int (nI i))], [.int (nI i + nI 2), .ref 999, .int (X.2 (nI i + nI 1).toNatClampNeg), .ref 67, .int x], LWo b k g)) 4 rfl ?_
  refine lw_rd b (q := (537, .null, 0, 0, 0)) rfl (lw_in hL 2 (by omega) hi) ?_
  refine lw_M b (g' := g) (av := [.int (X.2 (nI i + nI 1).toNatClampNeg), .int (X.2 (nI i + nI 2).toNatClampNeg)]) (rest := [.int x]) (rv := some (.int y)) (q := (538, .null, 0, 0, 0)) lk_Law_56 (r_Mo_box N' g (X.2 (nI i + nI 1).toNatClampNeg) (X.2 (nI i + nI 2).toNatClampNeg) y hy) rfl rfl rfl rfl (fun π => rfl) (fun π => rfl) rfl ?_
  refine sv_Q.b2 rfl (fun _ => sv_Q.z rfl) (fun c => absurd hv c)
def KO_10 (N : Nat) (a1 : Int32) (k : KS) : Option (Int32 × KS) := Option.map (fun x => (x, k)) (some (F_K_at a1 (k 0) (k 9) (k 11)))
def MO_10 (N : Nat) (a1 : Int32) (g : Nat → Nat → Int32) : Option (Int32 × (Nat → Nat → Int32)) := Option.map (fun x => (x, g)) (F_Mo_at N a1 g)
set_option maxHeartbeats 4000000 in
set_option maxRecDepth 100000 in
theorem lc_10 {X : Nat × (Nat → Int32)} (hL : X.1 ≤ 3072) (b : Bool) (k k' : KS) (g g' : Nat → Nat → Int32) (i N N' : Nat) (v : Int32) (hi : i + 6 ≤ X.1) (hk : KO_10 N (X.2 (nI i + nI 1).toNatClampNeg) k = some (v, k')) (hg : MO_10 N' (X.2 (nI i + nI 1).toNatClampNeg) g = some (v, g')) : sv_Q X 60 M_law (546, [some (.ref 999), some (.ref 0), some (.ref 67), some (.int (nI i))], [], LWo b k g) (some ()) (fun _ σ' => σ' = (1654, [some (.ref 999), some (.ref 0), some (.ref 67), some (.int (nI i))], [], LWo b k' g')) := by
  obtain ⟨x, hx, hf⟩ := Option.map_eq_some_iff.mp hk
  obtain ⟨y, hy, hf2⟩ := Option.map_eq_some_iff.mp hg
  have hk2 : k = k' := congrArg Prod.snd hf
  subst hk2
  have hv : x = y := (show x = v from congrArg Prod.fst hf).trans (show y = v from congrArg Prod.fst hf2).symm
  have hg2 : g = g' := congrArg Prod.snd hf2
  subst hg2
  refine sv_Q.s (σ' := (547, [some (.ref 999), some (.ref 0), some (.ref 67), some (.int (nI i))], [.ref 0], LWo b k g)) 1 rfl ?_
  refine sv_Q.s (σ' := (551, [some (.ref 999), some (.ref 0), some (.ref 67), some (.int (nI i))], [.int (nI i + nI 1), .ref 999, .ref 0], LWo b k g)) 4 rfl ?_
  refine lw_rd b (q := (551, .null, 0, 0, 0)) rfl (lw_in hL 1 (by omega) hi) ?_
  refine lw_K b (k' := k) (av := [.int (X.2 (nI i + nI 1).toNatClampNeg)]) (rest := []) (rv := some (.int x)) (q := (552, .null, 0, 0, 0)) lk_Law_57 (r_K_at (k 0) (k 1) (k 2) (k 3) (k 4) (k 5) (k 6) (k 7) (k 8) (k 9) (k 10) (k 11) (k 12) (k 13) (k 14) (k 15) (X.2 (nI i + nI 1).toNatClampNeg) x hx) rfl rfl rfl rfl (fun π => rfl) (fun π => rfl) rfl ?_
  refine sv_Q.s (σ' := (556, [some (.ref 999), some (.ref 0), some (.ref 67), some (.int (nI i))], [.ref 67, .int x], LWo b k g)) 1 rfl ?_
  refine sv_Q.s (σ' := (560, [some (.ref 999), some (.ref 0), some (.ref 67), some (.int (nI i))], [.int (nI i + nI 1), .ref 999, .ref 67, .int x], LWo b k g)) 4 rfl ?_
  refine lw_rd b (q := (560, .null, 0, 0, 0)) rfl (lw_in hL 1 (by omega) hi) ?_
  refine lw_M b (g' := g) (av := [.int (X.2 (nI i + nI 1).toNatClampNeg)]) (rest := [.int x]) (rv := some (.int y)) (q := (561, .null, 0, 0, 0)) lk_Law_60 (r_Mo_at N' g (X.2 (nI i + nI 1).toNatClampNeg) y hy) rfl rfl rfl rfl (fun π => rfl) (fun π => rfl) rfl ?_
  refine sv_Q.b2 rfl (fun _ => sv_Q.z rfl) (fun c => absurd hv c)
def KO_11 (N : Nat) (a1 : Int32) (a2 : Int32) (a3 : Int32) (k : KS) : Option (Int32 × KS) := Option.map (fun x => (x, k)) (some (F_K_between a1 a2 a3 (k 0) (k 9)))
def MO_11 (N : Nat) (a1 : Int32) (a2 : Int32) (a3 : Int32) (g : Nat → Nat → Int32) : Option (Int32 × (Nat → Nat → Int32)) := Option.map (fun x => (x, g)) (F_Mo_between N a1 a2 a3 g)
set_option maxHeartbeats 4000000 in
set_option maxRecDepth 100000 in
theorem lc_11 {X : Nat × (Nat → Int32)} (hL : X.1 ≤ 3072) (b : Bool) (k k' : KS) (g g' : Nat → Nat → Int32) (i N N' : Nat) (v : Int32) (hi : i + 6 ≤ X.1) (hk : KO_11 N (X.2 (nI i + nI 1).toNatClampNeg) (X.2 (nI i + nI 2).toNatClampNeg) (X.2 (nI i + nI 3).toNatClampNeg) k = some (v, k')) (hg : MO_11 N' (X.2 (nI i + nI 1).toNatClampNeg) (X.2 (nI i + nI 2).toNatClampNeg) (X.2 (nI i + nI 3).toNatClampNeg) g = some (v, g')) : sv_Q X 60 M_law (569, [some (.ref 999), some (.ref 0), some (.ref 67), some (.int (nI i))], [], LWo b k g) (some ()) (fun _ σ' => σ' = (1654, [some (.ref 999), some (.ref 0), some (.ref 67), some (.int (nI i))], [], LWo b k' g')) := by
  obtain ⟨x, hx, hf⟩ := Option.map_eq_some_iff.mp hk
  obtain ⟨y, hy, hf2⟩ := Option.map_eq_some_iff.mp hg
  have hk2 : k = k' := congrArg Prod.snd hf
  subst hk2
  have hv : x = y := (show x = v from congrArg Prod.fst hf).trans (show y = v from congrArg Prod.fst hf2).symm
  have hg2 : g = g' := congrArg Prod.snd hf2
  subst hg2
  refine sv_Q.s (σ' := (570, [some (.ref 999), some (.ref 0), some (.ref 67), some (.int (nI i))], [.ref 0], LWo b k g)) 1 rfl ?_
  refine sv_Q.s (σ' := (574, [some (.ref 999), some (.ref 0), some (.ref 67), some (.int (nI i))], [.int (nI i + nI 1), .ref 999, .ref 0], LWo b k g)) 4 rfl ?_
  refine lw_rd b (q := (574, .null, 0, 0, 0)) rfl (lw_in hL 1 (by omega) hi) ?_
  refine sv_Q.s (σ' := (579, [some (.ref 999), some (.ref 0), some (.ref 67), some (.int (nI i))], [.int (nI i + nI 2), .ref 999, .int (X.2 (nI i + nI 1).toNatClampNeg), .ref 0], LWo b k g)) 4 rfl ?_
  refine lw_rd b (q := (579, .null, 0, 0, 0)) rfl (lw_in hL 2 (by omega) hi) ?_
  refine sv_Q.s (σ' := (584, [some (.ref 999), some (.ref 0), some (.ref 67), some (.int (nI i))], [.int (nI i + nI 3), .ref 999, .int (X.2 (nI i + nI 2).toNatClampNeg), .int (X.2 (nI i + nI 1).toNatClampNeg), .ref 0], LWo b k g)) 4 rfl ?_
  refine lw_rd b (q := (584, .null, 0, 0, 0)) rfl (lw_in hL 3 (by omega) hi) ?_
  refine lw_K b (k' := k) (av := [.int (X.2 (nI i + nI 1).toNatClampNeg), .int (X.2 (nI i + nI 2).toNatClampNeg), .int (X.2 (nI i + nI 3).toNatClampNeg)]) (rest := []) (rv := some (.int x)) (q := (585, .null, 0, 0, 0)) lk_Law_61 (r_K_between (k 0) (k 1) (k 2) (k 3) (k 4) (k 5) (k 6) (k 7) (k 8) (k 9) (k 10) (k 11) (k 12) (k 13) (k 14) (k 15) (X.2 (nI i + nI 1).toNatClampNeg) (X.2 (nI i + nI 2).toNatClampNeg) (X.2 (nI i + nI 3).toNatClampNeg) x hx) rfl rfl rfl rfl (fun π => rfl) (fun π => rfl) rfl ?_
  refine sv_Q.s (σ' := (589, [some (.ref 999), some (.ref 0), some (.ref 67), some (.int (nI i))], [.ref 67, .int x], LWo b k g)) 1 rfl ?_
  refine sv_Q.s (σ' := (593, [some (.ref 999), some (.ref 0), some (.ref 67), some (.int (nI i))], [.int (nI i + nI 1), .ref 999, .ref 67, .int x], LWo b k g)) 4 rfl ?_
  refine lw_rd b (q := (593, .null, 0, 0, 0)) rfl (lw_in hL 1 (by omega) hi) ?_
  refine sv_Q.s (σ' := (598, [some (.ref 999), some (.ref 0), some (.ref 67), some (.int (nI i))], [.int (nI i + nI 2), .ref 999, .int (X.2 (nI i + nI 1).toNatClampNeg), .ref 67, .int x], LWo b k g)) 4 rfl ?_
  refine lw_rd b (q := (598, .null, 0, 0, 0)) rfl (lw_in hL 2 (by omega) hi) ?_
  refine sv_Q.s (σ' := (603, [some (.ref 999), some (.ref 0), some (.ref 67), some (.int (nI i))], [.int (nI i + nI 3), .ref 999, .int (X.2 (nI i + nI 2).toNatClampNeg), .int (X.2 (nI i + nI 1).toNatClampNeg), .ref 67, .int x], LWo b k g)) 4 rfl ?_
  refine lw_rd b (q := (603, .null, 0, 0, 0)) rfl (lw_in hL 3 (by omega) hi) ?_
  refine lw_M b (g' := g) (av := [.int (X.2 (nI i + nI 1).toNatClampNeg), .int (X.2 (nI i + nI 2).toNatClampNeg), .int (X.2 (nI i + nI 3).toNatClampNeg)]) (rest := [.int x]) (rv := some (.int y)) (q := (604, .null, 0, 0, 0)) lk_Law_65 (r_Mo_between N' g (X.2 (nI i + nI 1).toNatClampNeg) (X.2 (nI i + nI 2).toNatClampNeg) (X.2 (nI i + nI 3).toNatClampNeg) y hy) rfl rfl rfl rfl (fun π => rfl) (fun π => rfl) rfl ?_
  refine sv_Q.b2 rfl (fun _ => sv_Q.z rfl) (fun c => absurd hv c)
def KO_12 (N : Nat) (a1 : Int32) (a2 : Int32) (a3 : Int32) (k : KS) : Option (Int32 × KS) := Option.map (fun x => (x, k)) (some (F_K_far a1 a2 a3 (k 0) (k 9) (k 10)))
def MO_12 (N : Nat) (a1 : Int32) (a2 : Int32) (a3 : Int32) (g : Nat → Nat → Int32) : Option (Int32 × (Nat → Nat → Int32)) := Option.map (fun x => (x, g)) (F_Mo_far N a1 a2 a3 g)
set_option maxHeartbeats 4000000 in
set_option maxRecDepth 100000 in
theorem lc_12 {X : Nat × (Nat → Int32)} (hL : X.1 ≤ 3072) (b : Bool) (k k' : KS) (g g' : Nat → Nat → Int32) (i N N' : Nat) (v : Int32) (hi : i + 6 ≤ X.1) (hk : KO_12 N (X.2 (nI i + nI 1).toNatClampNeg) (X.2 (nI i + nI 2).toNatClampNeg) (X.2 (nI i + nI 3).toNatClampNeg) k = some (v, k')) (hg : MO_12 N' (X.2 (nI i + nI 1).toNatClampNeg) (X.2 (nI i + nI 2).toNatClampNeg) (X.2 (nI i + nI 3).toNatClampNeg) g = some (v, g')) : sv_Q X 60 M_law (612, [some (.ref 999), some (.ref 0), some (.ref 67), some (.int (nI i))], [], LWo b k g) (some ()) (fun _ σ' => σ' = (1654, [some (.ref 999), some (.ref 0), some (.ref 67), some (.int (nI i))], [], LWo b k' g')) := by
  obtain ⟨x, hx, hf⟩ := Option.map_eq_some_iff.mp hk
  obtain ⟨y, hy, hf2⟩ := Option.map_eq_some_iff.mp hg
  have hk2 : k = k' := congrArg Prod.snd hf
  subst hk2
  have hv : x = y := (show x = v from congrArg Prod.fst hf).trans (show y = v from congrArg Prod.fst hf2).symm
  have hg2 : g = g' := congrArg Prod.snd hf2
  subst hg2
  refine sv_Q.s (σ' := (613, [some (.ref 999), some (.ref 0), some (.ref 67), some (.int (nI i))], [.ref 0], LWo b k g)) 1 rfl ?_
  refine sv_Q.s (σ' := (617, [some (.ref 999), some (.ref 0), some (.ref 67), some (.int (nI i))], [.int (nI i + nI 1), .ref 999, .ref 0], LWo b k g)) 4 rfl ?_
  refine lw_rd b (q := (617, .null, 0, 0, 0)) rfl (lw_in hL 1 (by omega) hi) ?_
  refine sv_Q.s (σ' := (622, [some (.ref 999), some (.ref 0), some (.ref 67), some (.int (nI i))], [.int (nI i + nI 2), .ref 999, .int (X.2 (nI i + nI 1).toNatClampNeg), .ref 0], LWo b k g)) 4 rfl ?_
  refine lw_rd b (q := (622, .null, 0, 0, 0)) rfl (lw_in hL 2 (by omega) hi) ?_
  refine sv_Q.s (σ' := (627, [some (.ref 999), some (.ref 0), some (.ref 67), some (.int (nI i))], [.int (nI i + nI 3), .ref 999, .int (X.2 (nI i + nI 2).toNatClampNeg), .int (X.2 (nI i + nI 1).toNatClampNeg), .ref 0], LWo b k g)) 4 rfl ?_
  refine lw_rd b (q := (627, .null, 0, 0, 0)) rfl (lw_in hL 3 (by omega) hi) ?_
  refine lw_K b (k' := k) (av := [.int (X.2 (nI i + nI 1).toNatClampNeg), .int (X.2 (nI i + nI 2).toNatClampNeg), .int (X.2 (nI i + nI 3).toNatClampNeg)]) (rest := []) (rv := some (.int x)) (q := (628, .null, 0, 0, 0)) lk_Law_66 (r_K_far (k 0) (k 1) (k 2) (k 3) (k 4) (k 5) (k 6) (k 7) (k 8) (k 9) (k 10) (k 11) (k 12) (k 13) (k 14) (k 15) (X.2 (nI i + nI 1).toNatClampNeg) (X.2 (nI i + nI 2).toNatClampNeg) (X.2 (nI i + nI 3).toNatClampNeg) x hx) rfl rfl rfl rfl (fun π => rfl) (fun π => rfl) rfl ?_
  refine sv_Q.s (σ' := (632, [some (.ref 999), some (.ref 0), some (.ref 67), some (.int (nI i))], [.ref 67, .int x], LWo b k g)) 1 rfl ?_
  refine sv_Q.s (σ' := (636, [some (.ref 999), some (.ref 0), some (.ref 67), some (.int (nI i))], [.int (nI i + nI 1), .ref 999, .ref 67, .int x], LWo b k g)) 4 rfl ?_
  refine lw_rd b (q := (636, .null, 0, 0, 0)) rfl (lw_in hL 1 (by omega) hi) ?_
  refine sv_Q.s (σ' := (641, [some (.ref 999), some (.ref 0), some (.ref 67), some (.int (nI i))], [.int (nI i + nI 2), .ref 999, .int (X.2 (nI i + nI 1).toNatClampNeg), .ref 67, .int x], LWo b k g)) 4 rfl ?_
  refine lw_rd b (q := (641, .null, 0, 0, 0)) rfl (lw_in hL 2 (by omega) hi) ?_
  refine sv_Q.s (σ' := (646, [some (.ref 999), some (.ref 0), some (.ref 67), some (.int (nI i))], [.int (nI i + nI 3), .ref 999, .int (X.2 (nI i + nI 2).toNatClampNeg), .int (X.2 (nI i + nI 1).toNatClampNeg), .ref 67, .int x], LWo b k g)) 4 rfl ?_
  refine lw_rd b (q := (646, .null, 0, 0, 0)) rfl (lw_in hL 3 (by omega) hi) ?_
  refine lw_M b (g' := g) (av := [.int (X.2 (nI i + nI 1).toNatClampNeg), .int (X.2 (nI i + nI 2).toNatClampNeg), .int (X.2 (nI i + nI 3).toNatClampNeg)]) (rest := [.int x]) (rv := some (.int y)) (q := (647, .null, 0, 0, 0)) lk_Law_69 (r_Mo_far N' g (X.2 (nI i + nI 1).toNatClampNeg) (X.2 (nI i + nI 2).toNatClampNeg) (X.2 (nI i + nI 3).toNatClampNeg) y hy) rfl rfl rfl rfl (fun π => rfl) (fun π => rfl) rfl ?_
  refine sv_Q.b2 rfl (fun _ => sv_Q.z rfl) (fun c => absurd hv c)
def KO_13 (N : Nat) (a1 : Int32) (a2 : Int32) (k : KS) : Option (Int32 × KS) := Option.map (fun x => (x, k)) (F_K_why N a1 a2 (k 0) (k 9) (k 10) (k 11))
def MO_13 (N : Nat) (a1 : Int32) (a2 : Int32) (g : Nat → Nat → Int32) : Option (Int32 × (Nat → Nat → Int32)) := Option.map (fun x => (x, g)) (F_Mo_why N a1 a2 g)
set_option maxHeartbeats 4000000 in
set_option maxRecDepth 100000 in
theorem lc_13 {X : Nat × (Nat → Int32)} (hL : X.1 ≤ 3072) (b : Bool) (k k' : KS) (g g' : Nat → Nat → Int32) (i N N' : Nat) (v : Int32) (hi : i + 6 ≤ X.1) (hk : KO_13 N (X.2 (nI i + nI 1).toNatClampNeg) (X.2 (nI i + nI 2).toNatClampNeg) k = some (v, k')) (hg : MO_13 N' (X.2 (nI i + nI 1).toNatClampNeg) (X.2 (nI i + nI 2).toNatClampNeg) g = some (v, g')) : sv_Q X 60 M_law (655, [some (.ref 999), some (.ref 0), some (.ref 67), some (.int (nI i))], [], LWo b k g) (some ()) (fun _ σ' => σ' = (1654, [some (.ref 999), some (.ref 0), some (.ref 67), some (.int (nI i))], [], LWo b k' g')) := by
  obtain ⟨x, hx, hf⟩ := Option.map_eq_some_iff.mp hk
  obtain ⟨y, hy, hf2⟩ := Option.map_eq_some_iff.mp hg
  have hk2 : k = k' := congrArg Prod.snd hf
  subst hk2
  have hv : x = y := (show x = v from congrArg Prod.fst hf).trans (show y = v from congrArg Prod.fst hf2).symm
  have hg2 : g = g' := congrArg Prod.snd hf2
  subst hg2
  refine sv_Q.s (σ' := (656, [some (.ref 999), some (.ref 0), some (.ref 67), some (.int (nI i))], [.ref 0], LWo b k g)) 1 rfl ?_
  refine sv_Q.s (σ' := (660, [some (.ref 999), some (.ref 0), some (.ref 67), some (.int (nI i))], [.int (nI i + nI 1), .ref 999, .ref 0], LWo b k g)) 4 rfl ?_
  refine lw_rd b (q := (660, .null, 0, 0, 0)) rfl (lw_in hL 1 (by omega) hi) ?_
  refine sv_Q.s (σ' := (665, [some (.ref 999), some (.ref 0), some (.ref 67), some (.int (nI i))], [.int (nI i + nI 2), .ref 999, .int (X.2 (nI i + nI 1).toNatClampNeg), .ref 0], LWo b k g)) 4 rfl ?_
  refine lw_rd b (q := (665, .null, 0, 0, 0)) rfl (lw_in hL 2 (by omega) hi) ?_
  refine lw_K b (k' := k) (av := [.int (X.2 (nI i + nI 1).toNatClampNeg), .int (X.2 (nI i + nI 2).toNatClampNeg)]) (rest := []) (rv := some (.int x)) (q := (666, .null, 0, 0, 0)) lk_Law_70 (r_K_why N (k 0) (k 1) (k 2) (k 3) (k 4) (k 5) (k 6) (k 7) (k 8) (k 9) (k 10) (k 11) (k 12) (k 13) (k 14) (k 15) (X.2 (nI i + nI 1).toNatClampNeg) (X.2 (nI i + nI 2).toNatClampNeg) x hx) rfl rfl rfl rfl (fun π => rfl) (fun π => rfl) rfl ?_
  refine sv_Q.s (σ' := (670, [some (.ref 999), some (.ref 0), some (.ref 67), some (.int (nI i))], [.ref 67, .int x], LWo b k g)) 1 rfl ?_
  refine sv_Q.s (σ' := (674, [some (.ref 999), some (.ref 0), some (.ref 67), some (.int (nI i))], [.int (nI i + nI 1), .ref 999, .ref 67, .int x], LWo b k g)) 4 rfl ?_
  refine lw_rd b (q := (674, .null, 0, 0, 0)) rfl (lw_in hL 1 (by omega) hi) ?_
  refine sv_Q.s (σ' := (679, [some (.ref 999), some (.ref 0), some (.ref 67), some (.int (nI i))], [.int (nI i + nI 2), .ref 999, .int (X.2 (nI i + nI 1).toNatClampNeg), .ref 67, .int x], LWo b k g)) 4 rfl ?_
  refine lw_rd b (q := (679, .null, 0, 0, 0)) rfl (lw_in hL 2 (by omega) hi) ?_
  refine lw_M b (g' := g) (av := [.int (X.2 (nI i + nI 1).toNatClampNeg), .int (X.2 (nI i + nI 2).toNatClampNeg)]) (rest := [.int x]) (rv := some (.int y)) (q := (680, .null, 0, 0, 0)) lk_Law_73 (r_Mo_why N' g (X.2 (nI i + nI 1).toNatClampNeg) (X.2 (nI i + nI 2).toNatClampNeg) y hy) rfl rfl rfl rfl (fun π => rfl) (fun π => rfl) rfl ?_
  refine sv_Q.b2 rfl (fun _ => sv_Q.z rfl) (fun c => absurd hv c)
def KO_14 (N : Nat) (a1 : Int32) (a2 : Int32) (k : KS) : Option (Int32 × KS) := Option.map (fun x => (x, k)) (F_K_nearIn N a1 a2 (k 0) (k 9) (k 10) (k 11))
def MO_14 (N : Nat) (a1 : Int32) (a2 : Int32) (g : Nat → Nat → Int32) : Option (Int32 × (Nat → Nat → Int32)) := Option.map (fun x => (x, g)) (F_Mo_nearIn N a1 a2 g)
set_option maxHeartbeats 4000000 in
set_option maxRecDepth 100000 in
theorem lc_14 {X : Nat × (Nat → Int32)} (hL : X.1 ≤ 3072) (b : Bool) (k k' : KS) (g g' : Nat → Nat → Int32) (i N N' : Nat) (v : Int32) (hi : i + 6 ≤ X.1) (hk : KO_14 N (X.2 (nI i + nI 1).toNatClampNeg) (X.2 (nI i + nI 2).toNatClampNeg) k = some (v, k')) (hg : MO_14 N' (X.2 (nI i + nI 1).toNatClampNeg) (X.2 (nI i + nI 2).toNatClampNeg) g = some (v, g')) : sv_Q X 60 M_law (688, [some (.ref 999), some (.ref 0), some (.ref 67), some (.int (nI i))], [], LWo b k g) (some ()) (fun _ σ' => σ' = (1654, [some (.ref 999), some (.ref 0), some (.ref 67), some (.int (nI i))], [], LWo b k' g')) := by
  obtain ⟨x, hx, hf⟩ := Option.map_eq_some_iff.mp hk
  obtain ⟨y, hy, hf2⟩ := Option.map_eq_some_iff.mp hg
  have hk2 : k = k' := congrArg Prod.snd hf
  subst hk2
  have hv : x = y := (show x = v from congrArg Prod.fst hf).trans (show y = v from congrArg Prod.fst hf2).symm
  have hg2 : g = g' := congrArg Prod.snd hf2
  subst hg2
  refine sv_Q.s (σ' := (689, [some (.ref 999), some (.ref 0), some (.ref 67), some (.int (nI i))], [.ref 0], LWo b k g)) 1 rfl ?_
  refine sv_Q.s (σ' := (693, [some (.ref 999), some (.ref 0), some (.ref 67), some (.int (nI i))], [.int (nI i + nI 1), .ref 999, .ref 0], LWo b k g)) 4 rfl ?_
  refine lw_rd b (q := (693, .null, 0, 0, 0)) rfl (lw_in hL 1 (by omega) hi) ?_
  refine sv_Q.s (σ' := (698, [some (.ref 999), some (.ref 0), some (.ref 67), some (.int (nI i))], [.int (nI i + nI 2), .ref 999, .int (X.2 (nI i + nI 1).toNatClampNeg), .ref 0], LWo b k g)) 4 rfl ?_
  refine lw_rd b (q := (698, .null, 0, 0, 0)) rfl (lw_in hL 2 (by omega) hi) ?_
  refine lw_K b (k' := k) (av := [.int (X.2 (nI i + nI 1).toNatClampNeg), .int (X.2 (nI i + nI 2).toNatClampNeg)]) (rest := []) (rv := some (.int x)) (q := (699, .null, 0, 0, 0)) lk_Law_74 (r_K_nearIn N (k 0) (k 1) (k 2) (k 3) (k 4) (k 5) (k 6) (k 7) (k 8) (k 9) (k 10) (k 11) (k 12) (k 13) (k 14) (k 15) (X.2 (nI i + nI 1).toNatClampNeg) (X.2 (nI i + nI 2).toNatClampNeg) x hx) rfl rfl rfl rfl (fun π => rfl) (fun π => rfl) rfl ?_
  refine sv_Q.s (σ' := (703, [some (.ref 999), some (.ref 0), some (.ref 67), some (.int (nI i))], [.ref 67, .int x], LWo b k g)) 1 rfl ?_
  refine sv_Q.s (σ' := (707, [some (.ref 999), some (.ref 0), some (.ref 67), some (.int (nI i))], [.int (nI i + nI 1), .ref 999, .ref 67, .int x], LWo b k g)) 4 rfl ?_
  refine lw_rd b (q := (707, .null, 0, 0, 0)) rfl (lw_in hL 1 (by omega) hi) ?_
  refine sv_Q.s (σ' := (712, [some (.ref 999), some (.ref 0), some (.ref 67), some (.int (nI i))], [.int (nI i + nI 2), .ref 999, .int (X.2 (nI i + nI 1).toNatClampNeg), .ref 67, .int x], LWo b k g)) 4 rfl ?_
  refine lw_rd b (q := (712, .null, 0, 0, 0)) rfl (lw_in hL 2 (by omega) hi) ?_
  refine lw_M b (g' := g) (av := [.int (X.2 (nI i + nI 1).toNatClampNeg), .int (X.2 (nI i + nI 2).toNatClampNeg)]) (rest := [.int x]) (rv := some (.int y)) (q := (713, .null, 0, 0, 0)) lk_Law_77 (r_Mo_nearIn N' g (X.2 (nI i + nI 1).toNatClampNeg) (X.2 (nI i + nI 2).toNatClampNeg) y hy) rfl rfl rfl rfl (fun π => rfl) (fun π => rfl) rfl ?_
  refine sv_Q.b2 rfl (fun _ => sv_Q.z rfl) (fun c => absurd hv c)
def KO_15 (N : Nat) (a1 : Int32) (a2 : Int32) (k : KS) : Option (Int32 × KS) := Option.map (fun x => (x, k)) (F_K_may N a1 a2 (k 0) (k 9) (k 10) (k 11))
def MO_15 (N : Nat) (a1 : Int32) (a2 : Int32) (g : Nat → Nat → Int32) : Option (Int32 × (Nat → Nat → Int32)) := Option.map (fun x => (x, g)) (F_Mo_may N a1 a2 g)
set_option maxHeartbeats 4000000 in
set_option maxRecDepth 100000 in
theorem lc_15 {X : Nat × (Nat → Int32)} (hL : X.1 ≤ 3072) (b : Bool) (k k' : KS) (g g' : Nat → Nat → Int32) (i N N' : Nat) (v : Int32) (hi : i + 6 ≤ X.1) (hk : KO_15 N (X.2 (nI i + nI 1).toNatClampNeg) (X.2 (nI i + nI 2).toNatClampNeg) k = some (v, k')) (hg : MO_15 N' (X.2 (nI i + nI 1).toNatClampNeg) (X.2 (nI i + nI 2).toNatClampNeg) g = some (v, g')) : sv_Q X 60 M_law (721, [some (.ref 999), some (.ref 0), some (.ref 67), some (.int (nI i))], [], LWo b k g) (some ()) (fun _ σ' => σ' = (1654, [some (.ref 999), some (.ref 0), some (.ref 67), some (.int (nI i))], [], LWo b k' g')) := by
  obtain ⟨x, hx, hf⟩ := Option.map_eq_some_iff.mp hk
  obtain ⟨y, hy, hf2⟩ := Option.map_eq_some_iff.mp hg
  have hk2 : k = k' := congrArg Prod.snd hf
  subst hk2
  have hv : x = y := (show x = v from congrArg Prod.fst hf).trans (show y = v from congrArg Prod.fst hf2).symm
  have hg2 : g = g' := congrArg Prod.snd hf2
  subst hg2
  refine sv_Q.s (σ' := (722, [some (.ref 999), some (.ref 0), some (.ref 67), some (.int (nI i))], [.ref 0], LWo b k g)) 1 rfl ?_
  refine sv_Q.s (σ' := (726, [some (.ref 999), some (.ref 0), some (.ref 67), some (.int (nI i))], [.int (nI i + nI 1), .ref 999, .ref 0], LWo b k g)) 4 rfl ?_
  refine lw_rd b (q := (726, .null, 0, 0, 0)) rfl (lw_in hL 1 (by omega) hi) ?_
  refine sv_Q.s (σ' := (731, [some (.ref 999), some (.ref 0), some (.ref 67), some (.int (nI i))], [.int (nI i + nI 2), .ref 999, .int (X.2 (nI i + nI 1).toNatClampNeg), .ref 0], LWo b k g)) 4 rfl ?_
  refine lw_rd b (q := (731, .null, 0, 0, 0)) rfl (lw_in hL 2 (by omega) hi) ?_
  refine lw_K b (k' := k) (av := [.int (X.2 (nI i + nI 1).toNatClampNeg), .int (X.2 (nI i + nI 2).toNatClampNeg)]) (rest := []) (rv := some (.int x)) (q := (732, .null, 0, 0, 0)) lk_Law_78 (r_K_may N (k 0) (k 1) (k 2) (k 3) (k 4) (k 5) (k 6) (k 7) (k 8) (k 9) (k 10) (k 11) (k 12) (k 13) (k 14) (k 15) (X.2 (nI i + nI 1).toNatClampNeg) (X.2 (nI i + nI 2).toNatClampNeg) x hx) rfl rfl rfl rfl (fun π => rfl) (fun π => rfl) rfl ?_
  refine sv_Q.s (σ' := (736, [some (.ref 999), some (.ref 0), some (.ref 67), some (.int (nI i))], [.ref 67, .int x], LWo b k g)) 1 rfl ?_
  refine sv_Q.s (σ' := (740, [some (.ref 999), some (.ref 0), some (.ref 67), some (.int (nI i))], [.int (nI i + nI 1), .ref 999, .ref 67, .int x], LWo b k g)) 4 rfl ?_
  refine lw_rd b (q := (740, .null, 0, 0, 0)) rfl (lw_in hL 1 (by omega) hi) ?_
  refine sv_Q.s (σ' := (745, [some (.ref 999), some (.ref 0), some (.ref 67), some (.int (nI i))], [.int (nI i + nI 2), .ref 999, .int (X.2 (nI i + nI 1).toNatClampNeg), .ref 67, .int x], LWo b k g)) 4 rfl ?_
  refine lw_rd b (q := (745, .null, 0, 0, 0)) rfl (lw_in hL 2 (by omega) hi) ?_
  refine lw_M b (g' := g) (av := [.int (X.2 (nI i + nI 1).toNatClampNeg), .int (X.2 (nI i + nI 2).toNatClampNeg)]) (rest := [.int x]) (rv := some (.int y)) (q := (746, .null, 0, 0, 0)) lk_Law_81 (r_Mo_may N' g (X.2 (nI i + nI 1).toNatClampNeg) (X.2 (nI i + nI 2).toNatClampNeg) y hy) rfl rfl rfl rfl (fun π => rfl) (fun π => rfl) rfl ?_
  refine sv_Q.b2 rfl (fun _ => sv_Q.z rfl) (fun c => absurd hv c)
def KO_16 (N : Nat) (a1 : Int32) (a2 : Int32) (k : KS) : Option (Int32 × KS) := Option.map (fun x => (x.1, (ku (ku k 1 x.2.1) 11 x.2.2))) (F_K_puts N a1 a2 (k 0) (k 1) (k 9) (k 10) (k 11))
def MO_16 (N : Nat) (a1 : Int32) (a2 : Int32) (g : Nat → Nat → Int32) : Option (Int32 × (Nat → Nat → Int32)) := Option.map (fun x => (x.1, x.2)) (F_Mo_puts N a1 a2 g)
set_option maxHeartbeats 4000000 in
set_option maxRecDepth 100000 in
theorem lc_16 {X : Nat × (Nat → Int32)} (hL : X.1 ≤ 3072) (b : Bool) (k k' : KS) (g g' : Nat → Nat → Int32) (i N N' : Nat) (v : Int32) (hi : i + 6 ≤ X.1) (hk : KO_16 N (X.2 (nI i + nI 1).toNatClampNeg) (X.2 (nI i + nI 2).toNatClampNeg) k = some (v, k')) (hg : MO_16 N' (X.2 (nI i + nI 1).toNatClampNeg) (X.2 (nI i + nI 2).toNatClampNeg) g = some (v, g')) : sv_Q X 60 M_law (754, [some (.ref 999), some (.ref 0), some (.ref 67), some (.int (nI i))], [], LWo b k g) (some ()) (fun _ σ' => σ' = (1654, [some (.ref 999), some (.ref 0), some (.ref 67), some (.int (nI i))], [], LWo b k' g')) := by
  obtain ⟨x, hx, hf⟩ := Option.map_eq_some_iff.mp hk
  obtain ⟨y, hy, hf2⟩ := Option.map_eq_some_iff.mp hg
  have hk2 : (ku (ku k 1 x.2.1) 11 x.2.2) = k' := congrArg Prod.snd hf
  subst hk2
  have hv : x.1 = y.1 := (show x.1 = v from congrArg Prod.fst hf).trans (show y.1 = v from congrArg Prod.fst hf2).symm
  have hg2 : y.2 = g' := congrArg Prod.snd hf2
  subst hg2
  refine sv_Q.s (σ' := (755, [some (.ref 999), some (.ref 0), some (.ref 67), some (.int (nI i))], [.ref 0], LWo b k g)) 1 rfl ?_
  refine sv_Q.s (σ' := (759, [some (.ref 999), some (.ref 0), some (.ref 67), some (.int (nI i))], [.int (nI i + nI 1), .ref 999, .ref 0], LWo b k g)) 4 rfl ?_
  refine lw_rd b (q := (759, .null, 0, 0, 0)) rfl (lw_in hL 1 (by omega) hi) ?_
  refine sv_Q.s (σ' := (764, [some (.ref 999), some (.ref 0), some (.ref 67), some (.int (nI i))], [.int (nI i + nI 2), .ref 999, .int (X.2 (nI i + nI 1).toNatClampNeg), .ref 0], LWo b k g)) 4 rfl ?_
  refine lw_rd b (q := (764, .null, 0, 0, 0)) rfl (lw_in hL 2 (by omega) hi) ?_
  refine lw_K b (k' := (ku (ku k 1 x.2.1) 11 x.2.2)) (av := [.int (X.2 (nI i + nI 1).toNatClampNeg), .int (X.2 (nI i + nI 2).toNatClampNeg)]) (rest := []) (rv := some (.int x.1)) (q := (765, .null, 0, 0, 0)) lk_Law_82 (r_K_puts N (k 0) (k 1) (k 2) (k 3) (k 4) (k 5) (k 6) (k 7) (k 8) (k 9) (k 10) (k 11) (k 12) (k 13) (k 14) (k 15) (X.2 (nI i + nI 1).toNatClampNeg) (X.2 (nI i + nI 2).toNatClampNeg) x hx) rfl rfl rfl rfl (fun π => rfl) (fun π => rfl) rfl ?_
  refine sv_Q.s (σ' := (769, [some (.ref 999), some (.ref 0), some (.ref 67), some (.int (nI i))], [.ref 67, .int x.1], LWo b (ku (ku k 1 x.2.1) 11 x.2.2) g)) 1 rfl ?_
  refine sv_Q.s (σ' := (773, [some (.ref 999), some (.ref 0), some (.ref 67), some (.int (nI i))], [.int (nI i + nI 1), .ref 999, .ref 67, .int x.1], LWo b (ku (ku k 1 x.2.1) 11 x.2.2) g)) 4 rfl ?_
  refine lw_rd b (q := (773, .null, 0, 0, 0)) rfl (lw_in hL 1 (by omega) hi) ?_
  refine sv_Q.s (σ' := (778, [some (.ref 999), some (.ref 0), some (.ref 67), some (.int (nI i))], [.int (nI i + nI 2), .ref 999, .int (X.2 (nI i + nI 1).toNatClampNeg), .ref 67, .int x.1], LWo b (ku (ku k 1 x.2.1) 11 x.2.2) g)) 4 rfl ?_
  refine lw_rd b (q := (778, .null, 0, 0, 0)) rfl (lw_in hL 2 (by omega) hi) ?_
  refine lw_M b (g' := y.2) (av := [.int (X.2 (nI i + nI 1).toNatClampNeg), .int (X.2 (nI i + nI 2).toNatClampNeg)]) (rest := [.int x.1]) (rv := some (.int y.1)) (q := (779, .null, 0, 0, 0)) lk_Law_85 (r_Mo_puts N' g (X.2 (nI i + nI 1).toNatClampNeg) (X.2 (nI i + nI 2).toNatClampNeg) y hy) rfl rfl rfl rfl (fun π => rfl) (fun π => rfl) rfl ?_
  refine sv_Q.b2 rfl (fun _ => sv_Q.z rfl) (fun c => absurd hv c)
def KO_17 (N : Nat) (a1 : Int32) (k : KS) : Option (Int32 × KS) := Option.map (fun x => (x.1, (ku (ku k 1 x.2.1) 11 x.2.2))) (F_K_lifts N a1 (k 0) (k 1) (k 9) (k 11))
def MO_17 (N : Nat) (a1 : Int32) (g : Nat → Nat → Int32) : Option (Int32 × (Nat → Nat → Int32)) := Option.map (fun x => (x.1, x.2)) (F_Mo_lifts N a1 g)
set_option maxHeartbeats 4000000 in
set_option maxRecDepth 100000 in
theorem lc_17 {X : Nat × (Nat → Int32)} (hL : X.1 ≤ 3072) (b : Bool) (k k' : KS) (g g' : Nat → Nat → Int32) (i N N' : Nat) (v : Int32) (hi : i + 6 ≤ X.1) (hk : KO_17 N (X.2 (nI i + nI 1).toNatClampNeg) k = some (v, k')) (hg : MO_17 N' (X.2 (nI i + nI 1).toNatClampNeg) g = some (v, g')) : sv_Q X 60 M_law (787, [some (.ref 999), some (.ref 0), some (.ref 67), some (.int (nI i))], [], LWo b k g) (some ()) (fun _ σ' => σ' = (1654, [some (.ref 999), some (.ref 0), some (.ref 67), some (.int (nI i))], [], LWo b k' g')) := by
  obtain ⟨x, hx, hf⟩ := Option.map_eq_some_iff.mp hk
  obtain ⟨y, hy, hf2⟩ := Option.map_eq_some_iff.mp hg
  have hk2 : (ku (ku k 1 x.2.1) 11 x.2.2) = k' := congrArg Prod.snd hf
  subst hk2
  have hv : x.1 = y.1 := (show x.1 = v from congrArg Prod.fst hf).trans (show y.1 = v from congrArg Prod.fst hf2).symm
  have hg2 : y.2 = g' := congrArg Prod.snd hf2
  subst hg2
  refine sv_Q.s (σ' := (788, [some (.ref 999), some (.ref 0), some (.ref 67), some (.int (nI i))], [.ref 0], LWo b k g)) 1 rfl ?_
  refine sv_Q.s (σ' := (792, [some (.ref 999), some (.ref 0), some (.ref 67), some (.int (nI i))], [.int (nI i + nI 1), .ref 999, .ref 0], LWo b k g)) 4 rfl ?_
  refine lw_rd b (q := (792, .null, 0, 0, 0)) rfl (lw_in hL 1 (by omega) hi) ?_
  refine lw_K b (k' := (ku (ku k 1 x.2.1) 11 x.2.2)) (av := [.int (X.2 (nI i + nI 1).toNatClampNeg)]) (rest := []) (rv := some (.int x.1)) (q := (793, .null, 0, 0, 0)) lk_Law_86 (r_K_lifts N (k 0) (k 1) (k 2) (k 3) (k 4) (k 5) (k 6) (k 7) (k 8) (k 9) (k 10) (k 11) (k 12) (k 13) (k 14) (k 15) (X.2 (nI i + nI 1).toNatClampNeg) x hx) rfl rfl rfl rfl (fun π => rfl) (fun π => rfl) rfl ?_
  refine sv_Q.s (σ' := (797, [some (.ref 999), some (.ref 0), some (.ref 67), some (.int (nI i))], [.ref 67, .int x.1], LWo b (ku (ku k 1 x.2.1) 11 x.2.2) g)) 1 rfl ?_
  refine sv_Q.s (σ' := (801, [some (.ref 999), some (.ref 0), some (.ref 67), some (.int (nI i))], [.int (nI i + nI 1), .ref 999, .ref 67, .int x.1], LWo b (ku (ku k 1 x.2.1) 11 x.2.2) g)) 4 rfl ?_
  refine lw_rd b (q := (801, .null, 0, 0, 0)) rfl (lw_in hL 1 (by omega) hi) ?_
  refine lw_M b (g' := y.2) (av := [.int (X.2 (nI i + nI 1).toNatClampNeg)]) (rest := [.int x.1]) (rv := some (.int y.1)) (q := (802, .null, 0, 0, 0)) lk_Law_89 (r_Mo_lifts N' g (X.2 (nI i + nI 1).toNatClampNeg) y hy) rfl rfl rfl rfl (fun π => rfl) (fun π => rfl) rfl ?_
  refine sv_Q.b2 rfl (fun _ => sv_Q.z rfl) (fun c => absurd hv c)
def KO_18 (N : Nat) (a1 : Int32) (a2 : Int32) (k : KS) : Option (Int32 × KS) := Option.map (fun x => (x.1, (ku (ku k 1 x.2.1) 9 x.2.2))) (F_K_opens N a1 a2 (k 0) (k 1) (k 9) (k 10) (k 11))
def MO_18 (N : Nat) (a1 : Int32) (a2 : Int32) (g : Nat → Nat → Int32) : Option (Int32 × (Nat → Nat → Int32)) := Option.map (fun x => (x.1, x.2)) (F_Mo_opens N a1 a2 g)
set_option maxHeartbeats 4000000 in
set_option maxRecDepth 100000 in
theorem lc_18 {X : Nat × (Nat → Int32)} (hL : X.1 ≤ 3072) (b : Bool) (k k' : KS) (g g' : Nat → Nat → Int32) (i N N' : Nat) (v : Int32) (hi : i + 6 ≤ X.1) (hk : KO_18 N (X.2 (nI i + nI 1).toNatClampNeg) (X.2 (nI i + nI 2).toNatClampNeg) k = some (v, k')) (hg : MO_18 N' (X.2 (nI i + nI 1).toNatClampNeg) (X.2 (nI i + nI 2).toNatClampNeg) g = some (v, g')) : sv_Q X 60 M_law (810, [some (.ref 999), some (.ref 0), some (.ref 67), some (.int (nI i))], [], LWo b k g) (some ()) (fun _ σ' => σ' = (1654, [some (.ref 999), some (.ref 0), some (.ref 67), some (.int (nI i))], [], LWo b k' g')) := by
  obtain ⟨x, hx, hf⟩ := Option.map_eq_some_iff.mp hk
  obtain ⟨y, hy, hf2⟩ := Option.map_eq_some_iff.mp hg
  have hk2 : (ku (ku k 1 x.2.1) 9 x.2.2) = k' := congrArg Prod.snd hf
  subst hk2
  have hv : x.1 = y.1 := (show x.1 = v from congrArg Prod.fst hf).trans (show y.1 = v from congrArg Prod.fst hf2).symm
  have hg2 : y.2 = g' := congrArg Prod.snd hf2
  subst hg2
  refine sv_Q.s (σ' := (811, [some (.ref 999), some (.ref 0), some (.ref 67), some (.int (nI i))], [.ref 0], LWo b k g)) 1 rfl ?_
  refine sv_Q.s (σ' := (815, [some (.ref 999), some (.ref 0), some (.ref 67), some (.int (nI i))], [.int (nI i + nI 1), .ref 999, .ref 0], LWo b k g)) 4 rfl ?_
  refine lw_rd b (q := (815, .null, 0, 0, 0)) rfl (lw_in hL 1 (by omega) hi) ?_
  refine sv_Q.s (σ' := (820, [some (.ref 999), some (.ref 0), some (.ref 67), some (.int (nI i))], [.int (nI i + nI 2), .ref 999, .int (X.2 (nI i + nI 1).toNatClampNeg), .ref 0], LWo b k g)) 4 rfl ?_
  refine lw_rd b (q := (820, .null, 0, 0, 0)) rfl (lw_in hL 2 (by omega) hi) ?_
  refine lw_K b (k' := (ku (ku k 1 x.2.1) 9 x.2.2)) (av := [.int (X.2 (nI i + nI 1).toNatClampNeg), .int (X.2 (nI i + nI 2).toNatClampNeg)]) (rest := []) (rv := some (.int x.1)) (q := (821, .null, 0, 0, 0)) lk_Law_90 (r_K_opens N (k 0) (k 1) (k 2) (k 3) (k 4) (k 5) (k 6) (k 7) (k 8) (k 9) (k 10) (k 11) (k 12) (k 13) (k 14) (k 15) (X.2 (nI i + nI 1).toNatClampNeg) (X.2 (nI i + nI 2).toNatClampNeg) x hx) rfl rfl rfl rfl (fun π => rfl) (fun π => rfl) rfl ?_
  refine sv_Q.s (σ' := (825, [some (.ref 999), some (.ref 0), some (.ref 67), some (.int (nI i))], [.ref 67, .int x.1], LWo b (ku (ku k 1 x.2.1) 9 x.2.2) g)) 1 rfl ?_
  refine sv_Q.s (σ' := (829, [some (.ref 999), some (.ref 0), some (.ref 67), some (.int (nI i))], [.int (nI i + nI 1), .ref 999, .ref 67, .int x.1], LWo b (ku (ku k 1 x.2.1) 9 x.2.2) g)) 4 rfl ?_
  refine lw_rd b (q := (829, .null, 0, 0, 0)) rfl (lw_in hL 1 (by omega) hi) ?_
  refine sv_Q.s (σ' := (834, [some (.ref 999), some (.ref 0), some (.ref 67), some (.int (nI i))], [.int (nI i + nI 2), .ref 999, .int (X.2 (nI i + nI 1).toNatClampNeg), .ref 67, .int x.1], LWo b (ku (ku k 1 x.2.1) 9 x.2.2) g)) 4 rfl ?_
  refine lw_rd b (q := (834, .null, 0, 0, 0)) rfl (lw_in hL 2 (by omega) hi) ?_
  refine lw_M b (g' := y.2) (av := [.int (X.2 (nI i + nI 1).toNatClampNeg), .int (X.2 (nI i + nI 2).toNatClampNeg)]) (rest := [.int x.1]) (rv := some (.int y.1)) (q := (835, .null, 0, 0, 0)) lk_Law_93 (r_Mo_opens N' g (X.2 (nI i + nI 1).toNatClampNeg) (X.2 (nI i + nI 2).toNatClampNeg) y hy) rfl rfl rfl rfl (fun π => rfl) (fun π => rfl) rfl ?_
  refine sv_Q.b2 rfl (fun _ => sv_Q.z rfl) (fun c => absurd hv c)
def KO_19 (N : Nat) (a1 : Int32) (a2 : Int32) (a3 : Int32) (k : KS) : Option (Int32 × KS) := Option.map (fun x => (x.1, (ku (ku k 1 x.2.1) 11 x.2.2))) (F_K_books N a1 a2 a3 (k 0) (k 1) (k 9) (k 10) (k 11))
def MO_19 (N : Nat) (a1 : Int32) (a2 : Int32) (a3 : Int32) (g : Nat → Nat → Int32) : Option (Int32 × (Nat → Nat → Int32)) := Option.map (fun x => (x.1, x.2)) (F_Mo_books N a1 a2 a3 g)
set_option maxHeartbeats 4000000 in
set_option maxRecDepth 100000 in
theorem lc_19 {X : Nat × (Nat → Int32)} (hL : X.1 ≤ 3072) (b : Bool) (k k' : KS) (g g' : Nat → Nat → Int32) (i N N' : Nat) (v : Int32) (hi : i + 6 ≤ X.1) (hk : KO_19 N (X.2 (nI i + nI 1).toNatClampNeg) (X.2 (nI i + nI 2).toNatClampNeg) (X.2 (nI i + nI 3).toNatClampNeg) k = some (v, k')) (hg : MO_19 N' (X.2 (nI i + nI 1).toNatClampNeg) (X.2 (nI i + nI 2).toNatClampNeg) (X.2 (nI i + nI 3).toNatClampNeg) g = some (v, g')) : sv_Q X 60 M_law (843, [some (.ref 999), some (.ref 0), some (.ref 67), some (.int (nI i))], [], LWo b k g) (some ()) (fun _ σ' => σ' = (1654, [some (.ref 999), some (.ref 0), some (.ref 67), some (.int (nI i))], [], LWo b k' g')) := by
  obtain ⟨x, hx, hf⟩ := Option.map_eq_some_iff.mp hk
  obtain ⟨y, hy, hf2⟩ := Option.map_eq_some_iff.mp hg
  have hk2 : (ku (ku k 1 x.2.1) 11 x.2.2) = k' := congrArg Prod.snd hf
  subst hk2
  have hv : x.1 = y.1 := (show x.1 = v from congrArg Prod.fst hf).trans (show y.1 = v from congrArg Prod.fst hf2).symm
  have hg2 : y.2 = g' := congrArg Prod.snd hf2
  subst hg2
  refine sv_Q.s (σ' := (844, [some (.ref 999), some (.ref 0), some (.ref 67), some (.int (nI i))], [.ref 0], LWo b k g)) 1 rfl ?_
  refine sv_Q.s (σ' := (848, [some (.ref 999), some (.ref 0), some (.ref 67), some (.int (nI i))], [.int (nI i + nI 1), .ref 999, .ref 0], LWo b k g)) 4 rfl ?_
  refine lw_rd b (q := (848, .null, 0, 0, 0)) rfl (lw_in hL 1 (by omega) hi) ?_
  refine sv_Q.s (σ' := (853, [some (.ref 999), some (.ref 0), some (.ref 67), some (.int (nI i))], [.int (nI i + nI 2), .ref 999, .int (X.2 (nI i + nI 1).toNatClampNeg), .ref 0], LWo b k g)) 4 rfl ?_
  refine lw_rd b (q := (853, .null, 0, 0, 0)) rfl (lw_in hL 2 (by omega) hi) ?_
  refine sv_Q.s (σ' := (858, [some (.ref 999), some (.ref 0), some (.ref 67), some (.int (nI i))], [.int (nI i + nI 3), .ref 999, .int (X.2 (nI i + nI 2).toNatClampNeg), .int (X.2 (nI i + nI 1).toNatClampNeg), .ref 0], LWo b k g)) 4 rfl ?_
  refine lw_rd b (q := (858, .null, 0, 0, 0)) rfl (lw_in hL 3 (by omega) hi) ?_
  refine lw_K b (k' := (ku (ku k 1 x.2.1) 11 x.2.2)) (av := [.int (X.2 (nI i + nI 1).toNatClampNeg), .int (X.2 (nI i + nI 2).toNatClampNeg), .int (X.2 (nI i + nI 3).toNatClampNeg)]) (rest := []) (rv := some (.int x.1)) (q := (859, .null, 0, 0, 0)) lk_Law_94 (r_K_books N (k 0) (k 1) (k 2) (k 3) (k 4) (k 5) (k 6) (k 7) (k 8) (k 9) (k 10) (k 11) (k 12) (k 13) (k 14) (k 15) (X.2 (nI i + nI 1).toNatClampNeg) (X.2 (nI i + nI 2).toNatClampNeg) (X.2 (nI i + nI 3).toNatClampNeg) x hx) rfl rfl rfl rfl (fun π => rfl) (fun π => rfl) rfl ?_
  refine sv_Q.s (σ' := (863, [some (.ref 999), some (.ref 0), some (.ref 67), some (.int (nI i))], [.ref 67, .int x.1], LWo b (ku (ku k 1 x.2.1) 11 x.2.2) g)) 1 rfl ?_
  refine sv_Q.s (σ' := (867, [some (.ref 999), some (.ref 0), some (.ref 67), some (.int (nI i))], [.int (nI i + nI 1), .ref 999, .ref 67, .int x.1], LWo b (ku (ku k 1 x.2.1) 11 x.2.2) g)) 4 rfl ?_
  refine lw_rd b (q := (867, .null, 0, 0, 0)) rfl (lw_in hL 1 (by omega) hi) ?_
  refine sv_Q.s (σ' := (872, [some (.ref 999), some (.ref 0), some (.ref 67), some (.int (nI i))], [.int (nI i + nI 2), .ref 999, .int (X.2 (nI i + nI 1).toNatClampNeg), .ref 67, .int x.1], LWo b (ku (ku k 1 x.2.1) 11 x.2.2) g)) 4 rfl ?_
  refine lw_rd b (q := (872, .null, 0, 0, 0)) rfl (lw_in hL 2 (by omega) hi) ?_
  refine sv_Q.s (σ' := (877, [some (.ref 999), some (.ref 0), some (.ref 67), some (.int (nI i))], [.int (nI i + nI 3), .ref 999, .int (X.2 (nI i + nI 2).toNatClampNeg), .int (X.2 (nI i + nI 1).toNatClampNeg), .ref 67, .int x.1], LWo b (ku (ku k 1 x.2.1) 11 x.2.2) g)) 4 rfl ?_
  refine lw_rd b (q := (877, .null, 0, 0, 0)) rfl (lw_in hL 3 (by omega) hi) ?_
  refine lw_M b (g' := y.2) (av := [.int (X.2 (nI i + nI 1).toNatClampNeg), .int (X.2 (nI i + nI 2).toNatClampNeg), .int (X.2 (nI i + nI 3).toNatClampNeg)]) (rest := [.int x.1]) (rv := some (.int y.1)) (q := (878, .null, 0, 0, 0)) lk_Law_97 (r_Mo_books N' g (X.2 (nI i + nI 1).toNatClampNeg) (X.2 (nI i + nI 2).toNatClampNeg) (X.2 (nI i + nI 3).toNatClampNeg) y hy) rfl rfl rfl rfl (fun π => rfl) (fun π => rfl) rfl ?_
  refine sv_Q.b2 rfl (fun _ => sv_Q.z rfl) (fun c => absurd hv c)
def KO_20 (N : Nat) (a1 : Int32) (k : KS) : Option (Int32 × KS) := Option.map (fun x => (x, k)) (F_K_near N a1 (k 0) (k 9) (k 10) (k 11))
def MO_20 (N : Nat) (a1 : Int32) (g : Nat → Nat → Int32) : Option (Int32 × (Nat → Nat → Int32)) := Option.map (fun x => (x, g)) (F_Mo_near N a1 g)
set_option maxHeartbeats 4000000 in
set_option maxRecDepth 100000 in
theorem lc_20 {X : Nat × (Nat → Int32)} (hL : X.1 ≤ 3072) (b : Bool) (k k' : KS) (g g' : Nat → Nat → Int32) (i N N' : Nat) (v : Int32) (hi : i + 6 ≤ X.1) (hk : KO_20 N (X.2 (nI i + nI 1).toNatClampNeg) k = some (v, k')) (hg : MO_20 N' (X.2 (nI i + nI 1).toNatClampNeg) g = some (v, g')) : sv_Q X 60 M_law (886, [some (.ref 999), some (.ref 0), some (.ref 67), some (.int (nI i))], [], LWo b k g) (some ()) (fun _ σ' => σ' = (1654, [some (.ref 999), some (.ref 0), some (.ref 67), some (.int (nI i))], [], LWo b k' g')) := by
  obtain ⟨x, hx, hf⟩ := Option.map_eq_some_iff.mp hk
  obtain ⟨y, hy, hf2⟩ := Option.map_eq_some_iff.mp hg
  have hk2 : k = k' := congrArg Prod.snd hf
  subst hk2
  have hv : x = y := (show x = v from congrArg Prod.fst hf).trans (show y = v from congrArg Prod.fst hf2).symm
  have hg2 : g = g' := congrArg Prod.snd hf2
  subst hg2
  refine sv_Q.s (σ' := (887, [some (.ref 999), some (.ref 0), some (.ref 67), some (.int (nI i))], [.ref 0], LWo b k g)) 1 rfl ?_
  refine sv_Q.s (σ' := (891, [some (.ref 999), some (.ref 0), some (.ref 67), some (.int (nI i))], [.int (nI i + nI 1), .ref 999, .ref 0], LWo b k g)) 4 rfl ?_
  refine lw_rd b (q := (891, .null, 0, 0, 0)) rfl (lw_in hL 1 (by omega) hi) ?_
  refine lw_K b (k' := k) (av := [.int (X.2 (nI i + nI 1).toNatClampNeg)]) (rest := []) (rv := some (.int x)) (q := (892, .null, 0, 0, 0)) lk_Law_98 (r_K_near N (k 0) (k 1) (k 2) (k 3) (k 4) (k 5) (k 6) (k 7) (k 8) (k 9) (k 10) (k 11) (k 12) (k 13) (k 14) (k 15) (X.2 (nI i + nI 1).toNatClampNeg) x hx) rfl rfl rfl rfl (fun π => rfl) (fun π => rfl) rfl ?_
  refine sv_Q.s (σ' := (896, [some (.ref 999), some (.ref 0), some (.ref 67), some (.int (nI i))], [.ref 67, .int x], LWo b k g)) 1 rfl ?_
  refine sv_Q.s (σ' := (900, [some (.ref 999), some (.ref 0), some (.ref 67), some (.int (nI i))], [.int (nI i + nI 1), .ref 999, .ref 67, .int x], LWo b k g)) 4 rfl ?_
  refine lw_rd b (q := (900, .null, 0, 0, 0)) rfl (lw_in hL 1 (by omega) hi) ?_
  refine lw_M b (g' := g) (av := [.int (X.2 (nI i + nI 1).toNatClampNeg)]) (rest := [.int x]) (rv := some (.int y)) (q := (901, .null, 0, 0, 0)) lk_Law_101 (r_Mo_near N' g (X.2 (nI i + nI 1).toNatClampNeg) y hy) rfl rfl rfl rfl (fun π => rfl) (fun π => rfl) rfl ?_
  refine sv_Q.b2 rfl (fun _ => sv_Q.z rfl) (fun c => absurd hv c)
def KO_21 (N : Nat) (a1 : Int32) (k : KS) : Option (Int32 × KS) := Option.map (fun x => (x, k)) (F_K_nearTo N a1 (k 0) (k 9) (k 10) (k 11))
def MO_21 (N : Nat) (a1 : Int32) (g : Nat → Nat → Int32) : Option (Int32 × (Nat → Nat → Int32)) := Option.map (fun x => (x, g)) (F_Mo_nearTo N a1 g)
set_option maxHeartbeats 4000000 in
set_option maxRecDepth 100000 in
theorem lc_21 {X : Nat × (Nat → Int32)} (hL : X.1 ≤ 3072) (b : Bool) (k k' : KS) (g g' : Nat → Nat → Int32) (i N N' : Nat) (v : Int32) (hi : i + 6 ≤ X.1) (hk : KO_21 N (X.2 (nI i + nI 1).toNatClampNeg) k = some (v, k')) (hg : MO_21 N' (X.2 (nI i + nI 1).toNatClampNeg) g = some (v, g')) : sv_Q X 60 M_law (909, [some (.ref 999), some (.ref 0), some (.ref 67), some (.int (nI i))], [], LWo b k g) (some ()) (fun _ σ' => σ' = (1654, [some (.ref 999), some (.ref 0), some (.ref 67), some (.int (nI i))], [], LWo b k' g')) := by
  obtain ⟨x, hx, hf⟩ := Option.map_eq_some_iff.mp hk
  obtain ⟨y, hy, hf2⟩ := Option.map_eq_some_iff.mp hg
  have hk2 : k = k' := congrArg Prod.snd hf
  subst hk2
  have hv : x = y := (show x = v from congrArg Prod.fst hf).trans (show y = v from congrArg Prod.fst hf2).symm
  have hg2 : g = g' := congrArg Prod.snd hf2
  subst hg2
  refine sv_Q.s (σ' := (910, [some (.ref 999), some (.ref 0), some (.ref 67), some (.int (nI i))], [.ref 0], LWo b k g)) 1 rfl ?_
  refine sv_Q.s (σ' := (914, [some (.ref 999), some (.ref 0), some (.ref 67), some (.int (nI i))], [.int (nI i + nI 1), .ref 999, .ref 0], LWo b k g)) 4 rfl ?_
  refine lw_rd b (q := (914, .null, 0, 0, 0)) rfl (lw_in hL 1 (by omega) hi) ?_
  refine lw_K b (k' := k) (av := [.int (X.2 (nI i + nI 1).toNatClampNeg)]) (rest := []) (rv := some (.int x)) (q := (915, .null, 0, 0, 0)) lk_Law_102 (r_K_nearTo N (k 0) (k 1) (k 2) (k 3) (k 4) (k 5) (k 6) (k 7) (k 8) (k 9) (k 10) (k 11) (k 12) (k 13) (k 14) (k 15) (X.2 (nI i + nI 1).toNatClampNeg) x hx) rfl rfl rfl rfl (fun π => rfl) (fun π => rfl) rfl ?_
  refine sv_Q.s (σ' := (919, [some (.ref 999), some (.ref 0), some (.ref 67), some (.int (nI i))], [.ref 67, .int x], LWo b k g)) 1 rfl ?_
  refine sv_Q.s (σ' := (923, [some (.ref 999), some (.ref 0), some (.ref 67), some (.int (nI i))], [.int (nI i + nI 1), .ref 999, .ref 67, .int x], LWo b k g)) 4 rfl ?_
  refine lw_rd b (q := (923, .null, 0, 0, 0)) rfl (lw_in hL 1 (by omega) hi) ?_
  refine lw_M b (g' := g) (av := [.int (X.2 (nI i + nI 1).toNatClampNeg)]) (rest := [.int x]) (rv := some (.int y)) (q := (924, .null, 0, 0, 0)) lk_Law_105 (r_Mo_nearTo N' g (X.2 (nI i + nI 1).toNatClampNeg) y hy) rfl rfl rfl rfl (fun π => rfl) (fun π => rfl) rfl ?_
  refine sv_Q.b2 rfl (fun _ => sv_Q.z rfl) (fun c => absurd hv c)
def KO_22 (N : Nat) (a1 : Int32) (k : KS) : Option (Int32 × KS) := Option.map (fun x => (x.1, (ku (ku k 8 x.2.1) 9 x.2.2))) (F_K_doors N a1 (k 0) (k 8) (k 9) (k 10) (k 11))
def MO_22 (N : Nat) (a1 : Int32) (g : Nat → Nat → Int32) : Option (Int32 × (Nat → Nat → Int32)) := Option.map (fun x => (x, g)) (F_Mo_doors N a1 g)
set_option maxHeartbeats 4000000 in
set_option maxRecDepth 100000 in
theorem lc_22 {X : Nat × (Nat → Int32)} (hL : X.1 ≤ 3072) (b : Bool) (k k' : KS) (g g' : Nat → Nat → Int32) (i N N' : Nat) (v : Int32) (hi : i + 6 ≤ X.1) (hk : KO_22 N (X.2 (nI i + nI 1).toNatClampNeg) k = some (v, k')) (hg : MO_22 N' (X.2 (nI i + nI 1).toNatClampNeg) g = some (v, g')) : sv_Q X 60 M_law (932, [some (.ref 999), some (.ref 0), some (.ref 67), some (.int (nI i))], [], LWo b k g) (some ()) (fun _ σ' => σ' = (1654, [some (.ref 999), some (.ref 0), some (.ref 67), some (.int (nI i))], [], LWo b k' g')) := by
  obtain ⟨x, hx, hf⟩ := Option.map_eq_some_iff.mp hk
  obtain ⟨y, hy, hf2⟩ := Option.map_eq_some_iff.mp hg
  have hk2 : (ku (ku k 8 x.2.1) 9 x.2.2) = k' := congrArg Prod.snd hf
  subst hk2
  have hv : x.1 = y := (show x.1 = v from congrArg Prod.fst hf).trans (show y = v from congrArg Prod.fst hf2).symm
  have hg2 : g = g' := congrArg Prod.snd hf2
  subst hg2
  refine sv_Q.s (σ' := (933, [some (.ref 999), some (.ref 0), some (.ref 67), some (.int (nI i))], [.ref 0], LWo b k g)) 1 rfl ?_
  refine sv_Q.s (σ' := (937, [some (.ref 999), some (.ref 0), some (.ref 67), some (.int (nI i))], [.int (nI i + nI 1), .ref 999, .ref 0], LWo b k g)) 4 rfl ?_
  refine lw_rd b (q := (937, .null, 0, 0, 0)) rfl (lw_in hL 1 (by omega) hi) ?_
  refine lw_K b (k' := (ku (ku k 8 x.2.1) 9 x.2.2)) (av := [.int (X.2 (nI i + nI 1).toNatClampNeg)]) (rest := []) (rv := some (.int x.1)) (q := (938, .null, 0, 0, 0)) lk_Law_106 (r_K_doors N (k 0) (k 1) (k 2) (k 3) (k 4) (k 5) (k 6) (k 7) (k 8) (k 9) (k 10) (k 11) (k 12) (k 13) (k 14) (k 15) (X.2 (nI i + nI 1).toNatClampNeg) x hx) rfl rfl rfl rfl (fun π => rfl) (fun π => rfl) rfl ?_
  refine sv_Q.s (σ' := (942, [some (.ref 999), some (.ref 0), some (.ref 67), some (.int (nI i))], [.ref 67, .int x.1], LWo b (ku (ku k 8 x.2.1) 9 x.2.2) g)) 1 rfl ?_
  refine sv_Q.s (σ' := (946, [some (.ref 999), some (.ref 0), some (.ref 67), some (.int (nI i))], [.int (nI i + nI 1), .ref 999, .ref 67, .int x.1], LWo b (ku (ku k 8 x.2.1) 9 x.2.2) g)) 4 rfl ?_
  refine lw_rd b (q := (946, .null, 0, 0, 0)) rfl (lw_in hL 1 (by omega) hi) ?_
  refine lw_M b (g' := g) (av := [.int (X.2 (nI i + nI 1).toNatClampNeg)]) (rest := [.int x.1]) (rv := some (.int y)) (q := (947, .null, 0, 0, 0)) lk_Law_109 (r_Mo_doors N' g (X.2 (nI i + nI 1).toNatClampNeg) y hy) rfl rfl rfl rfl (fun π => rfl) (fun π => rfl) rfl ?_
  refine sv_Q.b2 rfl (fun _ => sv_Q.z rfl) (fun c => absurd hv c)
def KO_23 (N : Nat) (a1 : Int32) (a2 : Int32) (a3 : Int32) (k : KS) : Option (Int32 × KS) := Option.map (fun x => (x, k)) (F_K_weighs N a1 a2 a3 (k 0) (k 9) (k 11))
def MO_23 (N : Nat) (a1 : Int32) (a2 : Int32) (a3 : Int32) (g : Nat → Nat → Int32) : Option (Int32 × (Nat → Nat → Int32)) := Option.map (fun x => (x, g)) (F_Mo_weighs N a1 a2 a3 g)
set_option maxHeartbeats 4000000 in
set_option maxRecDepth 100000 in
theorem lc_23 {X : Nat × (Nat → Int32)} (hL : X.1 ≤ 3072) (b : Bool) (k k' : KS) (g g' : Nat → Nat → Int32) (i N N' : Nat) (v : Int32) (hi : i + 6 ≤ X.1) (hk : KO_23 N (X.2 (nI i + nI 1).toNatClampNeg) (X.2 (nI i + nI 2).toNatClampNeg) (X.2 (nI i + nI 3).toNatClampNeg) k = some (v, k')) (hg : MO_23 N' (X.2 (nI i + nI 1).toNatClampNeg) (X.2 (nI i + nI 2).toNatClampNeg) (X.2 (nI i + nI 3).toNatClampNeg) g = some (v, g')) : sv_Q X 60 M_law (955, [some (.ref 999), some (.ref 0), some (.ref 67), some (.int (nI i))], [], LWo b k g) (some ()) (fun _ σ' => σ' = (1654, [some (.ref 999), some (.ref 0), some (.ref 67), some (.int (nI i))], [], LWo b k' g')) := by
  obtain ⟨x, hx, hf⟩ := Option.map_eq_some_iff.mp hk
  obtain ⟨y, hy, hf2⟩ := Option.map_eq_some_iff.mp hg
  have hk2 : k = k' := congrArg Prod.snd hf
  subst hk2
  have hv : x = y := (show x = v from congrArg Prod.fst hf).trans (show y = v from congrArg Prod.fst hf2).symm
  have hg2 : g = g' := congrArg Prod.snd hf2
  subst hg2
  refine sv_Q.s (σ' := (956, [some (.ref 999), some (.ref 0), some (.ref 67), some (.int (nI i))], [.ref 0], LWo b k g)) 1 rfl ?_
  refine sv_Q.s (σ' := (960, [some (.ref 999), some (.ref 0), some (.ref 67), some (.int (nI i))], [.int (nI i + nI 1), .ref 999, .ref 0], LWo b k g)) 4 rfl ?_
  refine lw_rd b (q := (960, .null, 0, 0, 0)) rfl (lw_in hL 1 (by omega) hi) ?_
  refine sv_Q.s (σ' := (965, [some (.ref 999), some (.ref 0), some (.ref 67), some (.int (nI i))], [.int (nI i + nI 2), .ref 999, .int (X.2 (nI i + nI 1).toNatClampNeg), .ref 0], LWo b k g)) 4 rfl ?_
  refine lw_rd b (q := (965, .null, 0, 0, 0)) rfl (lw_in hL 2 (by omega) hi) ?_
  refine sv_Q.s (σ' := (970, [some (.ref 999), some (.ref 0), some (.ref 67), some (.int (nI i))], [.int (nI i + nI 3), .ref 999, .int (X.2 (nI i + nI 2).toNatClampNeg), .int (X.2 (nI i + nI 1).toNatClampNeg), .ref 0], LWo b k g)) 4 rfl ?_
  refine lw_rd b (q := (970, .null, 0, 0, 0)) rfl (lw_in hL 3 (by omega) hi) ?_
  refine lw_K b (k' := k) (av := [.int (X.2 (nI i + nI 1).toNatClampNeg), .int (X.2 (nI i + nI 2).toNatClampNeg), .int (X.2 (nI i + nI 3).toNatClampNeg)]) (rest := []) (rv := some (.int x)) (q := (971, .null, 0, 0, 0)) lk_Law_110 (r_K_weighs N (k 0) (k 1) (k 2) (k 3) (k 4) (k 5) (k 6) (k 7) (k 8) (k 9) (k 10) (k 11) (k 12) (k 13) (k 14) (k 15) (X.2 (nI i + nI 1).toNatClampNeg) (X.2 (nI i + nI 2).toNatClampNeg) (X.2 (nI i + nI 3).toNatClampNeg) x hx) rfl rfl rfl rfl (fun π => rfl) (fun π => rfl) rfl ?_
  refine sv_Q.s (σ' := (975, [some (.ref 999), some (.ref 0), some (.ref 67), some (.int (nI i))], [.ref 67, .int x], LWo b k g)) 1 rfl ?_
  refine sv_Q.s (σ' := (979, [some (.ref 999), some (.ref 0), some (.ref 67), some (.int (nI i))], [.int (nI i + nI 1), .ref 999, .ref 67, .int x], LWo b k g)) 4 rfl ?_
  refine lw_rd b (q := (979, .null, 0, 0, 0)) rfl (lw_in hL 1 (by omega) hi) ?_
  refine sv_Q.s (σ' := (984, [some (.ref 999), some (.ref 0), some (.ref 67), some (.int (nI i))], [.int (nI i + nI 2), .ref 999, .int (X.2 (nI i + nI 1).toNatClampNeg), .ref 67, .int x], LWo b k g)) 4 rfl ?_
  refine lw_rd b (q := (984, .null, 0, 0, 0)) rfl (lw_in hL 2 (by omega) hi) ?_
  refine sv_Q.s (σ' := (989, [some (.ref 999), some (.ref 0), some (.ref 67), some (.int (nI i))], [.int (nI i + nI 3), .ref 999, .int (X.2 (nI i + nI 2).toNatClampNeg), .int (X.2 (nI i + nI 1).toNatClampNeg), .ref 67, .int x], LWo b k g)) 4 rfl ?_
  refine lw_rd b (q := (989, .null, 0, 0, 0)) rfl (lw_in hL 3 (by omega) hi) ?_
  refine lw_M b (g' := g) (av := [.int (X.2 (nI i + nI 1).toNatClampNeg), .int (X.2 (nI i + nI 2).toNatClampNeg), .int (X.2 (nI i + nI 3).toNatClampNeg)]) (rest := [.int x]) (rv := some (.int y)) (q := (990, .null, 0, 0, 0)) lk_Law_113 (r_Mo_weighs N' g (X.2 (nI i + nI 1).toNatClampNeg) (X.2 (nI i + nI 2).toNatClampNeg) (X.2 (nI i + nI 3).toNatClampNeg) y hy) rfl rfl rfl rfl (fun π => rfl) (fun π => rfl) rfl ?_
  refine sv_Q.b2 rfl (fun _ => sv_Q.z rfl) (fun c => absurd hv c)
def KO_24 (N : Nat) (a1 : Int32) (k : KS) : Option (Int64 × KS) := Option.map (fun x => (x, k)) (F_K_lean N a1 (k 0) (k 9) (k 11))
def MO_24 (N : Nat) (a1 : Int32) (g : Nat → Nat → Int32) : Option (Int64 × (Nat → Nat → Int32)) := Option.map (fun x => (x, g)) (F_Mo_lean N a1 g)
set_option maxHeartbeats 4000000 in
set_option maxRecDepth 100000 in
theorem lc_24 {X : Nat × (Nat → Int32)} (hL : X.1 ≤ 3072) (b : Bool) (k k' : KS) (g g' : Nat → Nat → Int32) (i N N' : Nat) (v : Int64) (hi : i + 6 ≤ X.1) (hk : KO_24 N (X.2 (nI i + nI 1).toNatClampNeg) k = some (v, k')) (hg : MO_24 N' (X.2 (nI i + nI 1).toNatClampNeg) g = some (v, g')) : sv_Q X 60 M_law (998, [some (.ref 999), some (.ref 0), some (.ref 67), some (.int (nI i))], [], LWo b k g) (some ()) (fun _ σ' => σ' = (1654, [some (.ref 999), some (.ref 0), some (.ref 67), some (.int (nI i))], [], LWo b k' g')) := by
  obtain ⟨x, hx, hf⟩ := Option.map_eq_some_iff.mp hk
  obtain ⟨y, hy, hf2⟩ := Option.map_eq_some_iff.mp hg
  have hk2 : k = k' := congrArg Prod.snd hf
  subst hk2
  have hv : x = y := (show x = v from congrArg Prod.fst hf).trans (show y = v from congrArg Prod.fst hf2).symm
  have hg2 : g = g' := congrArg Prod.snd hf2
  subst hg2
  refine sv_Q.s (σ' := (999, [some (.ref 999), some (.ref 0), some (.ref 67), some (.int (nI i))], [.ref 0], LWo b k g)) 1 rfl ?_
  refine sv_Q.s (σ' := (1003, [some (.ref 999), some (.ref 0), some (.ref 67), some (.int (nI i))], [.int (nI i + nI 1), .ref 999, .ref 0], LWo b k g)) 4 rfl ?_
  refine lw_rd b (q := (1003, .null, 0, 0, 0)) rfl (lw_in hL 1 (by omega) hi) ?_
  refine lw_K b (k' := k) (av := [.int (X.2 (nI i + nI 1).toNatClampNeg)]) (rest := []) (rv := some (.long x)) (q := (1004, .null, 0, 0, 0)) lk_Law_114 (r_K_lean N (k 0) (k 1) (k 2) (k 3) (k 4) (k 5) (k 6) (k 7) (k 8) (k 9) (k 10) (k 11) (k 12) (k 13) (k 14) (k 15) (X.2 (nI i + nI 1).toNatClampNeg) x hx) rfl rfl rfl rfl (fun π => rfl) (fun π => rfl) rfl ?_
  refine sv_Q.s (σ' := (1008, [some (.ref 999), some (.ref 0), some (.ref 67), some (.int (nI i))], [.ref 67, .long x], LWo b k g)) 1 rfl ?_
  refine sv_Q.s (σ' := (1012, [some (.ref 999), some (.ref 0), some (.ref 67), some (.int (nI i))], [.int (nI i + nI 1), .ref 999, .ref 67, .long x], LWo b k g)) 4 rfl ?_
  refine lw_rd b (q := (1012, .null, 0, 0, 0)) rfl (lw_in hL 1 (by omega) hi) ?_
  refine lw_M b (g' := g) (av := [.int (X.2 (nI i + nI 1).toNatClampNeg)]) (rest := [.long x]) (rv := some (.long y)) (q := (1013, .null, 0, 0, 0)) lk_Law_118 (r_Mo_lean N' g (X.2 (nI i + nI 1).toNatClampNeg) y hy) rfl rfl rfl rfl (fun π => rfl) (fun π => rfl) rfl ?_
  refine sv_Q.s (σ' := (1017, [some (.ref 999), some (.ref 0), some (.ref 67), some (.int (nI i))], [.int (lg_cmp (x) y)], LWo b k g)) 1 rfl ?_
  refine sv_Q.b2 rfl (fun _ => sv_Q.z rfl) (fun c => absurd (lw_cmp hv) c)
def KO_25 (N : Nat)  (k : KS) : Option (Int32 × KS) := Option.map (fun x => (x, k)) (F_K_over N (k 0) (k 9) (k 11))
def MO_25 (N : Nat)  (g : Nat → Nat → Int32) : Option (Int32 × (Nat → Nat → Int32)) := Option.map (fun x => (x, g)) (F_Mo_over N g)
set_option maxHeartbeats 4000000 in
set_option maxRecDepth 100000 in
theorem lc_25 {X : Nat × (Nat → Int32)} (hL : X.1 ≤ 3072) (b : Bool) (k k' : KS) (g g' : Nat → Nat → Int32) (i N N' : Nat) (v : Int32) (hi : i + 6 ≤ X.1) (hk : KO_25 N k = some (v, k')) (hg : MO_25 N' g = some (v, g')) : sv_Q X 60 M_law (1022, [some (.ref 999), some (.ref 0), some (.ref 67), some (.int (nI i))], [], LWo b k g) (some ()) (fun _ σ' => σ' = (1654, [some (.ref 999), some (.ref 0), some (.ref 67), some (.int (nI i))], [], LWo b k' g')) := by
  obtain ⟨x, hx, hf⟩ := Option.map_eq_some_iff.mp hk
  obtain ⟨y, hy, hf2⟩ := Option.map_eq_some_iff.mp hg
  have hk2 : k = k' := congrArg Prod.snd hf
  subst hk2
  have hv : x = y := (show x = v from congrArg Prod.fst hf).trans (show y = v from congrArg Prod.fst hf2).symm
  have hg2 : g = g' := congrArg Prod.snd hf2
  subst hg2
  refine sv_Q.s (σ' := (1023, [some (.ref 999), some (.ref 0), some (.ref 67), some (.int (nI i))], [.ref 0], LWo b k g)) 1 rfl ?_
  refine lw_K b (k' := k) (av := []) (rest := []) (rv := some (.int x)) (q := (1023, .null, 0, 0, 0)) lk_Law_119 (r_K_over N (k 0) (k 1) (k 2) (k 3) (k 4) (k 5) (k 6) (k 7) (k 8) (k 9) (k 10) (k 11) (k 12) (k 13) (k 14) (k 15) x hx) rfl rfl rfl rfl (fun π => rfl) (fun π => rfl) rfl ?_
  refine sv_Q.s (σ' := (1027, [some (.ref 999), some (.ref 0), some (.ref 67), some (.int (nI i))], [.ref 67, .int x], LWo b k g)) 1 rfl ?_
  refine lw_M b (g' := g) (av := []) (rest := [.int x]) (rv := some (.int y)) (q := (1027, .null, 0, 0, 0)) lk_Law_122 (r_Mo_over N' g y hy) rfl rfl rfl rfl (fun π => rfl) (fun π => rfl) rfl ?_
  refine sv_Q.b2 rfl (fun _ => sv_Q.z rfl) (fun c => absurd hv c)
def KO_26 (N : Nat) (a1 : Int32) (k : KS) : Option (Int32 × KS) := Option.map (fun x => (x, k)) (F_K_restows N a1 (k 0) (k 9) (k 11))
def MO_26 (N : Nat) (a1 : Int32) (g : Nat → Nat → Int32) : Option (Int32 × (Nat → Nat → Int32)) := Option.map (fun x => (x, g)) (F_Mo_restows N a1 g)
set_option maxHeartbeats 4000000 in
set_option maxRecDepth 100000 in
theorem lc_26 {X : Nat × (Nat → Int32)} (hL : X.1 ≤ 3072) (b : Bool) (k k' : KS) (g g' : Nat → Nat → Int32) (i N N' : Nat) (v : Int32) (hi : i + 6 ≤ X.1) (hk : KO_26 N (X.2 (nI i + nI 1).toNatClampNeg) k = some (v, k')) (hg : MO_26 N' (X.2 (nI i + nI 1).toNatClampNeg) g = some (v, g')) : sv_Q X 60 M_law (1035, [some (.ref 999), some (.ref 0), some (.ref 67), some (.int (nI i))], [], LWo b k g) (some ()) (fun _ σ' => σ' = (1654, [some (.ref 999), some (.ref 0), some (.ref 67), some (.int (nI i))], [], LWo b k' g')) := by
  obtain ⟨x, hx, hf⟩ := Option.map_eq_some_iff.mp hk
  obtain ⟨y, hy, hf2⟩ := Option.map_eq_some_iff.mp hg
  have hk2 : k = k' := congrArg Prod.snd hf
  subst hk2
  have hv : x = y := (show x = v from congrArg Prod.fst hf).trans (show y = v from congrArg Prod.fst hf2).symm
  have hg2 : g = g' := congrArg Prod.snd hf2
  subst hg2
  refine sv_Q.s (σ' := (1036, [some (.ref 999), some (.ref 0), some (.ref 67), some (.int (nI i))], [.ref 0], LWo b k g)) 1 rfl ?_
  refine sv_Q.s (σ' := (1040, [some (.ref 999), some (.ref 0), some (.ref 67), some (.int (nI i))], [.int (nI i + nI 1), .ref 999, .ref 0], LWo b k g)) 4 rfl ?_
  refine lw_rd b (q := (1040, .null, 0, 0, 0)) rfl (lw_in hL 1 (by omega) hi) ?_
  refine lw_K b (k' := k) (av := [.int (X.2 (nI i + nI 1).toNatClampNeg)]) (rest := []) (rv := some (.int x)) (q := (1041, .null, 0, 0, 0)) lk_Law_123 (r_K_restows N (k 0) (k 1) (k 2) (k 3) (k 4) (k 5) (k 6) (k 7) (k 8) (k 9) (k 10) (k 11) (k 12) (k 13) (k 14) (k 15) (X.2 (nI i + nI 1).toNatClampNeg) x hx) rfl rfl rfl rfl (fun π => rfl) (fun π => rfl) rfl ?_
  refine sv_Q.s (σ' := (1045, [some (.ref 999), some (.ref 0), some (.ref 67), some (.int (nI i))], [.ref 67, .int x], LWo b k g)) 1 rfl ?_
  refine sv_Q.s (σ' := (1049, [some (.ref 999), some (.ref 0), some (.ref 67), some (.int (nI i))], [.int (nI i + nI 1), .ref 999, .ref 67, .int x], LWo b k g)) 4 rfl ?_
  refine lw_rd b (q := (1049, .null, 0, 0, 0)) rfl (lw_in hL 1 (by omega) hi) ?_
  refine lw_M b (g' := g) (av := [.int (X.2 (nI i + nI 1).toNatClampNeg)]) (rest := [.int x]) (rv := some (.int y)) (q := (1050, .null, 0, 0, 0)) lk_Law_126 (r_Mo_restows N' g (X.2 (nI i + nI 1).toNatClampNeg) y hy) rfl rfl rfl rfl (fun π => rfl) (fun π => rfl) rfl ?_
  refine sv_Q.b2 rfl (fun _ => sv_Q.z rfl) (fun c => absurd hv c)
def KO_27 (N : Nat) (a1 : Int32) (k : KS) : Option (Int32 × KS) := Option.map (fun x => (x.1, (ku (ku k 2 x.2.1) 11 x.2.2))) (F_K_load N a1 (k 0) (k 2) (k 9) (k 10) (k 11))
def MO_27 (N : Nat) (a1 : Int32) (g : Nat → Nat → Int32) : Option (Int32 × (Nat → Nat → Int32)) := Option.map (fun x => (x.1, x.2)) (F_Mo_load N a1 g)
set_option maxHeartbeats 4000000 in
set_option maxRecDepth 100000 in
theorem lc_27 {X : Nat × (Nat → Int32)} (hL : X.1 ≤ 3072) (b : Bool) (k k' : KS) (g g' : Nat → Nat → Int32) (i N N' : Nat) (v : Int32) (hi : i + 6 ≤ X.1) (hk : KO_27 N (X.2 (nI i + nI 1).toNatClampNeg) k = some (v, k')) (hg : MO_27 N' (X.2 (nI i + nI 1).toNatClampNeg) g = some (v, g')) : sv_Q X 60 M_law (1058, [some (.ref 999), some (.ref 0), some (.ref 67), some (.int (nI i))], [], LWo b k g) (some ()) (fun _ σ' => σ' = (1654, [some (.ref 999), some (.ref 0), some (.ref 67), some (.int (nI i))], [], LWo b k' g')) := by
  obtain ⟨x, hx, hf⟩ := Option.map_eq_some_iff.mp hk
  obtain ⟨y, hy, hf2⟩ := Option.map_eq_some_iff.mp hg
  have hk2 : (ku (ku k 2 x.2.1) 11 x.2.2) = k' := congrArg Prod.snd hf
  subst hk2
  have hv : x.1 = y.1 := (show x.1 = v from congrArg Prod.fst hf).trans (show y.1 = v from congrArg Prod.fst hf2).symm
  have hg2 : y.2 = g' := congrArg Prod.snd hf2
  subst hg2
  refine sv_Q.s (σ' := (1059, [some (.ref 999), some (.ref 0), some (.ref 67), some (.int (nI i))], [.ref 0], LWo b k g)) 1 rfl ?_
  refine sv_Q.s (σ' := (1063, [some (.ref 999), some (.ref 0), some (.ref 67), some (.int (nI i))], [.int (nI i + nI 1), .ref 999, .ref 0], LWo b k g)) 4 rfl ?_
  refine lw_rd b (q := (1063, .null, 0, 0, 0)) rfl (lw_in hL 1 (by omega) hi) ?_
  refine lw_K b (k' := (ku (ku k 2 x.2.1) 11 x.2.2)) (av := [.int (X.2 (nI i + nI 1).toNatClampNeg)]) (rest := []) (rv := some (.int x.1)) (q := (1064, .null, 0, 0, 0)) lk_Law_127 (r_K_load N (k 0) (k 1) (k 2) (k 3) (k 4) (k 5) (k 6) (k 7) (k 8) (k 9) (k 10) (k 11) (k 12) (k 13) (k 14) (k 15) (X.2 (nI i + nI 1).toNatClampNeg) x hx) rfl rfl rfl rfl (fun π => rfl) (fun π => rfl) rfl ?_
  refine sv_Q.s (σ' := (1068, [some (.ref 999), some (.ref 0), some (.ref 67), some (.int (nI i))], [.ref 67, .int x.1], LWo b (ku (ku k 2 x.2.1) 11 x.2.2) g)) 1 rfl ?_
  refine sv_Q.s (σ' := (1072, [some (.ref 999), some (.ref 0), some (.ref 67), some (.int (nI i))], [.int (nI i + nI 1), .ref 999, .ref 67, .int x.1], LWo b (ku (ku k 2 x.2.1) 11 x.2.2) g)) 4 rfl ?_
  refine lw_rd b (q := (1072, .null, 0, 0, 0)) rfl (lw_in hL 1 (by omega) hi) ?_
  refine lw_M b (g' := y.2) (av := [.int (X.2 (nI i + nI 1).toNatClampNeg)]) (rest := [.int x.1]) (rv := some (.int y.1)) (q := (1073, .null, 0, 0, 0)) lk_Law_130 (r_Mo_load N' g (X.2 (nI i + nI 1).toNatClampNeg) y hy) rfl rfl rfl rfl (fun π => rfl) (fun π => rfl) rfl ?_
  refine sv_Q.b2 rfl (fun _ => sv_Q.z rfl) (fun c => absurd hv c)
def KO_28 (N : Nat) (a1 : Int32) (k : KS) : Option (Int32 × KS) := Option.map (fun x => (x.1, (ku (ku k 2 x.2.1) 11 x.2.2))) (F_K_effort N a1 (k 0) (k 2) (k 9) (k 10) (k 11))
def MO_28 (N : Nat) (a1 : Int32) (g : Nat → Nat → Int32) : Option (Int32 × (Nat → Nat → Int32)) := Option.map (fun x => (x.1, x.2)) (F_Mo_effort N a1 g)
set_option maxHeartbeats 4000000 in
set_option maxRecDepth 100000 in
theorem lc_28 {X : Nat × (Nat → Int32)} (hL : X.1 ≤ 3072) (b : Bool) (k k' : KS) (g g' : Nat → Nat → Int32) (i N N' : Nat) (v : Int32) (hi : i + 6 ≤ X.1) (hk : KO_28 N (X.2 (nI i + nI 1).toNatClampNeg) k = some (v, k')) (hg : MO_28 N' (X.2 (nI i + nI 1).toNatClampNeg) g = some (v, g')) : sv_Q X 60 M_law (1081, [some (.ref 999), some (.ref 0), some (.ref 67), some (.int (nI i))], [], LWo b k g) (some ()) (fun _ σ' => σ' = (1654, [some (.ref 999), some (.ref 0), some (.ref 67), some (.int (nI i))], [], LWo b k' g')) := by
  obtain ⟨x, hx, hf⟩ := Option.map_eq_some_iff.mp hk
  obtain ⟨y, hy, hf2⟩ := Option.map_eq_some_iff.mp hg
  have hk2 : (ku (ku k 2 x.2.1) 11 x.2.2) = k' := congrArg Prod.snd hf
  subst hk2
  have hv : x.1 = y.1 := (show x.1 = v from congrArg Prod.fst hf).trans (show y.1 = v from congrArg Prod.fst hf2).symm
  have hg2 : y.2 = g' := congrArg Prod.snd hf2
  subst hg2
  refine sv_Q.s (σ' := (1082, [some (.ref 999), some (.ref 0), some (.ref 67), some (.int (nI i))], [.ref 0], LWo b k g)) 1 rfl ?_
  refine sv_Q.s (σ' := (1086, [some (.ref 999), some (.ref 0), some (.ref 67), some (.int (nI i))], [.int (nI i + nI 1), .ref 999, .ref 0], LWo b k g)) 4 rfl ?_
  refine lw_rd b (q := (1086, .null, 0, 0, 0)) rfl (lw_in hL 1 (by omega) hi) ?_
  refine lw_K b (k' := (ku (ku k 2 x.2.1) 11 x.2.2)) (av := [.int (X.2 (nI i + nI 1).toNatClampNeg)]) (rest := []) (rv := some (.int x.1)) (q := (1087, .null, 0, 0, 0)) lk_Law_131 (r_K_effort N (k 0) (k 1) (k 2) (k 3) (k 4) (k 5) (k 6) (k 7) (k 8) (k 9) (k 10) (k 11) (k 12) (k 13) (k 14) (k 15) (X.2 (nI i + nI 1).toNatClampNeg) x hx) rfl rfl rfl rfl (fun π => rfl) (fun π => rfl) rfl ?_
  refine sv_Q.s (σ' := (1091, [some (.ref 999), some (.ref 0), some (.ref 67), some (.int (nI i))], [.ref 67, .int x.1], LWo b (ku (ku k 2 x.2.1) 11 x.2.2) g)) 1 rfl ?_
  refine sv_Q.s (σ' := (1095, [some (.ref 999), some (.ref 0), some (.ref 67), some (.int (nI i))], [.int (nI i + nI 1), .ref 999, .ref 67, .int x.1], LWo b (ku (ku k 2 x.2.1) 11 x.2.2) g)) 4 rfl ?_
  refine lw_rd b (q := (1095, .null, 0, 0, 0)) rfl (lw_in hL 1 (by omega) hi) ?_
  refine lw_M b (g' := y.2) (av := [.int (X.2 (nI i + nI 1).toNatClampNeg)]) (rest := [.int x.1]) (rv := some (.int y.1)) (q := (1096, .null, 0, 0, 0)) lk_Law_134 (r_Mo_effort N' g (X.2 (nI i + nI 1).toNatClampNeg) y hy) rfl rfl rfl rfl (fun π => rfl) (fun π => rfl) rfl ?_
  refine sv_Q.b2 rfl (fun _ => sv_Q.z rfl) (fun c => absurd hv c)
def KO_29 (N : Nat)  (k : KS) : Option (Int32 × KS) := Option.map (fun x => (x.1, (ku (ku k 2 x.2.1) 11 x.2.2))) (F_K_greedy N (k 0) (k 2) (k 9) (k 10) (k 11))
def MO_29 (N : Nat)  (g : Nat → Nat → Int32) : Option (Int32 × (Nat → Nat → Int32)) := Option.map (fun x => (x.1, x.2)) (F_Mo_greedy N g)
set_option maxHeartbeats 4000000 in
set_option maxRecDepth 100000 in
theorem lc_29 {X : Nat × (Nat → Int32)} (hL : X.1 ≤ 3072) (b : Bool) (k k' : KS) (g g' : Nat → Nat → Int32) (i N N' : Nat) (v : Int32) (hi : i + 6 ≤ X.1) (hk : KO_29 N k = some (v, k')) (hg : MO_29 N' g = some (v, g')) : sv_Q X 60 M_law (1104, [some (.ref 999), some (.ref 0), some (.ref 67), some (.int (nI i))], [], LWo b k g) (some ()) (fun _ σ' => σ' = (1654, [some (.ref 999), some (.ref 0), some (.ref 67), some (.int (nI i))], [], LWo b k' g')) := by
  obtain ⟨x, hx, hf⟩ := Option.map_eq_some_iff.mp hk
  obtain ⟨y, hy, hf2⟩ := Option.map_eq_some_iff.mp hg
  have hk2 : (ku (ku k 2 x.2.1) 11 x.2.2) = k' := congrArg Prod.snd hf
  subst hk2
  have hv : x.1 = y.1 := (show x.1 = v from congrArg Prod.fst hf).trans (show y.1 = v from congrArg Prod.fst hf2).symm
  have hg2 : y.2 = g' := congrArg Prod.snd hf2
  subst hg2
  refine sv_Q.s (σ' := (1105, [some (.ref 999), some (.ref 0), some (.ref 67), some (.int (nI i))], [.ref 0], LWo b k g)) 1 rfl ?_
  refine lw_K b (k' := (ku (ku k 2 x.2.1) 11 x.2.2)) (av := []) (rest := []) (rv := some (.int x.1)) (q := (1105, .null, 0, 0, 0)) lk_Law_135 (r_K_greedy N (k 0) (k 1) (k 2) (k 3) (k 4) (k 5) (k 6) (k 7) (k 8) (k 9) (k 10) (k 11) (k 12) (k 13) (k 14) (k 15) x hx) rfl rfl rfl rfl (fun π => rfl) (fun π => rfl) rfl ?_
  refine sv_Q.s (σ' := (1109, [some (.ref 999), some (.ref 0), some (.ref 67), some (.int (nI i))], [.ref 67, .int x.1], LWo b (ku (ku k 2 x.2.1) 11 x.2.2) g)) 1 rfl ?_
  refine lw_M b (g' := y.2) (av := []) (rest := [.int x.1]) (rv := some (.int y.1)) (q := (1109, .null, 0, 0, 0)) lk_Law_138 (r_Mo_greedy N' g y hy) rfl rfl rfl rfl (fun π => rfl) (fun π => rfl) rfl ?_
  refine sv_Q.b2 rfl (fun _ => sv_Q.z rfl) (fun c => absurd hv c)
def KO_30 (N : Nat) (a1 : Int32) (k : KS) : Option (Int32 × KS) := Option.map (fun x => (x, k)) (some (F_K_told a1 (k 0) (k 2) (k 11)))
def MO_30 (N : Nat) (a1 : Int32) (g : Nat → Nat → Int32) : Option (Int32 × (Nat → Nat → Int32)) := Option.map (fun x => (x, g)) (F_Mo_told N a1 g)
set_option maxHeartbeats 4000000 in
set_option maxRecDepth 100000 in
theorem lc_30 {X : Nat × (Nat → Int32)} (hL : X.1 ≤ 3072) (b : Bool) (k k' : KS) (g g' : Nat → Nat → Int32) (i N N' : Nat) (v : Int32) (hi : i + 6 ≤ X.1) (hk : KO_30 N (X.2 (nI i + nI 1).toNatClampNeg) k = some (v, k')) (hg : MO_30 N' (X.2 (nI i + nI 1).toNatClampNeg) g = some (v, g')) : sv_Q X 60 M_law (1117, [some (.ref 999), some (.ref 0), some (.ref 67), some (.int (nI i))], [], LWo b k g) (some ()) (fun _ σ' => σ' = (1654, [some (.ref 999), some (.ref 0), some (.ref 67), some (.int (nI i))], [], LWo b k' g')) := by
  obtain ⟨x, hx, hf⟩ := Option.map_eq_some_iff.mp hk
  obtain ⟨y, hy, hf2⟩ := Option.map_eq_some_iff.mp hg
  have hk2 : k = k' := congrArg Prod.snd hf
  subst hk2
  have hv : x = y := (show x = v from congrArg Prod.fst hf).trans (show y = v from congrArg Prod.fst hf2).symm
  have hg2 : g = g' := congrArg Prod.snd hf2
  subst hg2
  refine sv_Q.s (σ' := (1118, [some (.ref 999), some (.ref 0), some (.ref 67), some (.int (nI i))], [.ref 0], LWo b k g)) 1 rfl ?_
  refine sv_Q.s (σ' := (1122, [some (.ref 999), some (.ref 0), some (.ref 67), some (.int (nI i))], [.int (nI i + nI 1), .ref 999, .ref 0], LWo b k g)) 4 rfl ?_
  refine lw_rd b (q := (1122, .null, 0, 0, 0)) rfl (lw_in hL 1 (by omega) hi) ?_
  refine lw_K b (k' := k) (av := [.int (X.2 (nI i + nI 1).toNatClampNeg)]) (rest := []) (rv := some (.int x)) (q := (1123, .null, 0, 0, 0)) lk_Law_139 (r_K_told (k 0) (k 1) (k 2) (k 3) (k 4) (k 5) (k 6) (k 7) (k 8) (k 9) (k 10) (k 11) (k 12) (k 13) (k 14) (k 15) (X.2 (nI i + nI 1).toNatClampNeg) x hx) rfl rfl rfl rfl (fun π => rfl) (fun π => rfl) rfl ?_
  refine sv_Q.s (σ' := (1127, [some (.ref 999), some (.ref 0), some (.ref 67), some (.int (nI i))], [.ref 67, .int x], LWo b k g)) 1 rfl ?_
  refine sv_Q.s (σ' := (1131, [some (.ref 999), some (.ref 0), some (.ref 67), some (.int (nI i))], [.int (nI i + nI 1), .ref 999, .ref 67, .int x], LWo b k g)) 4 rfl ?_
  refine lw_rd b (q := (1131, .null, 0, 0, 0)) rfl (lw_in hL 1 (by omega) hi) ?_
  refine lw_M b (g' := g) (av := [.int (X.2 (nI i + nI 1).toNatClampNeg)]) (rest := [.int x]) (rv := some (.int y)) (q := (1132, .null, 0, 0, 0)) lk_Law_142 (r_Mo_told N' g (X.2 (nI i + nI 1).toNatClampNeg) y hy) rfl rfl rfl rfl (fun π => rfl) (fun π => rfl) rfl ?_
  refine sv_Q.b2 rfl (fun _ => sv_Q.z rfl) (fun c => absurd hv c)
def KO_31 (N : Nat)  (k : KS) : Option (Int32 × KS) := Option.map (fun x => (x.1, (ku (ku k 1 x.2.1) 11 x.2.2))) (F_K_takes N (k 0) (k 1) (k 2) (k 9) (k 10) (k 11))
def MO_31 (N : Nat)  (g : Nat → Nat → Int32) : Option (Int32 × (Nat → Nat → Int32)) := Option.map (fun x => (x.1, x.2)) (F_Mo_takes N g)
set_option maxHeartbeats 4000000 in
set_option maxRecDepth 100000 in
theorem lc_31 {X : Nat × (Nat → Int32)} (hL : X.1 ≤ 3072) (b : Bool) (k k' : KS) (g g' : Nat → Nat → Int32) (i N N' : Nat) (v : Int32) (hi : i + 6 ≤ X.1) (hk : KO_31 N k = some (v, k')) (hg : MO_31 N' g = some (v, g')) : sv_Q X 60 M_law (1140, [some (.ref 999), some (.ref 0), some (.ref 67), some (.int (nI i))], [], LWo b k g) (some ()) (fun _ σ' => σ' = (1654, [some (.ref 999), some (.ref 0), some (.ref 67), some (.int (nI i))], [], LWo b k' g')) := by
  obtain ⟨x, hx, hf⟩ := Option.map_eq_some_iff.mp hk
  obtain ⟨y, hy, hf2⟩ := Option.map_eq_some_iff.mp hg
  have hk2 : (ku (ku k 1 x.2.1) 11 x.2.2) = k' := congrArg Prod.snd hf
  subst hk2
  have hv : x.1 = y.1 := (show x.1 = v from congrArg Prod.fst hf).trans (show y.1 = v from congrArg Prod.fst hf2).symm
  have hg2 : y.2 = g' := congrArg Prod.snd hf2
  subst hg2
  refine sv_Q.s (σ' := (1141, [some (.ref 999), some (.ref 0), some (.ref 67), some (.int (nI i))], [.ref 0], LWo b k g)) 1 rfl ?_
  refine lw_K b (k' := (ku (ku k 1 x.2.1) 11 x.2.2)) (av := []) (rest := []) (rv := some (.int x.1)) (q := (1141, .null, 0, 0, 0)) lk_Law_143 (r_K_takes N (k 0) (k 1) (k 2) (k 3) (k 4) (k 5) (k 6) (k 7) (k 8) (k 9) (k 10) (k 11) (k 12) (k 13) (k 14) (k 15) x hx) rfl rfl rfl rfl (fun π => rfl) (fun π => rfl) rfl ?_
  refine sv_Q.s (σ' := (1145, [some (.ref 999), some (.ref 0), some (.ref 67), some (.int (nI i))], [.ref 67, .int x.1], LWo b (ku (ku k 1 x.2.1) 11 x.2.2) g)) 1 rfl ?_
  refine lw_M b (g' := y.2) (av := []) (rest := [.int x.1]) (rv := some (.int y.1)) (q := (1145, .null, 0, 0, 0)) lk_Law_146 (r_Mo_takes N' g y hy) rfl rfl rfl rfl (fun π => rfl) (fun π => rfl) rfl ?_
  refine sv_Q.b2 rfl (fun _ => sv_Q.z rfl) (fun c => absurd hv c)
def KO_32 (N : Nat)  (k : KS) : Option (Int32 × KS) := Option.map (fun x => (x.1, (ku (ku (ku k 1 x.2.1) 2 x.2.2.1) 11 x.2.2.2))) (F_K_loads N (k 0) (k 1) (k 2) (k 9) (k 10) (k 11))
def MO_32 (N : Nat)  (g : Nat → Nat → Int32) : Option (Int32 × (Nat → Nat → Int32)) := Option.map (fun x => (x.1, x.2)) (F_Mo_loads N g)
set_option maxHeartbeats 4000000 in
set_option maxRecDepth 100000 in
theorem lc_32 {X : Nat × (Nat → Int32)} (hL : X.1 ≤ 3072) (b : Bool) (k k' : KS) (g g' : Nat → Nat → Int32) (i N N' : Nat) (v : Int32) (hi : i + 6 ≤ X.1) (hk : KO_32 N k = some (v, k')) (hg : MO_32 N' g = some (v, g')) : sv_Q X 60 M_law (1153, [some (.ref 999), some (.ref 0), some (.ref 67), some (.int (nI i))], [], LWo b k g) (some ()) (fun _ σ' => σ' = (1654, [some (.ref 999), some (.ref 0), some (.ref 67), some (.int (nI i))], [], LWo b k' g')) := by
  obtain ⟨x, hx, hf⟩ := Option.map_eq_some_iff.mp hk
  obtain ⟨y, hy, hf2⟩ := Option.map_eq_some_iff.mp hg
  have hk2 : (ku (ku (ku k 1 x.2.1) 2 x.2.2.1) 11 x.2.2.2) = k' := congrArg Prod.snd hf
  subst hk2
  have hv : x.1 = y.1 := (show x.1 = v from congrArg Prod.fst hf).trans (show y.1 = v from congrArg Prod.fst hf2).symm
  have hg2 : y.2 = g' := congrArg Prod.snd hf2
  subst hg2
  refine sv_Q.s (σ' := (1154, [some (.ref 999), some (.ref 0), some (.ref 67), some (.int (nI i))], [.ref 0], LWo b k g)) 1 rfl ?_
  refine lw_K b (k' := (ku (ku (ku k 1 x.2.1) 2 x.2.2.1) 11 x.2.2.2)) (av := []) (rest := []) (rv := some (.int x.1)) (q := (1154, .null, 0, 0, 0)) lk_Law_147 (r_K_loads N (k 0) (k 1) (k 2) (k 3) (k 4) (k 5) (k 6) (k 7) (k 8) (k 9) (k 10) (k 11) (k 12) (k 13) (k 14) (k 15) x hx) rfl rfl rfl rfl (fun π => rfl) (fun π => rfl) rfl ?_
  refine sv_Q.s (σ' := (1158, [some (.ref 999), some (.ref 0), some (.ref 67), some (.int (nI i))], [.ref 67, .int x.1], LWo b (ku (ku (ku k 1 x.2.1) 2 x.2.2.1) 11 x.2.2.2) g)) 1 rfl ?_
  refine lw_M b (g' := y.2) (av := []) (rest := [.int x.1]) (rv := some (.int y.1)) (q := (1158, .null, 0, 0, 0)) lk_Law_150 (r_Mo_loads N' g y hy) rfl rfl rfl rfl (fun π => rfl) (fun π => rfl) rfl ?_
  refine sv_Q.b2 rfl (fun _ => sv_Q.z rfl) (fun c => absurd hv c)
def KO_33 (N : Nat) (a1 : Int32) (a2 : Int32) (a3 : Int32) (k : KS) : Option (Int32 × KS) := Option.map (fun x => (x.1, (ku (ku k 3 x.2.1) 11 x.2.2))) (F_K_shifts N a1 a2 a3 (k 0) (k 3) (k 9) (k 10) (k 11))
def MO_33 (N : Nat) (a1 : Int32) (a2 : Int32) (a3 : Int32) (g : Nat → Nat → Int32) : Option (Int32 × (Nat → Nat → Int32)) := Option.map (fun x => (x.1, x.2)) (F_Mo_shifts N a1 a2 a3 g)
set_option maxHeartbeats 4000000 in
set_option maxRecDepth 100000 in
theorem lc_33 {X : Nat × (Nat → Int32)} (hL : X.1 ≤ 3072) (b : Bool) (k k' : KS) (g g' : Nat → Nat → Int32) (i N N' : Nat) (v : Int32) (hi : i + 6 ≤ X.1) (hk : KO_33 N (X.2 (nI i + nI 1).toNatClampNeg) (X.2 (nI i + nI 2).toNatClampNeg) (X.2 (nI i + nI 3).toNatClampNeg) k = some (v, k')) (hg : MO_33 N' (X.2 (nI i + nI 1).toNatClampNeg) (X.2 (nI i + nI 2).toNatClampNeg) (X.2 (nI i + nI 3).toNatClampNeg) g = some (v, g')) : sv_Q X 60 M_law (1166, [some (.ref 999), some (.ref 0), some (.ref 67), some (.int (nI i))], [], LWo b k g) (some ()) (fun _ σ' => σ' = (1654, [some (.ref 999), some (.ref 0), some (.ref 67), some (.int (nI i))], [], LWo b k' g')) := by
  obtain ⟨x, hx, hf⟩ := Option.map_eq_some_iff.mp hk
  obtain ⟨y, hy, hf2⟩ := Option.map_eq_some_iff.mp hg
  have hk2 : (ku (ku k 3 x.2.1) 11 x.2.2) = k' := congrArg Prod.snd hf
  subst hk2
  have hv : x.1 = y.1 := (show x.1 = v from congrArg Prod.fst hf).trans (show y.1 = v from congrArg Prod.fst hf2).symm
  have hg2 : y.2 = g' := congrArg Prod.snd hf2
  subst hg2
  refine sv_Q.s (σ' := (1167, [some (.ref 999), some (.ref 0), some (.ref 67), some (.int (nI i))], [.ref 0], LWo b k g)) 1 rfl ?_
  refine sv_Q.s (σ' := (1171, [some (.ref 999), some (.ref 0), some (.ref 67), some (.int (nI i))], [.int (nI i + nI 1), .ref 999, .ref 0], LWo b k g)) 4 rfl ?_
  refine lw_rd b (q := (1171, .null, 0, 0, 0)) rfl (lw_in hL 1 (by omega) hi) ?_
  refine sv_Q.s (σ' := (1176, [some (.ref 999), some (.ref 0), some (.ref 67), some (.int (nI i))], [.int (nI i + nI 2), .ref 999, .int (X.2 (nI i + nI 1).toNatClampNeg), .ref 0], LWo b k g)) 4 rfl ?_
  refine lw_rd b (q := (1176, .null, 0, 0, 0)) rfl (lw_in hL 2 (by omega) hi) ?_
  refine sv_Q.s (σ' := (1181, [some (.ref 999), some (.ref 0), some (.ref 67), some (.int (nI i))], [.int (nI i + nI 3), .ref 999, .int (X.2 (nI i + nI 2).toNatClampNeg), .int (X.2 (nI i + nI 1).toNatClampNeg), .ref 0], LWo b k g)) 4 rfl ?_
  refine lw_rd b (q := (1181, .null, 0, 0, 0)) rfl (lw_in hL 3 (by omega) hi) ?_
  refine lw_K b (k' := (ku (ku k 3 x.2.1) 11 x.2.2)) (av := [.int (X.2 (nI i + nI 1).toNatClampNeg), .int (X.2 (nI i + nI 2).toNatClampNeg), .int (X.2 (nI i + nI 3).toNatClampNeg)]) (rest := []) (rv := some (.int x.1)) (q := (1182, .null, 0, 0, 0)) lk_Law_151 (r_K_shifts N (k 0) (k 1) (k 2) (k 3) (k 4) (k 5) (k 6) (k 7) (k 8) (k 9) (k 10) (k 11) (k 12) (k 13) (k 14) (k 15) (X.2 (nI i + nI 1).toNatClampNeg) (X.2 (nI i + nI 2).toNatClampNeg) (X.2 (nI i + nI 3).toNatClampNeg) x hx) rfl rfl rfl rfl (fun π => rfl) (fun π => rfl) rfl ?_
  refine sv_Q.s (σ' := (1186, [some (.ref 999), some (.ref 0), some (.ref 67), some (.int (nI i))], [.ref 67, .int x.1], LWo b (ku (ku k 3 x.2.1) 11 x.2.2) g)) 1 rfl ?_
  refine sv_Q.s (σ' := (1190, [some (.ref 999), some (.ref 0), some (.ref 67), some (.int (nI i))], [.int (nI i + nI 1), .ref 999, .ref 67, .int x.1], LWo b (ku (ku k 3 x.2.1) 11 x.2.2) g)) 4 rfl ?_
  refine lw_rd b (q := (1190, .null, 0, 0, 0)) rfl (lw_in hL 1 (by omega) hi) ?_
  refine sv_Q.s (σ' := (1195, [some (.ref 999), some (.ref 0), some (.ref 67), some (.int (nI i))], [.int (nI i + nI 2), .ref 999, .int (X.2 (nI i + nI 1).toNatClampNeg), .ref 67, .int x.1], LWo b (ku (ku k 3 x.2.1) 11 x.2.2) g)) 4 rfl ?_
  refine lw_rd b (q := (1195, .null, 0, 0, 0)) rfl (lw_in hL 2 (by omega) hi) ?_
  refine sv_Q.s (σ' := (1200, [some (.ref 999), some (.ref 0), some (.ref 67), some (.int (nI i))], [.int (nI i + nI 3), .ref 999, .int (X.2 (nI i + nI 2).toNatClampNeg), .int (X.2 (nI i + nI 1).toNatClampNeg), .ref 67, .int x.1], LWo b (ku (ku k 3 x.2.1) 11 x.2.2) g)) 4 rfl ?_
  refine lw_rd b (q := (1200, .null, 0, 0, 0)) rfl (lw_in hL 3 (by omega) hi) ?_
  refine lw_M b (g' := y.2) (av := [.int (X.2 (nI i + nI 1).toNatClampNeg), .int (X.2 (nI i + nI 2).toNatClampNeg), .int (X.2 (nI i + nI 3).toNatClampNeg)]) (rest := [.int x.1]) (rv := some (.int y.1)) (q := (1201, .null, 0, 0, 0)) lk_Law_154 (r_Mo_shifts N' g (X.2 (nI i + nI 1).toNatClampNeg) (X.2 (nI i + nI 2).toNatClampNeg) (X.2 (nI i + nI 3).toNatClampNeg) y hy) rfl rfl rfl rfl (fun π => rfl) (fun π => rfl) rfl ?_
  refine sv_Q.b2 rfl (fun _ => sv_Q.z rfl) (fun c => absurd hv c)
def KO_34 (N : Nat) (a1 : Int32) (a2 : Int32) (k : KS) : Option (Int32 × KS) := Option.map (fun x => (x, k)) (some (F_K_shift a1 a2 (k 0) (k 3)))
def MO_34 (N : Nat) (a1 : Int32) (a2 : Int32) (g : Nat → Nat → Int32) : Option (Int32 × (Nat → Nat → Int32)) := Option.map (fun x => (x, g)) (F_Mo_shift N a1 a2 g)
set_option maxHeartbeats 4000000 in
set_option maxRecDepth 100000 in
theorem lc_34 {X : Nat × (Nat → Int32)} (hL : X.1 ≤ 3072) (b : Bool) (k k' : KS) (g g' : Nat → Nat → Int32) (i N N' : Nat) (v : Int32) (hi : i + 6 ≤ X.1) (hk : KO_34 N (X.2 (nI i + nI 1).toNatClampNeg) (X.2 (nI i + nI 2).toNatClampNeg) k = some (v, k')) (hg : MO_34 N' (X.2 (nI i + nI 1).toNatClampNeg) (X.2 (nI i + nI 2).toNatClampNeg) g = some (v, g')) : sv_Q X 60 M_law (1209, [some (.ref 999), some (.ref 0), some (.ref 67), some (.int (nI i))], [], LWo b k g) (some ()) (fun _ σ' => σ' = (1654, [some (.ref 999), some (.ref 0), some (.ref 67), some (.int (nI i))], [], LWo b k' g')) := by
  obtain ⟨x, hx, hf⟩ := Option.map_eq_some_iff.mp hk
  obtain ⟨y, hy, hf2⟩ := Option.map_eq_some_iff.mp hg
  have hk2 : k = k' := congrArg Prod.snd hf
  subst hk2
  have hv : x = y := (show x = v from congrArg Prod.fst hf).trans (show y = v from congrArg Prod.fst hf2).symm
  have hg2 : g = g' := congrArg Prod.snd hf2
  subst hg2
  refine sv_Q.s (σ' := (1210, [some (.ref 999), some (.ref 0), some (.ref 67), some (.int (nI i))], [.ref 0], LWo b k g)) 1 rfl ?_
  refine sv_Q.s (σ' := (1214, [some (.ref 999), some (.ref 0), some (.ref 67), some (.int (nI i))], [.int (nI i + nI 1), .ref 999, .ref 0], LWo b k g)) 4 rfl ?_
  refine lw_rd b (q := (1214, .null, 0, 0, 0)) rfl (lw_in hL 1 (by omega) hi) ?_
  refine sv_Q.s (σ' := (1219, [some (.ref 999), some (.ref 0), some (.ref 67), some (.int (nI i))], [.int (nI i + nI 2), .ref 999, .int (X.2 (nI i + nI 1).toNatClampNeg), .ref 0], LWo b k g)) 4 rfl ?_
  refine lw_rd b (q := (1219, .null, 0, 0, 0)) rfl (lw_in hL 2 (by omega) hi) ?_
  refine lw_K b (k' := k) (av := [.int (X.2 (nI i + nI 1).toNatClampNeg), .int (X.2 (nI i + nI 2).toNatClampNeg)]) (rest := []) (rv := some (.int x)) (q := (1220, .null, 0, 0, 0)) lk_Law_155 (r_K_shift (k 0) (k 1) (k 2) (k 3) (k 4) (k 5) (k 6) (k 7) (k 8) (k 9) (k 10) (k 11) (k 12) (k 13) (k 14) (k 15) (X.2 (nI i + nI 1).toNatClampNeg) (X.2 (nI i + nI 2).toNatClampNeg) x hx) rfl rfl rfl rfl (fun π => rfl) (fun π => rfl) rfl ?_
  refine sv_Q.s (σ' := (1224, [some (.ref 999), some (.ref 0), some (.ref 67), some (.int (nI i))], [.ref 67, .int x], LWo b k g)) 1 rfl ?_
  refine sv_Q.s (σ' := (1228, [some (.ref 999), some (.ref 0), some (.ref 67), some (.int (nI i))], [.int (nI i + nI 1), .ref 999, .ref 67, .int x], LWo b k g)) 4 rfl ?_
  refine lw_rd b (q := (1228, .null, 0, 0, 0)) rfl (lw_in hL 1 (by omega) hi) ?_
  refine sv_Q.s (σ' := (1233, [some (.ref 999), some (.ref 0), some (.ref 67), some (.int (nI i))], [.int (nI i + nI 2), .ref 999, .int (X.2 (nI i + nI 1).toNatClampNeg), .ref 67, .int x], LWo b k g)) 4 rfl ?_
  refine lw_rd b (q := (1233, .null, 0, 0, 0)) rfl (lw_in hL 2 (by omega) hi) ?_
  refine lw_M b (g' := g) (av := [.int (X.2 (nI i + nI 1).toNatClampNeg), .int (X.2 (nI i + nI 2).toNatClampNeg)]) (rest := [.int x]) (rv := some (.int y)) (q := (1234, .null, 0, 0, 0)) lk_Law_158 (r_Mo_shift N' g (X.2 (nI i + nI 1).toNatClampNeg) (X.2 (nI i + nI 2).toNatClampNeg) y hy) rfl rfl rfl rfl (fun π => rfl) (fun π => rfl) rfl ?_
  refine sv_Q.b2 rfl (fun _ => sv_Q.z rfl) (fun c => absurd hv c)
def KO_35 (N : Nat) (a1 : Int32) (k : KS) : Option (Int64 × KS) := Option.map (fun x => (x.1, (ku k 10 x.2))) (F_K_ways N a1 (k 0) (k 10))
def MO_35 (N : Nat) (a1 : Int32) (g : Nat → Nat → Int32) : Option (Int64 × (Nat → Nat → Int32)) := Option.map (fun x => (x.1, x.2)) (F_Mo_ways N a1 g)
set_option maxHeartbeats 4000000 in
set_option maxRecDepth 100000 in
theorem lc_35 {X : Nat × (Nat → Int32)} (hL : X.1 ≤ 3072) (b : Bool) (k k' : KS) (g g' : Nat → Nat → Int32) (i N N' : Nat) (v : Int64) (hi : i + 6 ≤ X.1) (hk : KO_35 N (X.2 (nI i + nI 1).toNatClampNeg) k = some (v, k')) (hg : MO_35 N' (X.2 (nI i + nI 1).toNatClampNeg) g = some (v, g')) : sv_Q X 60 M_law (1242, [some (.ref 999), some (.ref 0), some (.ref 67), some (.int (nI i))], [], LWo b k g) (some ()) (fun _ σ' => σ' = (1654, [some (.ref 999), some (.ref 0), some (.ref 67), some (.int (nI i))], [], LWo b k' g')) := by
  obtain ⟨x, hx, hf⟩ := Option.map_eq_some_iff.mp hk
  obtain ⟨y, hy, hf2⟩ := Option.map_eq_some_iff.mp hg
  have hk2 : (ku k 10 x.2) = k' := congrArg Prod.snd hf
  subst hk2
  have hv : x.1 = y.1 := (show x.1 = v from congrArg Prod.fst hf).trans (show y.1 = v from congrArg Prod.fst hf2).symm
  have hg2 : y.2 = g' := congrArg Prod.snd hf2
  subst hg2
  refine sv_Q.s (σ' := (1243, [some (.ref 999), some (.ref 0), some (.ref 67), some (.int (nI i))], [.ref 0], LWo b k g)) 1 rfl ?_
  refine sv_Q.s (σ' := (1247, [some (.ref 999), some (.ref 0), some (.ref 67), some (.int (nI i))], [.int (nI i + nI 1), .ref 999, .ref 0], LWo b k g)) 4 rfl ?_
  refine lw_rd b (q := (1247, .null, 0, 0, 0)) rfl (lw_in hL 1 (by omega) hi) ?_
  refine lw_K b (k' := (ku k 10 x.2)) (av := [.int (X.2 (nI i + nI 1).toNatClampNeg)]) (rest := []) (rv := some (.long x.1)) (q := (1248, .null, 0, 0, 0)) lk_Law_159 (r_K_ways N (k 0) (k 1) (k 2) (k 3) (k 4) (k 5) (k 6) (k 7) (k 8) (k 9) (k 10) (k 11) (k 12) (k 13) (k 14) (k 15) (X.2 (nI i + nI 1).toNatClampNeg) x hx) rfl rfl rfl rfl (fun π => rfl) (fun π => rfl) rfl ?_
  refine sv_Q.s (σ' := (1252, [some (.ref 999), some (.ref 0), some (.ref 67), some (.int (nI i))], [.ref 67, .long x.1], LWo b (ku k 10 x.2) g)) 1 rfl ?_
  refine sv_Q.s (σ' := (1256, [some (.ref 999), some (.ref 0), some (.ref 67), some (.int (nI i))], [.int (nI i + nI 1), .ref 999, .ref 67, .long x.1], LWo b (ku k 10 x.2) g)) 4 rfl ?_
  refine lw_rd b (q := (1256, .null, 0, 0, 0)) rfl (lw_in hL 1 (by omega) hi) ?_
  refine lw_M b (g' := y.2) (av := [.int (X.2 (nI i + nI 1).toNatClampNeg)]) (rest := [.long x.1]) (rv := some (.long y.1)) (q := (1257, .null, 0, 0, 0)) lk_Law_162 (r_Mo_ways N' g (X.2 (nI i + nI 1).toNatClampNeg) y hy) rfl rfl rfl rfl (fun π => rfl) (fun π => rfl) rfl ?_
  refine sv_Q.s (σ' := (1261, [some (.ref 999), some (.ref 0), some (.ref 67), some (.int (nI i))], [.int (lg_cmp (x.1) y.1)], LWo b (ku k 10 x.2) y.2)) 1 rfl ?_
  refine sv_Q.b2 rfl (fun _ => sv_Q.z rfl) (fun c => absurd (lw_cmp hv) c)
def KO_36 (N : Nat)  (k : KS) : Option (Int32 × KS) := Option.map (fun x => (x.1, (ku k 10 x.2))) (F_K_span N (k 0) (k 10))
def MO_36 (N : Nat)  (g : Nat → Nat → Int32) : Option (Int32 × (Nat → Nat → Int32)) := Option.map (fun x => (x.1, x.2)) (F_Mo_span N g)
set_option maxHeartbeats 4000000 in
set_option maxRecDepth 100000 in
theorem lc_36 {X : Nat × (Nat → Int32)} (hL : X.1 ≤ 3072) (b : Bool) (k k' : KS) (g g' : Nat → Nat → Int32) (i N N' : Nat) (v : Int32) (hi : i + 6 ≤ X.1) (hk : KO_36 N k = some (v, k')) (hg : MO_36 N' g = some (v, g')) : sv_Q X 60 M_law (1266, [some (.ref 999), some (.ref 0), some (.ref 67), some (.int (nI i))], [], LWo b k g) (some ()) (fun _ σ' => σ' = (1654, [some (.ref 999), some (.ref 0), some (.ref 67), some (.int (nI i))], [], LWo b k' g')) := by
  obtain ⟨x, hx, hf⟩ := Option.map_eq_some_iff.mp hk
  obtain ⟨y, hy, hf2⟩ := Option.map_eq_some_iff.mp hg
  have hk2 : (ku k 10 x.2) = k' := congrArg Prod.snd hf
  subst hk2
  have hv : x.1 = y.1 := (show x.1 = v from congrArg Prod.fst hf).trans (show y.1 = v from congrArg Prod.fst hf2).symm
  have hg2 : y.2 = g' := congrArg Prod.snd hf2
  subst hg2
  refine sv_Q.s (σ' := (1267, [some (.ref 999), some (.ref 0), some (.ref 67), some (.int (nI i))], [.ref 0], LWo b k g)) 1 rfl ?_
  refine lw_K b (k' := (ku k 10 x.2)) (av := []) (rest := []) (rv := some (.int x.1)) (q := (1267, .null, 0, 0, 0)) lk_Law_163 (r_K_span N (k 0) (k 1) (k 2) (k 3) (k 4) (k 5) (k 6) (k 7) (k 8) (k 9) (k 10) (k 11) (k 12) (k 13) (k 14) (k 15) x hx) rfl rfl rfl rfl (fun π => rfl) (fun π => rfl) rfl ?_
  refine sv_Q.s (σ' := (1271, [some (.ref 999), some (.ref 0), some (.ref 67), some (.int (nI i))], [.ref 67, .int x.1], LWo b (ku k 10 x.2) g)) 1 rfl ?_
  refine lw_M b (g' := y.2) (av := []) (rest := [.int x.1]) (rv := some (.int y.1)) (q := (1271, .null, 0, 0, 0)) lk_Law_166 (r_Mo_span N' g y hy) rfl rfl rfl rfl (fun π => rfl) (fun π => rfl) rfl ?_
  refine sv_Q.b2 rfl (fun _ => sv_Q.z rfl) (fun c => absurd hv c)
def KO_37 (N : Nat) (a1 : Int32) (a2 : Int32) (k : KS) : Option (Int32 × KS) := Option.map (fun x => (x.1, (ku k 10 x.2))) (F_K_bayOf N a1 a2 (k 0) (k 10))
def MO_37 (N : Nat) (a1 : Int32) (a2 : Int32) (g : Nat → Nat → Int32) : Option (Int32 × (Nat → Nat → Int32)) := Option.map (fun x => (x.1, x.2)) (F_Mo_bayOf N a1 a2 g)
set_option maxHeartbeats 4000000 in
set_option maxRecDepth 100000 in
theorem lc_37 {X : Nat × (Nat → Int32)} (hL : X.1 ≤ 3072) (b : Bool) (k k' : KS) (g g' : Nat → Nat → Int32) (i N N' : Nat) (v : Int32) (hi : i + 6 ≤ X.1) (hk : KO_37 N (X.2 (nI i + nI 1).toNatClampNeg) (X.2 (nI i + nI 2).toNatClampNeg) k = some (v, k')) (hg : MO_37 N' (X.2 (nI i + nI 1).toNatClampNeg) (X.2 (nI i + nI 2).toNatClampNeg) g = some (v, g')) : sv_Q X 60 M_law (1279, [some (.ref 999), some (.ref 0), some (.ref 67), some (.int (nI i))], [], LWo b k g) (some ()) (fun _ σ' => σ' = (1654, [some (.ref 999), some (.ref 0), some (.ref 67), some (.int (nI i))], [], LWo b k' g')) := by
  obtain ⟨x, hx, hf⟩ := Option.map_eq_some_iff.mp hk
  obtain ⟨y, hy, hf2⟩ := Option.map_eq_some_iff.mp hg
  have hk2 : (ku k 10 x.2) = k' := congrArg Prod.snd hf
  subst hk2
  have hv : x.1 = y.1 := (show x.1 = v from congrArg Prod.fst hf).trans (show y.1 = v from congrArg Prod.fst hf2).symm
  have hg2 : y.2 = g' := congrArg Prod.snd hf2
  subst hg2
  refine sv_Q.s (σ' := (1280, [some (.ref 999), some (.ref 0), some (.ref 67), some (.int (nI i))], [.ref 0], LWo b k g)) 1 rfl ?_
  refine sv_Q.s (σ' := (1284, [some (.ref 999), some (.ref 0), some (.ref 67), some (.int (nI i))], [.int (nI i + nI 1), .ref 999, .ref 0], LWo b k g)) 4 rfl ?_
  refine lw_rd b (q := (1284, .null, 0, 0, 0)) rfl (lw_in hL 1 (by omega) hi) ?_
  refine sv_Q.s (σ' := (1289, [some (.ref 999), some (.ref 0), some (.ref 67), some (.int (nI i))], [.int (nI i + nI 2), .ref 999, .int (X.2 (nI i + nI 1).toNatClampNeg), .ref 0], LWo b k g)) 4 rfl ?_
  refine lw_rd b (q := (1289, .null, 0, 0, 0)) rfl (lw_in hL 2 (by omega) hi) ?_
  refine lw_K b (k' := (ku k 10 x.2)) (av := [.int (X.2 (nI i + nI 1).toNatClampNeg), .int (X.2 (nI i + nI 2).toNatClampNeg)]) (rest := []) (rv := some (.int x.1)) (q := (1290, .null, 0, 0, 0)) lk_Law_167 (r_K_bayOf N (k 0) (k 1) (k 2) (k 3) (k 4) (k 5) (k 6) (k 7) (k 8) (k 9) (k 10) (k 11) (k 12) (k 13) (k 14) (k 15) (X.2 (nI i + nI 1).toNatClampNeg) (X.2 (nI i + nI 2).toNatClampNeg) x hx) rfl rfl rfl rfl (fun π => rfl) (fun π => rfl) rfl ?_
  refine sv_Q.s (σ' := (1294, [some (.ref 999), some (.ref 0), some (.ref 67), some (.int (nI i))], [.ref 67, .int x.1], LWo b (ku k 10 x.2) g)) 1 rfl ?_
  refine sv_Q.s (σ' := (1298, [some (.ref 999), some (.ref 0), some (.ref 67), some (.int (nI i))], [.int (nI i + nI 1), .ref 999, .ref 67, .int x.1], LWo b (ku k 10 x.2) g)) 4 rfl ?_
  refine lw_rd b (q := (1298, .null, 0, 0, 0)) rfl (lw_in hL 1 (by omega) hi) ?_
  refine sv_Q.s (σ' := (1303, [some (.ref 999), some (.ref 0), some (.ref 67), some (.int (nI i))], [.int (nI i + nI 2), .ref 999, .int (X.2 (nI i + nI 1).toNatClampNeg), .ref 67, .int x.1], LWo b (ku k 10 x.2) g)) 4 rfl ?_
  refine lw_rd b (q := (1303, .null, 0, 0, 0)) rfl (lw_in hL 2 (by omega) hi) ?_
  refine lw_M b (g' := y.2) (av := [.int (X.2 (nI i + nI 1).toNatClampNeg), .int (X.2 (nI i + nI 2).toNatClampNeg)]) (rest := [.int x.1]) (rv := some (.int y.1)) (q := (1304, .null, 0, 0, 0)) lk_Law_170 (r_Mo_bayOf N' g (X.2 (nI i + nI 1).toNatClampNeg) (X.2 (nI i + nI 2).toNatClampNeg) y hy) rfl rfl rfl rfl (fun π => rfl) (fun π => rfl) rfl ?_
  refine sv_Q.b2 rfl (fun _ => sv_Q.z rfl) (fun c => absurd hv c)
def KO_38 (N : Nat) (a1 : Int32) (k : KS) : Option (Int32 × KS) := Option.map (fun x => (x.1, (ku k 4 x.2))) (F_K_hang N a1 (k 0) (k 4) (k 9) (k 11))
def MO_38 (N : Nat) (a1 : Int32) (g : Nat → Nat → Int32) : Option (Int32 × (Nat → Nat → Int32)) := Option.map (fun x => (x.1, x.2)) (F_Mo_hang N a1 g)
set_option maxHeartbeats 4000000 in
set_option maxRecDepth 100000 in
theorem lc_38 {X : Nat × (Nat → Int32)} (hL : X.1 ≤ 3072) (b : Bool) (k k' : KS) (g g' : Nat → Nat → Int32) (i N N' : Nat) (v : Int32) (hi : i + 6 ≤ X.1) (hk : KO_38 N (X.2 (nI i + nI 1).toNatClampNeg) k = some (v, k')) (hg : MO_38 N' (X.2 (nI i + nI 1).toNatClampNeg) g = some (v, g')) : sv_Q X 60 M_law (1312, [some (.ref 999), some (.ref 0), some (.ref 67), some (.int (nI i))], [], LWo b k g) (some ()) (fun _ σ' => σ' = (1654, [some (.ref 999), some (.ref 0), some (.ref 67), some (.int (nI i))], [], LWo b k' g')) := by
  obtain ⟨x, hx, hf⟩ := Option.map_eq_some_iff.mp hk
  obtain ⟨y, hy, hf2⟩ := Option.map_eq_some_iff.mp hg
  have hk2 : (ku k 4 x.2) = k' := congrArg Prod.snd hf
  subst hk2
  have hv : x.1 = y.1 := (show x.1 = v from congrArg Prod.fst hf).trans (show y.1 = v from congrArg Prod.fst hf2).symm
  have hg2 : y.2 = g' := congrArg Prod.snd hf2
  subst hg2
  refine sv_Q.s (σ' := (1313, [some (.ref 999), some (.ref 0), some (.ref 67), some (.int (nI i))], [.ref 0], LWo b k g)) 1 rfl ?_
  refine sv_Q.s (σ' := (1317, [some (.ref 999), some (.ref 0), some (.ref 67), some (.int (nI i))], [.int (nI i + nI 1), .ref 999, .ref 0], LWo b k g)) 4 rfl ?_
  refine lw_rd b (q := (1317, .null, 0, 0, 0)) rfl (lw_in hL 1 (by omega) hi) ?_
  refine lw_K b (k' := (ku k 4 x.2)) (av := [.int (X.2 (nI i + nI 1).toNatClampNeg)]) (rest := []) (rv := some (.int x.1)) (q := (1318, .null, 0, 0, 0)) lk_Law_171 (r_K_hang N (k 0) (k 1) (k 2) (k 3) (k 4) (k 5) (k 6) (k 7) (k 8) (k 9) (k 10) (k 11) (k 12) (k 13) (k 14) (k 15) (X.2 (nI i + nI 1).toNatClampNeg) x hx) rfl rfl rfl rfl (fun π => rfl) (fun π => rfl) rfl ?_
  refine sv_Q.s (σ' := (1322, [some (.ref 999), some (.ref 0), some (.ref 67), some (.int (nI i))], [.ref 67, .int x.1], LWo b (ku k 4 x.2) g)) 1 rfl ?_
  refine sv_Q.s (σ' := (1326, [some (.ref 999), some (.ref 0), some (.ref 67), some (.int (nI i))], [.int (nI i + nI 1), .ref 999, .ref 67, .int x.1], LWo b (ku k 4 x.2) g)) 4 rfl ?_
  refine lw_rd b (q := (1326, .null, 0, 0, 0)) rfl (lw_in hL 1 (by omega) hi) ?_
  refine lw_M b (g' := y.2) (av := [.int (X.2 (nI i + nI 1).toNatClampNeg)]) (rest := [.int x.1]) (rv := some (.int y.1)) (q := (1327, .null, 0, 0, 0)) lk_Law_174 (r_Mo_hang N' g (X.2 (nI i + nI 1).toNatClampNeg) y hy) rfl rfl rfl rfl (fun π => rfl) (fun π => rfl) rfl ?_
  refine sv_Q.b2 rfl (fun _ => sv_Q.z rfl) (fun c => absurd hv c)
def KO_39 (N : Nat)  (k : KS) : Option (Int32 × KS) := Option.map (fun x => (x.1, (ku (ku k 1 x.2.1) 11 x.2.2))) (F_K_clears N (k 0) (k 1) (k 9) (k 11))
def MO_39 (N : Nat)  (g : Nat → Nat → Int32) : Option (Int32 × (Nat → Nat → Int32)) := Option.map (fun x => (x.1, x.2)) (F_Mo_clears N g)
set_option maxHeartbeats 4000000 in
set_option maxRecDepth 100000 in
theorem lc_39 {X : Nat × (Nat → Int32)} (hL : X.1 ≤ 3072) (b : Bool) (k k' : KS) (g g' : Nat → Nat → Int32) (i N N' : Nat) (v : Int32) (hi : i + 6 ≤ X.1) (hk : KO_39 N k = some (v, k')) (hg : MO_39 N' g = some (v, g')) : sv_Q X 60 M_law (1335, [some (.ref 999), some (.ref 0), some (.ref 67), some (.int (nI i))], [], LWo b k g) (some ()) (fun _ σ' => σ' = (1654, [some (.ref 999), some (.ref 0), some (.ref 67), some (.int (nI i))], [], LWo b k' g')) := by
  obtain ⟨x, hx, hf⟩ := Option.map_eq_some_iff.mp hk
  obtain ⟨y, hy, hf2⟩ := Option.map_eq_some_iff.mp hg
  have hk2 : (ku (ku k 1 x.2.1) 11 x.2.2) = k' := congrArg Prod.snd hf
  subst hk2
  have hv : x.1 = y.1 := (show x.1 = v from congrArg Prod.fst hf).trans (show y.1 = v from congrArg Prod.fst hf2).symm
  have hg2 : y.2 = g' := congrArg Prod.snd hf2
  subst hg2
  refine sv_Q.s (σ' := (1336, [some (.ref 999), some (.ref 0), some (.ref 67), some (.int (nI i))], [.ref 0], LWo b k g)) 1 rfl ?_
  refine lw_K b (k' := (ku (ku k 1 x.2.1) 11 x.2.2)) (av := []) (rest := []) (rv := some (.int x.1)) (q := (1336, .null, 0, 0, 0)) lk_Law_175 (r_K_clears N (k 0) (k 1) (k 2) (k 3) (k 4) (k 5) (k 6) (k 7) (k 8) (k 9) (k 10) (k 11) (k 12) (k 13) (k 14) (k 15) x hx) rfl rfl rfl rfl (fun π => rfl) (fun π => rfl) rfl ?_
  refine sv_Q.s (σ' := (1340, [some (.ref 999), some (.ref 0), some (.ref 67), some (.int (nI i))], [.ref 67, .int x.1], LWo b (ku (ku k 1 x.2.1) 11 x.2.2) g)) 1 rfl ?_
  refine lw_M b (g' := y.2) (av := []) (rest := [.int x.1]) (rv := some (.int y.1)) (q := (1340, .null, 0, 0, 0)) lk_Law_178 (r_Mo_clears N' g y hy) rfl rfl rfl rfl (fun π => rfl) (fun π => rfl) rfl ?_
  refine sv_Q.b2 rfl (fun _ => sv_Q.z rfl) (fun c => absurd hv c)
def KO_40 (N : Nat)  (k : KS) : Option (Int32 × KS) := Option.map (fun x => (x.1, (ku (ku (ku k 1 x.2.1) 9 x.2.2.1) 11 x.2.2.2))) (F_K_undo N (k 1) (k 9) (k 11))
def MO_40 (N : Nat)  (g : Nat → Nat → Int32) : Option (Int32 × (Nat → Nat → Int32)) := Option.map (fun x => (x.1, x.2)) (F_Mo_undo N g)
set_option maxHeartbeats 4000000 in
set_option maxRecDepth 100000 in
theorem lc_40 {X : Nat × (Nat → Int32)} (hL : X.1 ≤ 3072) (b : Bool) (k k' : KS) (g g' : Nat → Nat → Int32) (i N N' : Nat) (v : Int32) (hi : i + 6 ≤ X.1) (hk : KO_40 N k = some (v, k')) (hg : MO_40 N' g = some (v, g')) : sv_Q X 60 M_law (1348, [some (.ref 999), some (.ref 0), some (.ref 67), some (.int (nI i))], [], LWo b k g) (some ()) (fun _ σ' => σ' = (1654, [some (.ref 999), some (.ref 0), some (.ref 67), some (.int (nI i))], [], LWo b k' g')) := by
  obtain ⟨x, hx, hf⟩ := Option.map_eq_some_iff.mp hk
  obtain ⟨y, hy, hf2⟩ := Option.map_eq_some_iff.mp hg
  have hk2 : (ku (ku (ku k 1 x.2.1) 9 x.2.2.1) 11 x.2.2.2) = k' := congrArg Prod.snd hf
  subst hk2
  have hv : x.1 = y.1 := (show x.1 = v from congrArg Prod.fst hf).trans (show y.1 = v from congrArg Prod.fst hf2).symm
  have hg2 : y.2 = g' := congrArg Prod.snd hf2
  subst hg2
  refine sv_Q.s (σ' := (1349, [some (.ref 999), some (.ref 0), some (.ref 67), some (.int (nI i))], [.ref 0], LWo b k g)) 1 rfl ?_
  refine lw_K b (k' := (ku (ku (ku k 1 x.2.1) 9 x.2.2.1) 11 x.2.2.2)) (av := []) (rest := []) (rv := some (.int x.1)) (q := (1349, .null, 0, 0, 0)) lk_Law_179 (r_K_undo N (k 0) (k 1) (k 2) (k 3) (k 4) (k 5) (k 6) (k 7) (k 8) (k 9) (k 10) (k 11) (k 12) (k 13) (k 14) (k 15) x hx) rfl rfl rfl rfl (fun π => rfl) (fun π => rfl) rfl ?_
  refine sv_Q.s (σ' := (1353, [some (.ref 999), some (.ref 0), some (.ref 67), some (.int (nI i))], [.ref 67, .int x.1], LWo b (ku (ku (ku k 1 x.2.1) 9 x.2.2.1) 11 x.2.2.2) g)) 1 rfl ?_
  refine lw_M b (g' := y.2) (av := []) (rest := [.int x.1]) (rv := some (.int y.1)) (q := (1353, .null, 0, 0, 0)) lk_Law_182 (r_Mo_undo N' g y hy) rfl rfl rfl rfl (fun π => rfl) (fun π => rfl) rfl ?_
  refine sv_Q.b2 rfl (fun _ => sv_Q.z rfl) (fun c => absurd hv c)
def KO_41 (N : Nat) (a1 : Int32) (k : KS) : Option (Int32 × KS) := Option.map (fun x => (x.1, (ku k 5 x.2))) (F_K_tell N a1 (k 0) (k 5) (k 9) (k 11))
def MO_41 (N : Nat) (a1 : Int32) (g : Nat → Nat → Int32) : Option (Int32 × (Nat → Nat → Int32)) := Option.map (fun x => (x.1, x.2)) (F_Mo_tell N a1 g)
set_option maxHeartbeats 4000000 in
set_option maxRecDepth 100000 in
theorem lc_41 {X : Nat × (Nat → Int32)} (hL : X.1 ≤ 3072) (b : Bool) (k k' : KS) (g g' : Nat → Nat → Int32) (i N N' : Nat) (v : Int32) (hi : i + 6 ≤ X.1) (hk : KO_41 N (X.2 (nI i + nI 1).toNatClampNeg) k = some (v, k')) (hg : MO_41 N' (X.2 (nI i + nI 1).toNatClampNeg) g = some (v, g')) : sv_Q X 60 M_law (1361, [some (.ref 999), some (.ref 0), some (.ref 67), some (.int (nI i))], [], LWo b k g) (some ()) (fun _ σ' => σ' = (1654, [some (.ref 999), some (.ref 0), some (.ref 67), some (.int (nI i))], [], LWo b k' g')) := by
  obtain ⟨x, hx, hf⟩ := Option.map_eq_some_iff.mp hk
  obtain ⟨y, hy, hf2⟩ := Option.map_eq_some_iff.mp hg
  have hk2 : (ku k 5 x.2) = k' := congrArg Prod.snd hf
  subst hk2
  have hv : x.1 = y.1 := (show x.1 = v from congrArg Prod.fst hf).trans (show y.1 = v from congrArg Prod.fst hf2).symm
  have hg2 : y.2 = g' := congrArg Prod.snd hf2
  subst hg2
  refine sv_Q.s (σ' := (1362, [some (.ref 999), some (.ref 0), some (.ref 67), some (.int (nI i))], [.ref 0], LWo b k g)) 1 rfl ?_
  refine sv_Q.s (σ' := (1366, [some (.ref 999), some (.ref 0), some (.ref 67), some (.int (nI i))], [.int (nI i + nI 1), .ref 999, .ref 0], LWo b k g)) 4 rfl ?_
  refine lw_rd b (q := (1366, .null, 0, 0, 0)) rfl (lw_in hL 1 (by omega) hi) ?_
  refine lw_K b (k' := (ku k 5 x.2)) (av := [.int (X.2 (nI i + nI 1).toNatClampNeg)]) (rest := []) (rv := some (.int x.1)) (q := (1367, .null, 0, 0, 0)) lk_Law_183 (r_K_tell N (k 0) (k 1) (k 2) (k 3) (k 4) (k 5) (k 6) (k 7) (k 8) (k 9) (k 10) (k 11) (k 12) (k 13) (k 14) (k 15) (X.2 (nI i + nI 1).toNatClampNeg) x hx) rfl rfl rfl rfl (fun π => rfl) (fun π => rfl) rfl ?_
  refine sv_Q.s (σ' := (1371, [some (.ref 999), some (.ref 0), some (.ref 67), some (.int (nI i))], [.ref 67, .int x.1], LWo b (ku k 5 x.2) g)) 1 rfl ?_
  refine sv_Q.s (σ' := (1375, [some (.ref 999), some (.ref 0), some (.ref 67), some (.int (nI i))], [.int (nI i + nI 1), .ref 999, .ref 67, .int x.1], LWo b (ku k 5 x.2) g)) 4 rfl ?_
  refine lw_rd b (q := (1375, .null, 0, 0, 0)) rfl (lw_in hL 1 (by omega) hi) ?_
  refine lw_M b (g' := y.2) (av := [.int (X.2 (nI i + nI 1).toNatClampNeg)]) (rest := [.int x.1]) (rv := some (.int y.1)) (q := (1376, .null, 0, 0, 0)) lk_Law_186 (r_Mo_tell N' g (X.2 (nI i + nI 1).toNatClampNeg) y hy) rfl rfl rfl rfl (fun π => rfl) (fun π => rfl) rfl ?_
  refine sv_Q.b2 rfl (fun _ => sv_Q.z rfl) (fun c => absurd hv c)
def KO_42 (N : Nat) (a1 : Int32) (k : KS) : Option (Int32 × KS) := Option.map (fun x => (x, k)) (some (F_K_octet a1 (k 5)))
def MO_42 (N : Nat) (a1 : Int32) (g : Nat → Nat → Int32) : Option (Int32 × (Nat → Nat → Int32)) := Option.map (fun x => (x, g)) (F_Mo_octet N a1 g)
set_option maxHeartbeats 4000000 in
set_option maxRecDepth 100000 in
theorem lc_42 {X : Nat × (Nat → Int32)} (hL : X.1 ≤ 3072) (b : Bool) (k k' : KS) (g g' : Nat → Nat → Int32) (i N N' : Nat) (v : Int32) (hi : i + 6 ≤ X.1) (hk : KO_42 N (X.2 (nI i + nI 1).toNatClampNeg) k = some (v, k')) (hg : MO_42 N' (X.2 (nI i + nI 1).toNatClampNeg) g = some (v, g')) : sv_Q X 60 M_law (1384, [some (.ref 999), some (.ref 0), some (.ref 67), some (.int (nI i))], [], LWo b k g) (some ()) (fun _ σ' => σ' = (1654, [some (.ref 999), some (.ref 0), some (.ref 67), some (.int (nI i))], [], LWo b k' g')) := by
  obtain ⟨x, hx, hf⟩ := Option.map_eq_some_iff.mp hk
  obtain ⟨y, hy, hf2⟩ := Option.map_eq_some_iff.mp hg
  have hk2 : k = k' := congrArg Prod.snd hf
  subst hk2
  have hv : x = y := (show x = v from congrArg Prod.fst hf).trans (show y = v from congrArg Prod.fst hf2).symm
  have hg2 : g = g' := congrArg Prod.snd hf2
  subst hg2
  refine sv_Q.s (σ' := (1385, [some (.ref 999), some (.ref 0), some (.ref 67), some (.int (nI i))], [.ref 0], LWo b k g)) 1 rfl ?_
  refine sv_Q.s (σ' := (1389, [some (.ref 999), some (.ref 0), some (.ref 67), some (.int (nI i))], [.int (nI i + nI 1), .ref 999, .ref 0], LWo b k g)) 4 rfl ?_
  refine lw_rd b (q := (1389, .null, 0, 0, 0)) rfl (lw_in hL 1 (by omega) hi) ?_
  refine lw_K b (k' := k) (av := [.int (X.2 (nI i + nI 1).toNatClampNeg)]) (rest := []) (rv := some (.int x)) (q := (1390, .null, 0, 0, 0)) lk_Law_187 (r_K_octet (k 0) (k 1) (k 2) (k 3) (k 4) (k 5) (k 6) (k 7) (k 8) (k 9) (k 10) (k 11) (k 12) (k 13) (k 14) (k 15) (X.2 (nI i + nI 1).toNatClampNeg) x hx) rfl rfl rfl rfl (fun π => rfl) (fun π => rfl) rfl ?_
  refine sv_Q.s (σ' := (1394, [some (.ref 999), some (.ref 0), some (.ref 67), some (.int (nI i))], [.ref 67, .int x], LWo b k g)) 1 rfl ?_
  refine sv_Q.s (σ' := (1398, [some (.ref 999), some (.ref 0), some (.ref 67), some (.int (nI i))], [.int (nI i + nI 1), .ref 999, .ref 67, .int x], LWo b k g)) 4 rfl ?_
  refine lw_rd b (q := (1398, .null, 0, 0, 0)) rfl (lw_in hL 1 (by omega) hi) ?_
  refine lw_M b (g' := g) (av := [.int (X.2 (nI i + nI 1).toNatClampNeg)]) (rest := [.int x]) (rv := some (.int y)) (q := (1399, .null, 0, 0, 0)) lk_Law_190 (r_Mo_octet N' g (X.2 (nI i + nI 1).toNatClampNeg) y hy) rfl rfl rfl rfl (fun π => rfl) (fun π => rfl) rfl ?_
  refine sv_Q.b2 rfl (fun _ => sv_Q.z rfl) (fun c => absurd hv c)
def KO_43 (N : Nat) (a1 : Int32) (a2 : Int32) (a3 : Int32) (a4 : Int32) (k : KS) : Option (Int32 × KS) := Option.map (fun x => (x, k)) (F_K_stack N a1 a2 a3 a4 (k 0) (k 9) (k 11))
def MO_43 (N : Nat) (a1 : Int32) (a2 : Int32) (a3 : Int32) (a4 : Int32) (g : Nat → Nat → Int32) : Option (Int32 × (Nat → Nat → Int32)) := Option.map (fun x => (x, g)) (F_Mo_stack N a1 a2 a3 a4 g)
set_option maxHeartbeats 4000000 in
set_option maxRecDepth 100000 in
theorem lc_43 {X : Nat × (Nat → Int32)} (hL : X.1 ≤ 3072) (b : Bool) (k k' : KS) (g g' : Nat → Nat → Int32) (i N N' : Nat) (v : Int32) (hi : i + 6 ≤ X.1) (hk : KO_43 N (X.2 (nI i + nI 1).toNatClampNeg) (X.2 (nI i + nI 2).toNatClampNeg) (X.2 (nI i + nI 3).toNatClampNeg) (X.2 (nI i + nI 4).toNatClampNeg) k = some (v, k')) (hg : MO_43 N' (X.2 (nI i + nI 1).toNatClampNeg) (X.2 (nI i + nI 2).toNatClampNeg) (X.2 (nI i + nI 3).toNatClampNeg) (X.2 (nI i + nI 4).toNatClampNeg) g = some (v, g')) : sv_Q X 60 M_law (1407, [some (.ref 999), some (.ref 0), some (.ref 67), some (.int (nI i))], [], LWo b k g) (some ()) (fun _ σ' => σ' = (1654, [some (.ref 999), some (.ref 0), some (.ref 67), some (.int (nI i))], [], LWo b k' g')) := by
  obtain ⟨x, hx, hf⟩ := Option.map_eq_some_iff.mp hk
  obtain ⟨y, hy, hf2⟩ := Option.map_eq_some_iff.mp hg
  have hk2 : k = k' := congrArg Prod.snd hf
  subst hk2
  have hv : x = y := (show x = v from congrArg Prod.fst hf).trans (show y = v from congrArg Prod.fst hf2).symm
  have hg2 : g = g' := congrArg Prod.snd hf2
  subst hg2
  refine sv_Q.s (σ' := (1408, [some (.ref 999), some (.ref 0), some (.ref 67), some (.int (nI i))], [.ref 0], LWo b k g)) 1 rfl ?_
  refine sv_Q.s (σ' := (1412, [some (.ref 999), some (.ref 0), some (.ref 67), some (.int (nI i))], [.int (nI i + nI 1), .ref 999, .ref 0], LWo b k g)) 4 rfl ?_
  refine lw_rd b (q := (1412, .null, 0, 0, 0)) rfl (lw_in hL 1 (by omega) hi) ?_
  refine sv_Q.s (σ' := (1417, [some (.ref 999), some (.ref 0), some (.ref 67), some (.int (nI i))], [.int (nI i + nI 2), .ref 999, .int (X.2 (nI i + nI 1).toNatClampNeg), .ref 0], LWo b k g)) 4 rfl ?_
  refine lw_rd b (q := (1417, .null, 0, 0, 0)) rfl (lw_in hL 2 (by omega) hi) ?_
  refine sv_Q.s (σ' := (1422, [some (.ref 999), some (.ref 0), some (.ref 67), some (.int (nI i))], [.int (nI i + nI 3), .ref 999, .int (X.2 (nI i + nI 2).toNatClampNeg), .int (X.2 (nI i + nI 1).toNatClampNeg), .ref 0], LWo b k g)) 4 rfl ?_
  refine lw_rd b (q := (1422, .null, 0, 0, 0)) rfl (lw_in hL 3 (by omega) hi) ?_
  refine sv_Q.s (σ' := (1427, [some (.ref 999), some (.ref 0), some (.ref 67), some (.int (nI i))], [.int (nI i + nI 4), .ref 999, .int (X.2 (nI i + nI 3).toNatClampNeg), .int (X.2 (nI i + nI 2).toNatClampNeg), .int (X.2 (nI i + nI 1).toNatClampNeg), .ref 0], LWo b k g)) 4 rfl ?_
  refine lw_rd b (q := (1427, .null, 0, 0, 0)) rfl (lw_in hL 4 (by omega) hi) ?_
  refine lw_K b (k' := k) (av := [.int (X.2 (nI i + nI 1).toNatClampNeg), .int (X.2 (nI i + nI 2).toNatClampNeg), .int (X.2 (nI i + nI 3).toNatClampNeg), .int (X.2 (nI i + nI 4).toNatClampNeg)]) (rest := []) (rv := some (.int x)) (q := (1428, .null, 0, 0, 0)) lk_Law_191 (r_K_stack N (k 0) (k 1) (k 2) (k 3) (k 4) (k 5) (k 6) (k 7) (k 8) (k 9) (k 10) (k 11) (k 12) (k 13) (k 14) (k 15) (X.2 (nI i + nI 1).toNatClampNeg) (X.2 (nI i + nI 2).toNatClampNeg) (X.2 (nI i + nI 3).toNatClampNeg) (X.2 (nI i + nI 4).toNatClampNeg) x hx) rfl rfl rfl rfl (fun π => rfl) (fun π => rfl) rfl ?_
  refine sv_Q.s (σ' := (1432, [some (.ref 999), some (.ref 0), some (.ref 67), some (.int (nI i))], [.ref 67, .int x], LWo b k g)) 1 rfl ?_
  refine sv_Q.s (σ' := (1436, [some (.ref 999), some (.ref 0), some (.ref 67), some (.int (nI i))], [.int (nI i + nI 1), .ref 999, .ref 67, .int x], LWo b k g)) 4 rfl ?_
  refine lw_rd b (q := (1436, .null, 0, 0, 0)) rfl (lw_in hL 1 (by omega) hi) ?_
  refine sv_Q.s (σ' := (1441, [some (.ref 999), some (.ref 0), some (.ref 67), some (.int (nI i))], [.int (nI i + nI 2), .ref 999, .int (X.2 (nI i + nI 1).toNatClampNeg), .ref 67, .int x], LWo b k g)) 4 rfl ?_
  refine lw_rd b (q := (1441, .null, 0, 0, 0)) rfl (lw_in hL 2 (by omega) hi) ?_
  refine sv_Q.s (σ' := (1446, [some (.ref 999), some (.ref 0), some (.ref 67), some (.int (nI i))], [.int (nI i + nI 3), .ref 999, .int (X.2 (nI i + nI 2).toNatClampNeg), .int (X.2 (nI i + nI 1).toNatClampNeg), .ref 67, .int x], LWo b k g)) 4 rfl ?_
  refine lw_rd b (q := (1446, .null, 0, 0, 0)) rfl (lw_in hL 3 (by omega) hi) ?_
  refine sv_Q.s (σ' := (1451, [some (.ref 999), some (.ref 0), some (.ref 67), some (.int (nI i))], [.int (nI i + nI 4), .ref 999, .int (X.2 (nI i + nI 3).toNatClampNeg), .int (X.2 (nI i + nI 2).toNatClampNeg), .int (X.2 (nI i + nI 1).toNatClampNeg), .ref 67, .int x], LWo b k g)) 4 rfl ?_
  refine lw_rd b (q := (1451, .null, 0, 0, 0)) rfl (lw_in hL 4 (by omega) hi) ?_
  refine lw_M b (g' := g) (av := [.int (X.2 (nI i + nI 1).toNatClampNeg), .int (X.2 (nI i + nI 2).toNatClampNeg), .int (X.2 (nI i + nI 3).toNatClampNeg), .int (X.2 (nI i + nI 4).toNatClampNeg)]) (rest := [.int x]) (rv := some (.int y)) (q := (1452, .null, 0, 0, 0)) lk_Law_195 (r_Mo_stack N' g (X.2 (nI i + nI 1).toNatClampNeg) (X.2 (nI i + nI 2).toNatClampNeg) (X.2 (nI i + nI 3).toNatClampNeg) (X.2 (nI i + nI 4).toNatClampNeg) y hy) rfl rfl rfl rfl (fun π => rfl) (fun π => rfl) rfl ?_
  refine sv_Q.b2 rfl (fun _ => sv_Q.z rfl) (fun c => absurd hv c)
def KO_44 (N : Nat) (a1 : Int32) (k : KS) : Option (Int32 × KS) := Option.map (fun x => (x, k)) (F_K_kindsIn N a1 (k 0) (k 9) (k 11))
def MO_44 (N : Nat) (a1 : Int32) (g : Nat → Nat → Int32) : Option (Int32 × (Nat → Nat → Int32)) := Option.map (fun x => (x, g)) (F_Mo_kindsIn N a1 g)
set_option maxHeartbeats 4000000 in
set_option maxRecDepth 100000 in
theorem lc_44 {X : Nat × (Nat → Int32)} (hL : X.1 ≤ 3072) (b : Bool) (k k' : KS) (g g' : Nat → Nat → Int32) (i N N' : Nat) (v : Int32) (hi : i + 6 ≤ X.1) (hk : KO_44 N (X.2 (nI i + nI 1).toNatClampNeg) k = some (v, k')) (hg : MO_44 N' (X.2 (nI i + nI 1).toNatClampNeg) g = some (v, g')) : sv_Q X 60 M_law (1460, [some (.ref 999), some (.ref 0), some (.ref 67), some (.int (nI i))], [], LWo b k g) (some ()) (fun _ σ' => σ' = (1654, [some (.ref 999), some (.ref 0), some (.ref 67), some (.int (nI i))], [], LWo b k' g')) := by
  obtain ⟨x, hx, hf⟩ := Option.map_eq_some_iff.mp hk
  obtain ⟨y, hy, hf2⟩ := Option.map_eq_some_iff.mp hg
  have hk2 : k = k' := congrArg Prod.snd hf
  subst hk2
  have hv : x = y := (show x = v from congrArg Prod.fst hf).trans (show y = v from congrArg Prod.fst hf2).symm
  have hg2 : g = g' := congrArg Prod.snd hf2
  subst hg2
  refine sv_Q.s (σ' := (1461, [some (.ref 999), some (.ref 0), some (.ref 67), some (.int (nI i))], [.ref 0], LWo b k g)) 1 rfl ?_
  refine sv_Q.s (σ' := (1465, [some (.ref 999), some (.ref 0), some (.ref 67), some (.int (nI i))], [.int (nI i + nI 1), .ref 999, .ref 0], LWo b k g)) 4 rfl ?_
  refine lw_rd b (q := (1465, .null, 0, 0, 0)) rfl (lw_in hL 1 (by omega) hi) ?_
  refine lw_K b (k' := k) (av := [.int (X.2 (nI i + nI 1).toNatClampNeg)]) (rest := []) (rv := some (.int x)) (q := (1466, .null, 0, 0, 0)) lk_Law_196 (r_K_kindsIn N (k 0) (k 1) (k 2) (k 3) (k 4) (k 5) (k 6) (k 7) (k 8) (k 9) (k 10) (k 11) (k 12) (k 13) (k 14) (k 15) (X.2 (nI i + nI 1).toNatClampNeg) x hx) rfl rfl rfl rfl (fun π => rfl) (fun π => rfl) rfl ?_
  refine sv_Q.s (σ' := (1470, [some (.ref 999), some (.ref 0), some (.ref 67), some (.int (nI i))], [.ref 67, .int x], LWo b k g)) 1 rfl ?_
  refine sv_Q.s (σ' := (1474, [some (.ref 999), some (.ref 0), some (.ref 67), some (.int (nI i))], [.int (nI i + nI 1), .ref 999, .ref 67, .int x], LWo b k g)) 4 rfl ?_
  refine lw_rd b (q := (1474, .null, 0, 0, 0)) rfl (lw_in hL 1 (by omega) hi) ?_
  refine lw_M b (g' := g) (av := [.int (X.2 (nI i + nI 1).toNatClampNeg)]) (rest := [.int x]) (rv := some (.int y)) (q := (1475, .null, 0, 0, 0)) lk_Law_199 (r_Mo_kindsIn N' g (X.2 (nI i + nI 1).toNatClampNeg) y hy) rfl rfl rfl rfl (fun π => rfl) (fun π => rfl) rfl ?_
  refine sv_Q.b2 rfl (fun _ => sv_Q.z rfl) (fun c => absurd hv c)
def KO_45 (N : Nat) (a1 : Int32) (k : KS) : Option (Int32 × KS) := Option.map (fun x => (x, k)) (F_K_free N a1 (k 0) (k 9) (k 11))
def MO_45 (N : Nat) (a1 : Int32) (g : Nat → Nat → Int32) : Option (Int32 × (Nat → Nat → Int32)) := Option.map (fun x => (x, g)) (F_Mo_free N a1 g)
set_option maxHeartbeats 4000000 in
set_option maxRecDepth 100000 in
theorem lc_45 {X : Nat × (Nat → Int32)} (hL : X.1 ≤ 3072) (b : Bool) (k k' : KS) (g g' : Nat → Nat → Int32) (i N N' : Nat) (v : Int32) (hi : i + 6 ≤ X.1) (hk : KO_45 N (X.2 (nI i + nI 1).toNatClampNeg) k = some (v, k')) (hg : MO_45 N' (X.2 (nI i + nI 1).toNatClampNeg) g = some (v, g')) : sv_Q X 60 M_law (1483, [some (.ref 999), some (.ref 0), some (.ref 67), some (.int (nI i))], [], LWo b k g) (some ()) (fun _ σ' => σ' = (1654, [some (.ref 999), some (.ref 0), some (.ref 67), some (.int (nI i))], [], LWo b k' g')) := by
  obtain ⟨x, hx, hf⟩ := Option.map_eq_some_iff.mp hk
  obtain ⟨y, hy, hf2⟩ := Option.map_eq_some_iff.mp hg
  have hk2 : k = k' := congrArg Prod.snd hf
  subst hk2
  have hv : x = y := (show x = v from congrArg Prod.fst hf).trans (show y = v from congrArg Prod.fst hf2).symm
  have hg2 : g = g' := congrArg Prod.snd hf2
  subst hg2
  refine sv_Q.s (σ' := (1484, [some (.ref 999), some (.ref 0), some (.ref 67), some (.int (nI i))], [.ref 0], LWo b k g)) 1 rfl ?_
  refine sv_Q.s (σ' := (1488, [some (.ref 999), some (.ref 0), some (.ref 67), some (.int (nI i))], [.int (nI i + nI 1), .ref 999, .ref 0], LWo b k g)) 4 rfl ?_
  refine lw_rd b (q := (1488, .null, 0, 0, 0)) rfl (lw_in hL 1 (by omega) hi) ?_
  refine lw_K b (k' := k) (av := [.int (X.2 (nI i + nI 1).toNatClampNeg)]) (rest := []) (rv := some (.int x)) (q := (1489, .null, 0, 0, 0)) lk_Law_200 (r_K_free N (k 0) (k 1) (k 2) (k 3) (k 4) (k 5) (k 6) (k 7) (k 8) (k 9) (k 10) (k 11) (k 12) (k 13) (k 14) (k 15) (X.2 (nI i + nI 1).toNatClampNeg) x hx) rfl rfl rfl rfl (fun π => rfl) (fun π => rfl) rfl ?_
  refine sv_Q.s (σ' := (1493, [some (.ref 999), some (.ref 0), some (.ref 67), some (.int (nI i))], [.ref 67, .int x], LWo b k g)) 1 rfl ?_
  refine sv_Q.s (σ' := (1497, [some (.ref 999), some (.ref 0), some (.ref 67), some (.int (nI i))], [.int (nI i + nI 1), .ref 999, .ref 67, .int x], LWo b k g)) 4 rfl ?_
  refine lw_rd b (q := (1497, .null, 0, 0, 0)) rfl (lw_in hL 1 (by omega) hi) ?_
  refine lw_M b (g' := g) (av := [.int (X.2 (nI i + nI 1).toNatClampNeg)]) (rest := [.int x]) (rv := some (.int y)) (q := (1498, .null, 0, 0, 0)) lk_Law_203 (r_Mo_free N' g (X.2 (nI i + nI 1).toNatClampNeg) y hy) rfl rfl rfl rfl (fun π => rfl) (fun π => rfl) rfl ?_
  refine sv_Q.b2 rfl (fun _ => sv_Q.z rfl) (fun c => absurd hv c)
def KO_46 (N : Nat) (a1 : Int32) (k : KS) : Option (Int32 × KS) := Option.map (fun x => (x, k)) (F_K_loosest N a1 (k 0) (k 9) (k 10) (k 11))
def MO_46 (N : Nat) (a1 : Int32) (g : Nat → Nat → Int32) : Option (Int32 × (Nat → Nat → Int32)) := Option.map (fun x => (x, g)) (F_Mo_loosest N a1 g)
set_option maxHeartbeats 4000000 in
set_option maxRecDepth 100000 in
theorem lc_46 {X : Nat × (Nat → Int32)} (hL : X.1 ≤ 3072) (b : Bool) (k k' : KS) (g g' : Nat → Nat → Int32) (i N N' : Nat) (v : Int32) (hi : i + 6 ≤ X.1) (hk : KO_46 N (X.2 (nI i + nI 1).toNatClampNeg) k = some (v, k')) (hg : MO_46 N' (X.2 (nI i + nI 1).toNatClampNeg) g = some (v, g')) : sv_Q X 60 M_law (1506, [some (.ref 999), some (.ref 0), some (.ref 67), some (.int (nI i))], [], LWo b k g) (some ()) (fun _ σ' => σ' = (1654, [some (.ref 999), some (.ref 0), some (.ref 67), some (.int (nI i))], [], LWo b k' g')) := by
  obtain ⟨x, hx, hf⟩ := Option.map_eq_some_iff.mp hk
  obtain ⟨y, hy, hf2⟩ := Option.map_eq_some_iff.mp hg
  have hk2 : k = k' := congrArg Prod.snd hf
  subst hk2
  have hv : x = y := (show x = v from congrArg Prod.fst hf).trans (show y = v from congrArg Prod.fst hf2).symm
  have hg2 : g = g' := congrArg Prod.snd hf2
  subst hg2
  refine sv_Q.s (σ' := (1507, [some (.ref 999), some (.ref 0), some (.ref 67), some (.int (nI i))], [.ref 0], LWo b k g)) 1 rfl ?_
  refine sv_Q.s (σ' := (1511, [some (.ref 999), some (.ref 0), some (.ref 67), some (.int (nI i))], [.int (nI i + nI 1), .ref 999, .ref 0], LWo b k g)) 4 rfl ?_
  refine lw_rd b (q := (1511, .null, 0, 0, 0)) rfl (lw_in hL 1 (by omega) hi) ?_
  refine lw_K b (k' := k) (av := [.int (X.2 (nI i + nI 1).toNatClampNeg)]) (rest := []) (rv := some (.int x)) (q := (1512, .null, 0, 0, 0)) lk_Law_204 (r_K_loosest N (k 0) (k 1) (k 2) (k 3) (k 4) (k 5) (k 6) (k 7) (k 8) (k 9) (k 10) (k 11) (k 12) (k 13) (k 14) (k 15) (X.2 (nI i + nI 1).toNatClampNeg) x hx) rfl rfl rfl rfl (fun π => rfl) (fun π => rfl) rfl ?_
  refine sv_Q.s (σ' := (1516, [some (.ref 999), some (.ref 0), some (.ref 67), some (.int (nI i))], [.ref 67, .int x], LWo b k g)) 1 rfl ?_
  refine sv_Q.s (σ' := (1520, [some (.ref 999), some (.ref 0), some (.ref 67), some (.int (nI i))], [.int (nI i + nI 1), .ref 999, .ref 67, .int x], LWo b k g)) 4 rfl ?_
  refine lw_rd b (q := (1520, .null, 0, 0, 0)) rfl (lw_in hL 1 (by omega) hi) ?_
  refine lw_M b (g' := g) (av := [.int (X.2 (nI i + nI 1).toNatClampNeg)]) (rest := [.int x]) (rv := some (.int y)) (q := (1521, .null, 0, 0, 0)) lk_Law_207 (r_Mo_loosest N' g (X.2 (nI i + nI 1).toNatClampNeg) y hy) rfl rfl rfl rfl (fun π => rfl) (fun π => rfl) rfl ?_
  refine sv_Q.b2 rfl (fun _ => sv_Q.z rfl) (fun c => absurd hv c)
def KO_47 (N : Nat) (a1 : Int32) (k : KS) : Option (Int32 × KS) := Option.map (fun x => (x.1, (ku k 4 x.2))) (F_K_voyage N a1 (k 0) (k 4) (k 9) (k 11))
def MO_47 (N : Nat) (a1 : Int32) (g : Nat → Nat → Int32) : Option (Int32 × (Nat → Nat → Int32)) := Option.map (fun x => (x.1, x.2)) (F_Mo_voyage N a1 g)
set_option maxHeartbeats 4000000 in
set_option maxRecDepth 100000 in
theorem lc_47 {X : Nat × (Nat → Int32)} (hL : X.1 ≤ 3072) (b : Bool) (k k' : KS) (g g' : Nat → Nat → Int32) (i N N' : Nat) (v : Int32) (hi : i + 6 ≤ X.1) (hk : KO_47 N (X.2 (nI i + nI 1).toNatClampNeg) k = some (v, k')) (hg : MO_47 N' (X.2 (nI i + nI 1).toNatClampNeg) g = some (v, g')) : sv_Q X 60 M_law (1529, [some (.ref 999), some (.ref 0), some (.ref 67), some (.int (nI i))], [], LWo b k g) (some ()) (fun _ σ' => σ' = (1654, [some (.ref 999), some (.ref 0), some (.ref 67), some (.int (nI i))], [], LWo b k' g')) := by
  obtain ⟨x, hx, hf⟩ := Option.map_eq_some_iff.mp hk
  obtain ⟨y, hy, hf2⟩ := Option.map_eq_some_iff.mp hg
  have hk2 : (ku k 4 x.2) = k' := congrArg Prod.snd hf
  subst hk2
  have hv : x.1 = y.1 := (show x.1 = v from congrArg Prod.fst hf).trans (show y.1 = v from congrArg Prod.fst hf2).symm
  have hg2 : y.2 = g' := congrArg Prod.snd hf2
  subst hg2
  refine sv_Q.s (σ' := (1530, [some (.ref 999), some (.ref 0), some (.ref 67), some (.int (nI i))], [.ref 0], LWo b k g)) 1 rfl ?_
  refine sv_Q.s (σ' := (1534, [some (.ref 999), some (.ref 0), some (.ref 67), some (.int (nI i))], [.int (nI i + nI 1), .ref 999, .ref 0], LWo b k g)) 4 rfl ?_
  refine lw_rd b (q := (1534, .null, 0, 0, 0)) rfl (lw_in hL 1 (by omega) hi) ?_
  refine lw_K b (k' := (ku k 4 x.2)) (av := [.int (X.2 (nI i + nI 1).toNatClampNeg)]) (rest := []) (rv := some (.int x.1)) (q := (1535, .null, 0, 0, 0)) lk_Law_208 (r_K_voyage N (k 0) (k 1) (k 2) (k 3) (k 4) (k 5) (k 6) (k 7) (k 8) (k 9) (k 10) (k 11) (k 12) (k 13) (k 14) (k 15) (X.2 (nI i + nI 1).toNatClampNeg) x hx) rfl rfl rfl rfl (fun π => rfl) (fun π => rfl) rfl ?_
  refine sv_Q.s (σ' := (1539, [some (.ref 999), some (.ref 0), some (.ref 67), some (.int (nI i))], [.ref 67, .int x.1], LWo b (ku k 4 x.2) g)) 1 rfl ?_
  refine sv_Q.s (σ' := (1543, [some (.ref 999), some (.ref 0), some (.ref 67), some (.int (nI i))], [.int (nI i + nI 1), .ref 999, .ref 67, .int x.1], LWo b (ku k 4 x.2) g)) 4 rfl ?_
  refine lw_rd b (q := (1543, .null, 0, 0, 0)) rfl (lw_in hL 1 (by omega) hi) ?_
  refine lw_M b (g' := y.2) (av := [.int (X.2 (nI i + nI 1).toNatClampNeg)]) (rest := [.int x.1]) (rv := some (.int y.1)) (q := (1544, .null, 0, 0, 0)) lk_Law_211 (r_Mo_voyage N' g (X.2 (nI i + nI 1).toNatClampNeg) y hy) rfl rfl rfl rfl (fun π => rfl) (fun π => rfl) rfl ?_
  refine sv_Q.b2 rfl (fun _ => sv_Q.z rfl) (fun c => absurd hv c)
def KO_48 (N : Nat) (a1 : Int32) (a2 : Int32) (k : KS) : Option (Int32 × KS) := Option.map (fun x => (x, k)) (F_K_clear N a1 a2 (k 0) (k 9) (k 10) (k 11))
def MO_48 (N : Nat) (a1 : Int32) (a2 : Int32) (g : Nat → Nat → Int32) : Option (Int32 × (Nat → Nat → Int32)) := Option.map (fun x => (x, g)) (F_Mo_clear N a1 a2 g)
set_option maxHeartbeats 4000000 in
set_option maxRecDepth 100000 in
theorem lc_48 {X : Nat × (Nat → Int32)} (hL : X.1 ≤ 3072) (b : Bool) (k k' : KS) (g g' : Nat → Nat → Int32) (i N N' : Nat) (v : Int32) (hi : i + 6 ≤ X.1) (hk : KO_48 N (X.2 (nI i + nI 1).toNatClampNeg) (X.2 (nI i + nI 2).toNatClampNeg) k = some (v, k')) (hg : MO_48 N' (X.2 (nI i + nI 1).toNatClampNeg) (X.2 (nI i + nI 2).toNatClampNeg) g = some (v, g')) : sv_Q X 60 M_law (1552, [some (.ref 999), some (.ref 0), some (.ref 67), some (.int (nI i))], [], LWo b k g) (some ()) (fun _ σ' => σ' = (1654, [some (.ref 999), some (.ref 0), some (.ref 67), some (.int (nI i))], [], LWo b k' g')) := by
  obtain ⟨x, hx, hf⟩ := Option.map_eq_some_iff.mp hk
  obtain ⟨y, hy, hf2⟩ := Option.map_eq_some_iff.mp hg
  have hk2 : k = k' := congrArg Prod.snd hf
  subst hk2
  have hv : x = y := (show x = v from congrArg Prod.fst hf).trans (show y = v from congrArg Prod.fst hf2).symm
  have hg2 : g = g' := congrArg Prod.snd hf2
  subst hg2
  refine sv_Q.s (σ' := (1553, [some (.ref 999), some (.ref 0), some (.ref 67), some (.int (nI i))], [.ref 0], LWo b k g)) 1 rfl ?_
  refine sv_Q.s (σ' := (1557, [some (.ref 999), some (.ref 0), some (.ref 67), some (.int (nI i))], [.int (nI i + nI 1), .ref 999, .ref 0], LWo b k g)) 4 rfl ?_
  refine lw_rd b (q := (1557, .null, 0, 0, 0)) rfl (lw_in hL 1 (by omega) hi) ?_
  refine sv_Q.s (σ' := (1562, [some (.ref 999), some (.ref 0), some (.ref 67), some (.int (nI i))], [.int (nI i + nI 2), .ref 999, .int (X.2 (nI i + nI 1).toNatClampNeg), .ref 0], LWo b k g)) 4 rfl ?_
  refine lw_rd b (q := (1562, .null, 0, 0, 0)) rfl (lw_in hL 2 (by omega) hi) ?_
  refine lw_K b (k' := k) (av := [.int (X.2 (nI i + nI 1).toNatClampNeg), .int (X.2 (nI i + nI 2).toNatClampNeg)]) (rest := []) (rv := some (.int x)) (q := (1563, .null, 0, 0, 0)) lk_Law_212 (r_K_clear N (k 0) (k 1) (k 2) (k 3) (k 4) (k 5) (k 6) (k 7) (k 8) (k 9) (k 10) (k 11) (k 12) (k 13) (k 14) (k 15) (X.2 (nI i + nI 1).toNatClampNeg) (X.2 (nI i + nI 2).toNatClampNeg) x hx) rfl rfl rfl rfl (fun π => rfl) (fun π => rfl) rfl ?_
  refine sv_Q.s (σ' := (1567, [some (.ref 999), some (.ref 0), some (.ref 67), some (.int (nI i))], [.ref 67, .int x], LWo b k g)) 1 rfl ?_
  refine sv_Q.s (σ' := (1571, [some (.ref 999), some (.ref 0), some (.ref 67), some (.int (nI i))], [.int (nI i + nI 1), .ref 999, .ref 67, .int x], LWo b k g)) 4 rfl ?_
  refine lw_rd b (q := (1571, .null, 0, 0, 0)) rfl (lw_in hL 1 (by omega) hi) ?_
  refine sv_Q.s (σ' := (1576, [some (.ref 999), some (.ref 0), some (.ref 67), some (.int (nI i))], [.int (nI i + nI 2), .ref 999, .int (X.2 (nI i + nI 1).toNatClampNeg), .ref 67, .int x], LWo b k g)) 4 rfl ?_
  refine lw_rd b (q := (1576, .null, 0, 0, 0)) rfl (lw_in hL 2 (by omega) hi) ?_
  refine lw_M b (g' := g) (av := [.int (X.2 (nI i + nI 1).toNatClampNeg), .int (X.2 (nI i + nI 2).toNatClampNeg)]) (rest := [.int x]) (rv := some (.int y)) (q := (1577, .null, 0, 0, 0)) lk_Law_215 (r_Mo_clear N' g (X.2 (nI i + nI 1).toNatClampNeg) (X.2 (nI i + nI 2).toNatClampNeg) y hy) rfl rfl rfl rfl (fun π => rfl) (fun π => rfl) rfl ?_
  refine sv_Q.b2 rfl (fun _ => sv_Q.z rfl) (fun c => absurd hv c)
def KO_49 (N : Nat) (a1 : Int32) (a2 : Int32) (k : KS) : Option (Int32 × KS) := Option.map (fun x => (x.1, (ku (ku k 1 x.2.1) 11 x.2.2))) (F_K_swaps N a1 a2 (k 0) (k 1) (k 9) (k 10) (k 11))
def MO_49 (N : Nat) (a1 : Int32) (a2 : Int32) (g : Nat → Nat → Int32) : Option (Int32 × (Nat → Nat → Int32)) := Option.map (fun x => (x.1, x.2)) (F_Mo_swaps N a1 a2 g)
set_option maxHeartbeats 4000000 in
set_option maxRecDepth 100000 in
theorem lc_49 {X : Nat × (Nat → Int32)} (hL : X.1 ≤ 3072) (b : Bool) (k k' : KS) (g g' : Nat → Nat → Int32) (i N N' : Nat) (v : Int32) (hi : i + 6 ≤ X.1) (hk : KO_49 N (X.2 (nI i + nI 1).toNatClampNeg) (X.2 (nI i + nI 2).toNatClampNeg) k = some (v, k')) (hg : MO_49 N' (X.2 (nI i + nI 1).toNatClampNeg) (X.2 (nI i + nI 2).toNatClampNeg) g = some (v, g')) : sv_Q X 60 M_law (1585, [some (.ref 999), some (.ref 0), some (.ref 67), some (.int (nI i))], [], LWo b k g) (some ()) (fun _ σ' => σ' = (1654, [some (.ref 999), some (.ref 0), some (.ref 67), some (.int (nI i))], [], LWo b k' g')) := by
  obtain ⟨x, hx, hf⟩ := Option.map_eq_some_iff.mp hk
  obtain ⟨y, hy, hf2⟩ := Option.map_eq_some_iff.mp hg
  have hk2 : (ku (ku k 1 x.2.1) 11 x.2.2) = k' := congrArg Prod.snd hf
  subst hk2
  have hv : x.1 = y.1 := (show x.1 = v from congrArg Prod.fst hf).trans (show y.1 = v from congrArg Prod.fst hf2).symm
  have hg2 : y.2 = g' := congrArg Prod.snd hf2
  subst hg2
  refine sv_Q.s (σ' := (1586, [some (.ref 999), some (.ref 0), some (.ref 67), some (.int (nI i))], [.ref 0], LWo b k g)) 1 rfl ?_
  refine sv_Q.s (σ' := (1590, [some (.ref 999), some (.ref 0), some (.ref 67), some (.int (nI i))], [.int (nI i + nI 1), .ref 999, .ref 0], LWo b k g)) 4 rfl ?_
  refine lw_rd b (q := (1590, .null, 0, 0, 0)) rfl (lw_in hL 1 (by omega) hi) ?_
  refine sv_Q.s (σ' := (1595, [some (.ref 999), some (.ref 0), some (.ref 67), some (.int (nI i))], [.int (nI i + nI 2), .ref 999, .int (X.2 (nI i + nI 1).toNatClampNeg), .ref 0], LWo b k g)) 4 rfl ?_
  refine lw_rd b (q := (1595, .null, 0, 0, 0)) rfl (lw_in hL 2 (by omega) hi) ?_
  refine lw_K b (k' := (ku (ku k 1 x.2.1) 11 x.2.2)) (av := [.int (X.2 (nI i + nI 1).toNatClampNeg), .int (X.2 (nI i + nI 2).toNatClampNeg)]) (rest := []) (rv := some (.int x.1)) (q := (1596, .null, 0, 0, 0)) lk_Law_216 (r_K_swaps N (k 0) (k 1) (k 2) (k 3) (k 4) (k 5) (k 6) (k 7) (k 8) (k 9) (k 10) (k 11) (k 12) (k 13) (k 14) (k 15) (X.2 (nI i + nI 1).toNatClampNeg) (X.2 (nI i + nI 2).toNatClampNeg) x hx) rfl rfl rfl rfl (fun π => rfl) (fun π => rfl) rfl ?_
  refine sv_Q.s (σ' := (1600, [some (.ref 999), some (.ref 0), some (.ref 67), some (.int (nI i))], [.ref 67, .int x.1], LWo b (ku (ku k 1 x.2.1) 11 x.2.2) g)) 1 rfl ?_
  refine sv_Q.s (σ' := (1604, [some (.ref 999), some (.ref 0), some (.ref 67), some (.int (nI i))], [.int (nI i + nI 1), .ref 999, .ref 67, .int x.1], LWo b (ku (ku k 1 x.2.1) 11 x.2.2) g)) 4 rfl ?_
  refine lw_rd b (q := (1604, .null, 0, 0, 0)) rfl (lw_in hL 1 (by omega) hi) ?_
  refine sv_Q.s (σ' := (1609, [some (.ref 999), some (.ref 0), some (.ref 67), some (.int (nI i))], [.int (nI i + nI 2), .ref 999, .int (X.2 (nI i + nI 1).toNatClampNeg), .ref 67, .int x.1], LWo b (ku (ku k 1 x.2.1) 11 x.2.2) g)) 4 rfl ?_
  refine lw_rd b (q := (1609, .null, 0, 0, 0)) rfl (lw_in hL 2 (by omega) hi) ?_
  refine lw_M b (g' := y.2) (av := [.int (X.2 (nI i + nI 1).toNatClampNeg), .int (X.2 (nI i + nI 2).toNatClampNeg)]) (rest := [.int x.1]) (rv := some (.int y.1)) (q := (1610, .null, 0, 0, 0)) lk_Law_219 (r_Mo_swaps N' g (X.2 (nI i + nI 1).toNatClampNeg) (X.2 (nI i + nI 2).toNatClampNeg) y hy) rfl rfl rfl rfl (fun π => rfl) (fun π => rfl) rfl ?_
  refine sv_Q.b2 rfl (fun _ => sv_Q.z rfl) (fun c => absurd hv c)
def KO_50 (N : Nat)  (k : KS) : Option (Int32 × KS) := Option.map (fun x => (x.1, (ku k 11 x.2))) (F_K_steady N (k 0) (k 9) (k 10) (k 11))
def MO_50 (N : Nat)  (g : Nat → Nat → Int32) : Option (Int32 × (Nat → Nat → Int32)) := Option.map (fun x => (x.1, x.2)) (F_Mo_steady N g)
set_option maxHeartbeats 4000000 in
set_option maxRecDepth 100000 in
theorem lc_50 {X : Nat × (Nat → Int32)} (hL : X.1 ≤ 3072) (b : Bool) (k k' : KS) (g g' : Nat → Nat → Int32) (i N N' : Nat) (v : Int32) (hi : i + 6 ≤ X.1) (hk : KO_50 N k = some (v, k')) (hg : MO_50 N' g = some (v, g')) : sv_Q X 60 M_law (1618, [some (.ref 999), some (.ref 0), some (.ref 67), some (.int (nI i))], [], LWo b k g) (some ()) (fun _ σ' => σ' = (1654, [some (.ref 999), some (.ref 0), some (.ref 67), some (.int (nI i))], [], LWo b k' g')) := by
  obtain ⟨x, hx, hf⟩ := Option.map_eq_some_iff.mp hk
  obtain ⟨y, hy, hf2⟩ := Option.map_eq_some_iff.mp hg
  have hk2 : (ku k 11 x.2) = k' := congrArg Prod.snd hf
  subst hk2
  have hv : x.1 = y.1 := (show x.1 = v from congrArg Prod.fst hf).trans (show y.1 = v from congrArg Prod.fst hf2).symm
  have hg2 : y.2 = g' := congrArg Prod.snd hf2
  subst hg2
  refine sv_Q.s (σ' := (1619, [some (.ref 999), some (.ref 0), some (.ref 67), some (.int (nI i))], [.ref 0], LWo b k g)) 1 rfl ?_
  refine lw_K b (k' := (ku k 11 x.2)) (av := []) (rest := []) (rv := some (.int x.1)) (q := (1619, .null, 0, 0, 0)) lk_Law_220 (r_K_steady N (k 0) (k 1) (k 2) (k 3) (k 4) (k 5) (k 6) (k 7) (k 8) (k 9) (k 10) (k 11) (k 12) (k 13) (k 14) (k 15) x hx) rfl rfl rfl rfl (fun π => rfl) (fun π => rfl) rfl ?_
  refine sv_Q.s (σ' := (1623, [some (.ref 999), some (.ref 0), some (.ref 67), some (.int (nI i))], [.ref 67, .int x.1], LWo b (ku k 11 x.2) g)) 1 rfl ?_
  refine lw_M b (g' := y.2) (av := []) (rest := [.int x.1]) (rv := some (.int y.1)) (q := (1623, .null, 0, 0, 0)) lk_Law_223 (r_Mo_steady N' g y hy) rfl rfl rfl rfl (fun π => rfl) (fun π => rfl) rfl ?_
  refine sv_Q.b2 rfl (fun _ => sv_Q.z rfl) (fun c => absurd hv c)
def KO_51 (N : Nat) (a1 : Int32) (k : KS) : Option (Int32 × KS) := Option.map (fun x => (x.1, (ku k 5 x.2))) (some (F_K_label a1 (k 0) (k 5) (k 11)))
def MO_51 (N : Nat) (a1 : Int32) (g : Nat → Nat → Int32) : Option (Int32 × (Nat → Nat → Int32)) := Option.map (fun x => (x.1, x.2)) (F_Mo_label N a1 g)
set_option maxHeartbeats 4000000 in
set_option maxRecDepth 100000 in
theorem lc_51 {X : Nat × (Nat → Int32)} (hL : X.1 ≤ 3072) (b : Bool) (k k' : KS) (g g' : Nat → Nat → Int32) (i N N' : Nat) (v : Int32) (hi : i + 6 ≤ X.1) (hk : KO_51 N (X.2 (nI i + nI 1).toNatClampNeg) k = some (v, k')) (hg : MO_51 N' (X.2 (nI i + nI 1).toNatClampNeg) g = some (v, g')) : sv_Q X 60 M_law (1631, [some (.ref 999), some (.ref 0), some (.ref 67), some (.int (nI i))], [], LWo b k g) (some ()) (fun _ σ' => σ' = (1654, [some (.ref 999), some (.ref 0), some (.ref 67), some (.int (nI i))], [], LWo b k' g')) := by
  obtain ⟨x, hx, hf⟩ := Option.map_eq_some_iff.mp hk
  obtain ⟨y, hy, hf2⟩ := Option.map_eq_some_iff.mp hg
  have hk2 : (ku k 5 x.2) = k' := congrArg Prod.snd hf
  subst hk2
  have hv : x.1 = y.1 := (show x.1 = v from congrArg Prod.fst hf).trans (show y.1 = v from congrArg Prod.fst hf2).symm
  have hg2 : y.2 = g' := congrArg Prod.snd hf2
  subst hg2
  refine sv_Q.s (σ' := (1632, [some (.ref 999), some (.ref 0), some (.ref 67), some (.int (nI i))], [.ref 0], LWo b k g)) 1 rfl ?_
  refine sv_Q.s (σ' := (1636, [some (.ref 999), some (.ref 0), some (.ref 67), some (.int (nI i))], [.int (nI i + nI 1), .ref 999, .ref 0], LWo b k g)) 4 rfl ?_
  refine lw_rd b (q := (1636, .null, 0, 0, 0)) rfl (lw_in hL 1 (by omega) hi) ?_
  refine lw_K b (k' := (ku k 5 x.2)) (av := [.int (X.2 (nI i + nI 1).toNatClampNeg)]) (rest := []) (rv := some (.int x.1)) (q := (1637, .null, 0, 0, 0)) lk_Law_224 (r_K_label (k 0) (k 1) (k 2) (k 3) (k 4) (k 5) (k 6) (k 7) (k 8) (k 9) (k 10) (k 11) (k 12) (k 13) (k 14) (k 15) (X.2 (nI i + nI 1).toNatClampNeg) x hx) rfl rfl rfl rfl (fun π => rfl) (fun π => rfl) rfl ?_
  refine sv_Q.s (σ' := (1641, [some (.ref 999), some (.ref 0), some (.ref 67), some (.int (nI i))], [.ref 67, .int x.1], LWo b (ku k 5 x.2) g)) 1 rfl ?_
  refine sv_Q.s (σ' := (1645, [some (.ref 999), some (.ref 0), some (.ref 67), some (.int (nI i))], [.int (nI i + nI 1), .ref 999, .ref 67, .int x.1], LWo b (ku k 5 x.2) g)) 4 rfl ?_
  refine lw_rd b (q := (1645, .null, 0, 0, 0)) rfl (lw_in hL 1 (by omega) hi) ?_
  refine lw_M b (g' := y.2) (av := [.int (X.2 (nI i + nI 1).toNatClampNeg)]) (rest := [.int x.1]) (rv := some (.int y.1)) (q := (1646, .null, 0, 0, 0)) lk_Law_227 (r_Mo_label N' g (X.2 (nI i + nI 1).toNatClampNeg) y hy) rfl rfl rfl rfl (fun π => rfl) (fun π => rfl) rfl ?_
  refine sv_Q.b2 rfl (fun _ => sv_Q.z rfl) (fun c => absurd hv c)
