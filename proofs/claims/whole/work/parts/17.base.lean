/-! ===== words that the functions of the methods are made of ===== -/
def ss (h : Nat → Nat → Int32) (k : Nat) (v : Int32) : Nat → Nat → Int32 := sr h 0 (upd (h 0) k v)
def sw (h : Nat → Nat → Int32) (r n : Nat) (i v : Int32) : Nat → Nat → Int32 := sr h r (wr n (h r) i v)
def sa (h : Nat → Nat → Int32) (r : Nat) (i v : Int32) : Nat → Nat → Int32 := sr h r (upd (h r) i.toNatClampNeg v)
def sv_fl (n : Nat) (f : Nat → Int32) (v : Int32) : Nat → Int32 := fun j => if j < n then v else f j
def sf (h : Nat → Nat → Int32) (r n : Nat) (v : Int32) : Nat → Nat → Int32 := sr h r (sv_fl n (h r) v)
def sc (h : Nat → Nat → Int32) (r0 r1 : Nat) (sp dp n : Int32) : Nat → Nat → Int32 := sr h r1 (va_cpy (h r0) (h r1) sp.toNatClampNeg dp.toNatClampNeg n.toNatClampNeg)
abbrev sv_in (i : Int32) (n : Nat) : Prop := ¬ (i < 0 ∨ n ≤ i.toNatClampNeg)
def sv_K2 {α β : Type} (a : α → sv_S) (b : β → sv_S → Prop) : α ⊕ β → sv_S → Prop := fun s σ' => match s with
  | .inl v => σ' = a v
  | .inr r => b r σ'
def sv_bs {α β γ : Type} (E : Option (α ⊕ β)) (inj : β → γ) (f : α → Option γ) : Option γ := Option.bind E fun s => match s with
  | .inl v => f v
  | .inr r => some (inj r)
theorem sv_ne {x k : Int32} (h : ¬ x = k) : x.toInt ≠ k.toInt := fun z => h (Int32.toInt_inj.mp z)
section SVQ2
variable {X : Nat × (Nat → Int32)} {d : Nat} {M : sv_M} {α β γ : Type} {σ : sv_S}
theorem sv_Q.bs {E0 : Option (α ⊕ β)} {inj : β → γ} {f : α → Option γ} {a : α → sv_S} {b : β → sv_S → Prop} {K : γ → sv_S → Prop} (h0 : sv_Q X d M σ E0 (sv_K2 a b)) (h1 : ∀ v, sv_Q X d M (a v) (f v) K) (h2 : ∀ r σ', b r σ' → K (inj r) σ') : sv_Q X d M σ (sv_bs E0 inj f) K := by
  refine sv_Q.bd h0 (fun v σ' h => ?_)
  cases v with
  | inl v =>
    have h : σ' = a v := h
    rw [h]
    exact h1 v
  | inr r => exact sv_Q.z (h2 r σ' h)
theorem sv_Q.lt {e : β} {f : β → Option α} {K : α → sv_S → Prop} (h : ∀ v, some e = some v → sv_Q X d M σ (f v) K) : sv_Q X d M σ (sv_let e f) K := h e rfl
theorem sv_Q.slt {e : β} {f : β → α} {K : α → sv_S → Prop} (h : ∀ v, some e = some v → sv_Q X d M σ (some (f v)) K) : sv_Q X d M σ (some (sv_let e f)) K := h e rfl
theorem sv_Q.b2 {c : Prop} {E : Option α} {K : α → sv_S → Prop} {σ1 σ2 : sv_S} (h : sv_br M.2.2.2.2 σ = some (c, σ1, σ2)) (h1 : c → sv_Q X d M σ1 E K) (h2 : ¬ c → sv_Q X d M σ2 E K) : sv_Q X d M σ E K := fun x hx r hr => sv_End.b h (fun hc => h1 hc x hx r hr) (fun hc => h2 hc x hx r hr)
end SVQ2
theorem sv_fl_s (f : Nat → Int32) (v : Int32) (i : Nat) (hi : i < 2 ^ 31) : upd (sv_fl i f v) (nI i).toNatClampNeg v = sv_fl (i + 1) f v := by
  funext j
  rw [nI_clamp hi]
  unfold upd sv_fl
  by_cases h : j = i
  · rw [if_pos h, if_pos (by omega)]
  · rw [if_neg h]
    by_cases h2 : j < i
    · rw [if_pos h2, if_pos (by omega)]
    · rw [if_neg h2, if_neg (by omega)]
theorem l_Arr_fill {X : Nat × (Nat → Int32)} (n : Nat) (hn : n ≤ 100000) (f : Nat → Int32) (v : Int32) : ∀ (k i : Nat), i + k = n → sv_Q X 0 M_Arr_fill (5, [some (.ref 0), some (.int v), some (.int (nI i)), some (.int (nI n))], [], [.inl (0, n, sv_fl i f v)]) (some ()) (sv_KR M_Arr_fill (fun _ => (none, [.inl (0, n, sv_fl n f v)]))) := by
  intro k
  induction k with
  | zero =>
    intro i hi
    have : i = n := by omega
    subst this
    refine sv_Q.s 2 rfl ?_
    refine sv_Q.b2 rfl (fun _ => ?_) (fun c => ?_)
    · exact sv_Q.z ⟨True, rfl, trivial, rfl⟩
    · exact absurd (Int32.le_refl _) c
  | succ k ih =>
    intro i hi
    refine sv_Q.s 2 rfl ?_
    refine sv_Q.b2 rfl (fun c => ?_) (fun c => ?_)
    · exact absurd c (nI_ge (by omega) (by omega))
    · refine sv_Q.s 3 rfl ?_
      refine sv_Q.gk (c := vp_in (nI i) n) (σ' := (14, [some (.ref 0), some (.int v), some (.int (nI i)), some (.int (nI n))], [], [.inl (0, n, upd (sv_fl i f v) (nI i).toNatClampNeg v)])) rfl (vp_in_nI (by omega) (by omega)) ?_
      rw [sv_fl_s f v i (by omega)]
      refine sv_Q.s (σ' := (5, [some (.ref 0), some (.int v), some (.int (nI i + 1)), some (.int (nI n))], [], [.inl (0, n, sv_fl (i + 1) f v)])) 2 rfl ?_
      rw [nI_1]
      exact ih (i + 1) (by omega)
theorem t_Arr_fill {X : Nat × (Nat → Int32)} (n : Nat) (hn : n ≤ 100000) (f : Nat → Int32) (v : Int32) : sv_R X 1 M_Arr_fill [.ref 0, .int v] [.inl (0, n, f)] none [.inl (0, n, sv_fl n f v)] := by
  refine sv_Q.T (x := ()) (res := fun _ => (none, [.inl (0, n, sv_fl n f v)])) g_Arr_fill rfl ?_
  have e : f = sv_fl 0 f v := by
    funext j
    simp [sv_fl]
  rw [e]
  rw [← e]
  refine sv_Q.s (σ' := (5, [some (.ref 0), some (.int v), some (.int (nI 0)), some (.int (nI n))], [], [.inl (0, n, f)])) 5 rfl ?_
  have h := l_Arr_fill (X := X) n hn f v n 0 (by omega)
  rw [← e] at h
  exact h
section SVQ3
variable {X : Nat × (Nat → Int32)} {d : Nat} {M : sv_M} {α β : Type}
theorem sv_Q.gs {e : β} {f : β → α} {K : α → sv_S → Prop} (σf : β → sv_S) (h : ∀ v, sv_Q X d M (σf v) (some (f v)) K) : sv_Q X d M (σf e) (some (sv_let e f)) K := h e
theorem sv_Q.go {e : β} {f : β → Option α} {K : α → sv_S → Prop} (σf : β → sv_S) (h : ∀ v, sv_Q X d M (σf v) (f v) K) : sv_Q X d M (σf e) (sv_let e f) K := h e
end SVQ3
theorem sv_pt_nil : ∀ (cs : List sv_C) (i : Nat), sv_pt [] [] i cs = cs
  | [], i => rfl
  | c :: cs, i => by simp [sv_pt, sv_fnd, sv_pt_nil cs (i + 1)]
theorem t_J_length {X : Nat × (Nat → Int32)} (k : Nat) (hk : k < 19) : sv_R X 6 MJ_length [.ref (k + 1000)] [] (some (.int (nI (sv_len k)))) [] := Or.inl ⟨Nat.le_refl 5, Or.inl ⟨rfl, k, hk, by rw [Nat.add_comm], rfl, rfl⟩⟩
theorem t_J_charAt {X : Nat × (Nat → Int32)} (k : Nat) (i : Int32) (hk : k < 19) (hi : sv_in i (sv_len k)) : sv_R X 6 MJ_charAt [.ref (k + 1000), .int i] [] (some (.int (sv_chr k i.toNatClampNeg))) [] := Or.inl ⟨Nat.le_refl 5, Or.inr ⟨rfl, k, i, hk, hi, by rw [Nat.add_comm], rfl, rfl⟩⟩
/-! the cells of each class's methods -/
def W_Cargo (hc : Nat → Nat → Int32) : List sv_C := [.inr (0, [.int (hc 0 0), .ref 1, .ref 2, .ref 3, .ref 4, .ref 5]), .inl (0, 25, hc 1), .inl (0, 25, hc 2), .inl (0, 25, hc 3), .inl (0, 25, hc 4), .inl (0, 144, hc 5)]
def W_Hull (hh : Nat → Nat → Int32) : List sv_C := [.inr (2, [.int (hh 0 0), .int (hh 0 1), .int (hh 0 2), .int (hh 0 3), .int (hh 0 4), .int (hh 0 5), .int (hh 0 6), .int (hh 0 7), .ref 1, .ref 2, .ref 3, .ref 4, .ref 5]), .inl (0, 144, hh 1), .inl (0, 144, hh 2), .inl (0, 144, hh 3), .inl (0, 6, hh 4), .inl (0, 6, hh 5)]
def W_Rules (hr : Nat → Nat → Int32) : List sv_C := [.inr (6, [.int (hr 0 0), .ref 1, .ref 2, .ref 3, .ref 4, .ref 5, .ref 6, .ref 7]), .inl (0, 5, hr 1), .inl (0, 5, hr 2), .inl (0, 5, hr 3), .inl (0, 5, hr 4), .inl (0, 7, hr 5), .inl (0, 49, hr 6), .inl (0, 7, hr 7)]
def W_Tape (ht : Nat → Nat → Int32) : List sv_C := [.inr (9, [.ref 1, .int (ht 0 1), .int (ht 0 2), .int (ht 0 3), .int (ht 0 4), .int (ht 0 5)]), .inl (0, 900, ht 1)]
def W_Ves (hv hh hr hc : Nat → Nat → Int32) : List sv_C := [.inr (10, [.ref 2, .ref 8, .ref 16, .ref 1]), .inl (0, 6, hv 1), .inr (2, [.int (hh 0 0), .int (hh 0 1), .int (hh 0 2), .int (hh 0 3), .int (hh 0 4), .int (hh 0 5), .int (hh 0 6), .int (hh 0 7), .ref 3, .ref 4, .ref 5, .ref 6, .ref 7]), .inl (0, 144, hh 1), .inl (0, 144, hh 2), .inl (0, 144, hh 3), .inl (0, 6, hh 4), .inl (0, 6, hh 5), .inr (6, [.int (hr 0 0), .ref 9, .ref 10, .ref 11, .ref 12, .ref 13, .ref 14, .ref 15]), .inl (0, 5, hr 1), .inl (0, 5, hr 2), .inl (0, 5, hr 3), .inl (0, 5, hr 4), .inl (0, 7, hr 5), .inl (0, 49, hr 6), .inl (0, 7, hr 7), .inr (0, [.int (hc 0 0), .ref 17, .ref 18, .ref 19, .ref 20, .ref 21]), .inl (0, 25, hc 1), .inl (0, 25, hc 2), .inl (0, 25, hc 3), .inl (0, 25, hc 4), .inl (0, 144, hc 5)]
def W_Hist (hy hv hh hr hc : Nat → Nat → Int32) : List sv_C := [.inr (1, [.int (hy 0 0), .int (hy 0 1), .ref 1]), .inl (0, 403, hy 1), .inr (10, [.ref 4, .ref 10, .ref 18, .ref 3]), .inl (0, 6, hv 1), .inr (2, [.int (hh 0 0), .int (hh 0 1), .int (hh 0 2), .int (hh 0 3), .int (hh 0 4), .int (hh 0 5), .int (hh 0 6), .int (hh 0 7), .ref 5, .ref 6, .ref 7, .ref 8, .ref 9]), .inl (0, 144, hh 1), .inl (0, 144, hh 2), .inl (0, 144, hh 3), .inl (0, 6, hh 4), .inl (0, 6, hh 5), .inr (6, [.int (hr 0 0), .ref 11, .ref 12, .ref 13, .ref 14, .ref 15, .ref 16, .ref 17]), .inl (0, 5, hr 1), .inl (0, 5, hr 2), .inl (0, 5, hr 3), .inl (0, 5, hr 4), .inl (0, 7, hr 5), .inl (0, 49, hr 6), .inl (0, 7, hr 7), .inr (0, [.int (hc 0 0), .ref 19, .ref 20, .ref 21, .ref 22, .ref 23]), .inl (0, 25, hc 1), .inl (0, 25, hc 2), .inl (0, 25, hc 3), .inl (0, 25, hc 4), .inl (0, 144, hc 5)]
def W_Load (hl hv hh hr hc : Nat → Nat → Int32) : List sv_C := [.inr (3, [.int (hl 0 0), .ref 1, .ref 2, .ref 3, .ref 4, .int (hl 0 5), .int (hl 0 6), .int (hl 0 7), .int (hl 0 8)]), .inl (0, 24, hl 1), .inl (0, 24, hl 2), .inl (0, 24, hl 3), .inl (0, 24, hl 4), .inr (10, [.ref 7, .ref 13, .ref 21, .ref 6]), .inl (0, 6, hv 1), .inr (2, [.int (hh 0 0), .int (hh 0 1), .int (hh 0 2), .int (hh 0 3), .int (hh 0 4), .int (hh 0 5), .int (hh 0 6), .int (hh 0 7), .ref 8, .ref 9, .ref 10, .ref 11, .ref 12]), .inl (0, 144, hh 1), .inl (0, 144, hh 2), .inl (0, 144, hh 3), .inl (0, 6, hh 4), .inl (0, 6, hh 5), .inr (6, [.int (hr 0 0), .ref 14, .ref 15, .ref 16, .ref 17, .ref 18, .ref 19, .ref 20]), .inl (0, 5, hr 1), .inl (0, 5, hr 2), .inl (0, 5, hr 3), .inl (0, 5, hr 4), .inl (0, 7, hr 5), .inl (0, 49, hr 6), .inl (0, 7, hr 7), .inr (0, [.int (hc 0 0), .ref 22, .ref 23, .ref 24, .ref 25, .ref 26]), .inl (0, 25, hc 1), .inl (0, 25, hc 2), .inl (0, 25, hc 3), .inl (0, 25, hc 4), .inl (0, 144, hc 5)]
def W_Shif (hs hv hh hr hc : Nat → Nat → Int32) : List sv_C := [.inr (7, [.int (hs 0 0), .int (hs 0 1), .ref 1, .ref 2, .ref 3, .ref 4, .int (hs 0 6), .int (hs 0 7), .int (hs 0 8)]), .inl (0, 2, hs 1), .inl (0, 2, hs 2), .inl (0, 2, hs 3), .inl (0, 2, hs 4), .inr (10, [.ref 7, .ref 13, .ref 21, .ref 6]), .inl (0, 6, hv 1), .inr (2, [.int (hh 0 0), .int (hh 0 1), .int (hh 0 2), .int (hh 0 3), .int (hh 0 4), .int (hh 0 5), .int (hh 0 6), .int (hh 0 7), .ref 8, .ref 9, .ref 10, .ref 11, .ref 12]), .inl (0, 144, hh 1), .inl (0, 144, hh 2), .inl (0, 144, hh 3), .inl (0, 6, hh 4), .inl (0, 6, hh 5), .inr (6, [.int (hr 0 0), .ref 14, .ref 15, .ref 16, .ref 17, .ref 18, .ref 19, .ref 20]), .inl (0, 5, hr 1), .inl (0, 5, hr 2), .inl (0, 5, hr 3), .inl (0, 5, hr 4), .inl (0, 7, hr 5), .inl (0, 49, hr 6), .inl (0, 7, hr 7), .inr (0, [.int (hc 0 0), .ref 22, .ref 23, .ref 24, .ref 25, .ref 26]), .inl (0, 25, hc 1), .inl (0, 25, hc 2), .inl (0, 25, hc 3), .inl (0, 25, hc 4), .inl (0, 144, hc 5)]
def W_Surv (hu hv hh hr hc : Nat → Nat → Int32) : List sv_C := [.inr (8, [.ref 1, .ref 2, .ref 3, .ref 4]), .inl (0, 24, hu 1), .inl (0, 24, hu 2), .inl (0, 3, hu 3), .inl (0, 6, hu 4), .inr (10, [.ref 7, .ref 13, .ref 21, .ref 6]), .inl (0, 6, hv 1), .inr (2, [.int (hh 0 0), .int (hh 0 1), .int (hh 0 2), .int (hh 0 3), .int (hh 0 4), .int (hh 0 5), .int (hh 0 6), .int (hh 0 7), .ref 8, .ref 9, .ref 10, .ref 11, .ref 12]), .inl (0, 144, hh 1), .inl (0, 144, hh 2), .inl (0, 144, hh 3), .inl (0, 6, hh 4), .inl (0, 6, hh 5), .inr (6, [.int (hr 0 0), .ref 14, .ref 15, .ref 16, .ref 17, .ref 18, .ref 19, .ref 20]), .inl (0, 5, hr 1), .inl (0, 5, hr 2), .inl (0, 5, hr 3), .inl (0, 5, hr 4), .inl (0, 7, hr 5), .inl (0, 49, hr 6), .inl (0, 7, hr 7), .inr (0, [.int (hc 0 0), .ref 22, .ref 23, .ref 24, .ref 25, .ref 26]), .inl (0, 25, hc 1), .inl (0, 25, hc 2), .inl (0, 25, hc 3), .inl (0, 25, hc 4), .inl (0, 144, hc 5)]
def W_Page (hp hv hh hr hc : Nat → Nat → Int32) : List sv_C := [.inr (4, [.int (hp 0 0), .ref 1]), .inl (0, 64, hp 1), .inr (10, [.ref 4, .ref 10, .ref 18, .ref 3]), .inl (0, 6, hv 1), .inr (2, [.int (hh 0 0), .int (hh 0 1), .int (hh 0 2), .int (hh 0 3), .int (hh 0 4), .int (hh 0 5), .int (hh 0 6), .int (hh 0 7), .ref 5, .ref 6, .ref 7, .ref 8, .ref 9]), .inl (0, 144, hh 1), .inl (0, 144, hh 2), .inl (0, 144, hh 3), .inl (0, 6, hh 4), .inl (0, 6, hh 5), .inr (6, [.int (hr 0 0), .ref 11, .ref 12, .ref 13, .ref 14, .ref 15, .ref 16, .ref 17]), .inl (0, 5, hr 1), .inl (0, 5, hr 2), .inl (0, 5, hr 3), .inl (0, 5, hr 4), .inl (0, 7, hr 5), .inl (0, 49, hr 6), .inl (0, 7, hr 7), .inr (0, [.int (hc 0 0), .ref 19, .ref 20, .ref 21, .ref 22, .ref 23]), .inl (0, 25, hc 1), .inl (0, 25, hc 2), .inl (0, 25, hc 3), .inl (0, 25, hc 4), .inl (0, 144, hc 5)]
def W_Read (hd ht hv hh hr hc : Nat → Nat → Int32) : List sv_C := [.inr (5, [.int (hd 0 0), .int (hd 0 1), .ref 1, .ref 3]), .inr (9, [.ref 2, .int (ht 0 1), .int (ht 0 2), .int (ht 0 3), .int (ht 0 4), .int (ht 0 5)]), .inl (0, 900, ht 1), .inr (10, [.ref 5, .ref 11, .ref 19, .ref 4]), .inl (0, 6, hv 1), .inr (2, [.int (hh 0 0), .int (hh 0 1), .int (hh 0 2), .int (hh 0 3), .int (hh 0 4), .int (hh 0 5), .int (hh 0 6), .int (hh 0 7), .ref 6, .ref 7, .ref 8, .ref 9, .ref 10]), .inl (0, 144, hh 1), .inl (0, 144, hh 2), .inl (0, 144, hh 3), .inl (0, 6, hh 4), .inl (0, 6, hh 5), .inr (6, [.int (hr 0 0), .ref 12, .ref 13, .ref 14, .ref 15, .ref 16, .ref 17, .ref 18]), .inl (0, 5, hr 1), .inl (0, 5, hr 2), .inl (0, 5, hr 3), .inl (0, 5, hr 4), .inl (0, 7, hr 5), .inl (0, 49, hr 6), .inl (0, 7, hr 7), .inr (0, [.int (hc 0 0), .ref 20, .ref 21, .ref 22, .ref 23, .ref 24]), .inl (0, 25, hc 1), .inl (0, 25, hc 2), .inl (0, 25, hc 3), .inl (0, 25, hc 4), .inl (0, 144, hc 5)]
def W_K (hk hy hl hs hu hp hd ht hv hh hr hc ev eh er ec : Nat → Nat → Int32) : List sv_C := [.inr (11, [.ref 20, .ref 1, .ref 3, .ref 8, .ref 13, .ref 18, .ref 23, .int (hk 0 7)]), .inr (1, [.int (hy 0 0), .int (hy 0 1), .ref 2]), .inl (0, 403, hy 1), .inr (3, [.int (hl 0 0), .ref 4, .ref 5, .ref 6, .ref 7, .int (hl 0 5), .int (hl 0 6), .int (hl 0 7), .int (hl 0 8)]), .inl (0, 24, hl 1), .inl (0, 24, hl 2), .inl (0, 24, hl 3), .inl (0, 24, hl 4), .inr (7, [.int (hs 0 0), .int (hs 0 1), .ref 9, .ref 10, .ref 11, .ref 12, .int (hs 0 6), .int (hs 0 7), .int (hs 0 8)]), .inl (0, 2, hs 1), .inl (0, 2, hs 2), .inl (0, 2, hs 3), .inl (0, 2, hs 4), .inr (8, [.ref 14, .ref 15, .ref 16, .ref 17]), .inl (0, 24, hu 1), .inl (0, 24, hu 2), .inl (0, 3, hu 3), .inl (0, 6, hu 4), .inr (4, [.int (hp 0 0), .ref 19]), .inl (0, 64, hp 1), .inr (5, [.int (hd 0 0), .int (hd 0 1), .ref 21, .ref 45]), .inr (9, [.ref 22, .int (ht 0 1), .int (ht 0 2), .int (ht 0 3), .int (ht 0 4), .int (ht 0 5)]), .inl (0, 900, ht 1), .inr (10, [.ref 25, .ref 31, .ref 39, .ref 24]), .inl (0, 6, hv 1), .inr (2, [.int (hh 0 0), .int (hh 0 1), .int (hh 0 2), .int (hh 0 3), .int (hh 0 4), .int (hh 0 5), .int (hh 0 6), .int (hh 0 7), .ref 26, .ref 27, .ref 28, .ref 29, .ref 30]), .inl (0, 144, hh 1), .inl (0, 144, hh 2), .inl (0, 144, hh 3), .inl (0, 6, hh 4), .inl (0, 6, hh 5), .inr (6, [.int (hr 0 0), .ref 32, .ref 33, .ref 34, .ref 35, .ref 36, .ref 37, .ref 38]), .inl (0, 5, hr 1), .inl (0, 5, hr 2), .inl (0, 5, hr 3), .inl (0, 5, hr 4), .inl (0, 7, hr 5), .inl (0, 49, hr 6), .inl (0, 7, hr 7), .inr (0, [.int (hc 0 0), .ref 40, .ref 41, .ref 42, .ref 43, .ref 44]), .inl (0, 25, hc 1), .inl (0, 25, hc 2), .inl (0, 25, hc 3), .inl (0, 25, hc 4), .inl (0, 144, hc 5), .inr (10, [.ref 47, .ref 53, .ref 61, .ref 46]), .inl (0, 6, ev 1), .inr (2, [.int (eh 0 0), .int (eh 0 1), .int (eh 0 2), .int (eh 0 3), .int (eh 0 4), .int (eh 0 5), .int (eh 0 6), .int (eh 0 7), .ref 48, .ref 49, .ref 50, .ref 51, .ref 52]), .inl (0, 144, eh 1), .inl (0, 144, eh 2), .inl (0, 144, eh 3), .inl (0, 6, eh 4), .inl (0, 6, eh 5), .inr (6, [.int (er 0 0), .ref 54, .ref 55, .ref 56, .ref 57, .ref 58, .ref 59, .ref 60]), .inl (0, 5, er 1), .inl (0, 5, er 2), .inl (0, 5, er 3), .inl (0, 5, er 4), .inl (0, 7, er 5), .inl (0, 49, er 6), .inl (0, 7, er 7), .inr (0, [.int (ec 0 0), .ref 62, .ref 63, .ref 64, .ref 65, .ref 66]), .inl (0, 25, ec 1), .inl (0, 25, ec 2), .inl (0, 25, ec 3), .inl (0, 25, ec 4), .inl (0, 144, ec 5)]
def W_Mo (gm : Nat → Nat → Int32) : List sv_C := [.inr (12, [.int (gm 0 0), .int (gm 0 1), .ref 1, .ref 2, .ref 3, .int (gm 0 5), .int (gm 0 6), .ref 4, .ref 5, .ref 6, .ref 7, .int (gm 0 11), .ref 8, .ref 9, .int (gm 0 14), .int (gm 0 15), .int (gm 0 16), .int (gm 0 17), .int (gm 0 18), .int (gm 0 19), .int (gm 0 20), .int (gm 0 21), .int (gm 0 22), .ref 10, .int (gm 0 24), .int (gm 0 25), .int (gm 0 26), .int (gm 0 27), .ref 11, .ref 12, .int (gm 0 30), .ref 13, .int (gm 0 32), .ref 14, .ref 15, .int (gm 0 35), .int (gm 0 36), .int (gm 0 37), .ref 16, .int (gm 0 39), .ref 17, .ref 18, .ref 19, .ref 20, .ref 21, .ref 22, .int (gm 0 46)]), .inl (0, 90, gm 1), .inl (0, 90, gm 2), .inl (0, 72, gm 3), .inl (0, 24, gm 4), .inl (0, 24, gm 5), .inl (0, 24, gm 6), .inl (0, 24, gm 7), .inl (0, 144, gm 8), .inl (1, 900, gm 9), .inl (0, 1176, gm 10), .inl (0, 24, gm 11), .inl (0, 24, gm 12), .inl (0, 24, gm 13), .inl (2, 24, gm 14), .inl (0, 24, gm 15), .inl (0, 5, gm 16), .inl (0, 4, gm 17), .inl (0, 7, gm 18), .inl (2, 24, gm 19), .inl (0, 3, gm 20), .inl (0, 144, gm 21), .inl (1, 60, gm 22)]
