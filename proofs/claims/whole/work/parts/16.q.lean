/-! ===== a value that a stretch of code computes, and the states it leads to ===== -/
def sv_To (X : Nat × (Nat → Int32)) (d : Nat) (M : sv_M) (σ : sv_S) (P : sv_S → Prop) : Prop := ∀ r, (∀ σ', P σ' → sv_End X d M r σ') → sv_End X d M r σ
/-- if E is a value x, the code comes from σ to a state as K says of x -/
def sv_Q (X : Nat × (Nat → Int32)) (d : Nat) (M : sv_M) {α : Type} (σ : sv_S) (E : Option α) (K : α → sv_S → Prop) : Prop := ∀ x, E = some x → sv_To X d M σ (K x)
/-- a state at the method's end, with this answer and these cells -/
def sv_KR (M : sv_M) {α : Type} (res : α → Option Value × List sv_C) : α → sv_S → Prop := fun x σ => ∃ P, sv_rt M.2.2.2.2 M.2.2.2.1 σ = some (P, (res x).1) ∧ P ∧ σ.2.2.2 = (res x).2
section SVQ
variable {X : Nat × (Nat → Int32)} {d : Nat} {M : sv_M} {α β : Type} {σ : sv_S}
theorem sv_Q.s {E : Option α} {K : α → sv_S → Prop} (k : Nat) {σ' : sv_S} (h : sv_stps X M.2.2.2.2 k σ = some σ') (hk : sv_Q X d M σ' E K) : sv_Q X d M σ E K := fun x hx r hr => sv_End.s h (hk x hx r hr)
theorem sv_Q.f {E : Option α} {K : α → sv_S → Prop} {pc : Nat} {lo lo' : List (Option Value)} {q : List Value × List sv_C} (hl : sv_leb lo' lo) (hk : sv_Q X d M (pc, lo', q) E K) : sv_Q X d M (pc, lo, q) E K := fun x hx r hr => sv_End.f hl (hk x hx r hr)
theorem sv_Q.b {c : Prop} [Decidable c] {a b : Option α} {K : α → sv_S → Prop} {σ1 σ2 : sv_S} (h : sv_br M.2.2.2.2 σ = some (c, σ1, σ2)) (h1 : c → sv_Q X d M σ1 a K) (h2 : ¬ c → sv_Q X d M σ2 b K) : sv_Q X d M σ (if c then a else b) K := by
  intro x hx r hr
  refine sv_End.b h (fun hc => ?_) (fun hc => ?_)
  · rw [if_pos hc] at hx
    exact h1 hc x hx r hr
  · rw [if_neg hc] at hx
    exact h2 hc x hx r hr
/-- the same, the condition said the other way round -/
theorem sv_Q.sb {c : Prop} [Decidable c] {a b : α} {K : α → sv_S → Prop} {σ1 σ2 : sv_S} (h : sv_br M.2.2.2.2 σ = some (c, σ1, σ2)) (h1 : c → sv_Q X d M σ1 (some a) K) (h2 : ¬ c → sv_Q X d M σ2 (some b) K) : sv_Q X d M σ (some (if c then a else b)) K := by
  intro x hx r hr
  refine sv_End.b h (fun hc => ?_) (fun hc => ?_)
  · rw [if_pos hc] at hx
    exact h1 hc x hx r hr
  · rw [if_neg hc] at hx
    exact h2 hc x hx r hr
theorem sv_Q.g {c : Prop} [Decidable c] {a : Option α} {K : α → sv_S → Prop} {σ' : sv_S} (h : sv_gst X M.2.2.2.2 σ = some (c, σ')) (h1 : c → sv_Q X d M σ' a K) : sv_Q X d M σ (if c then a else none) K := by
  intro x hx r hr
  by_cases hc : c
  · rw [if_pos hc] at hx
    exact sv_End.g h hc (h1 hc x hx r hr)
  · rw [if_neg hc] at hx
    cases hx
/-- what is asked is known -/
theorem sv_Q.gk {c : Prop} {E : Option α} {K : α → sv_S → Prop} {σ' : sv_S} (h : sv_gst X M.2.2.2.2 σ = some (c, σ')) (hc : c) (h1 : sv_Q X d M σ' E K) : sv_Q X d M σ E K := fun x hx r hr => sv_End.g h hc (h1 x hx r hr)
theorem sv_Q.w {c : Prop} {E : Option α} {K : α → sv_S → Prop} {σ' : sv_S} {k : Option Nat} (h : sv_sw M.2.2.2.2 σ k = some (c, σ')) (hc : c) (h1 : sv_Q X d M σ' E K) : sv_Q X d M σ E K := fun x hx r hr => sv_End.w h hc (h1 x hx r hr)
theorem sv_Q.ite {c : Prop} [Decidable c] {a b : Option α} {K : α → sv_S → Prop} (h1 : c → sv_Q X d M σ a K) (h2 : ¬ c → sv_Q X d M σ b K) : sv_Q X d M σ (if c then a else b) K := by
  by_cases hc : c
  · rw [if_pos hc]; exact h1 hc
  · rw [if_neg hc]; exact h2 hc
theorem sv_Q.site {c : Prop} [Decidable c] {a b : α} {K : α → sv_S → Prop} (h1 : c → sv_Q X d M σ (some a) K) (h2 : ¬ c → sv_Q X d M σ (some b) K) : sv_Q X d M σ (some (if c then a else b)) K := by
  by_cases hc : c
  · rw [if_pos hc]; exact h1 hc
  · rw [if_neg hc]; exact h2 hc
theorem sv_Q.non {K : α → sv_S → Prop} : sv_Q X d M σ none K := fun x hx => by cases hx
theorem sv_Q.z {x : α} {K : α → sv_S → Prop} (h : K x σ) : sv_Q X d M σ (some x) K := by
  intro y hy r hr
  cases hy
  exact hr σ h
theorem sv_Q.ret {x : α} {res : α → Option Value × List sv_C} {P : Prop} (h : sv_rt M.2.2.2.2 M.2.2.2.1 σ = some (P, (res x).1)) (hp : P) (hc : σ.2.2.2 = (res x).2) : sv_Q X d M σ (some x) (sv_KR M res) := sv_Q.z ⟨P, h, hp, hc⟩
theorem sv_Q.bd {E0 : Option β} {f : β → Option α} {K0 : β → sv_S → Prop} {K : α → sv_S → Prop} (h0 : sv_Q X d M σ E0 K0) (h1 : ∀ v σ', K0 v σ' → sv_Q X d M σ' (f v) K) : sv_Q X d M σ (E0.bind f) K := by
  intro x hx r hr
  cases hE : E0 with
  | none => rw [hE] at hx; cases hx
  | some v =>
    rw [hE] at hx
    exact h0 v hE r (fun σ' hk => h1 v σ' hk x hx r hr)
/-- a value, computed by a stretch that ends in one state for each value -/
theorem sv_Q.l {e : β} {f : β → Option α} {K : α → sv_S → Prop} (σJ : β → sv_S) (h1 : ∀ v, sv_Q X d M (σJ v) (f v) K) (h0 : sv_Q X d M σ (some e) (fun v σ' => σ' = σJ v)) : sv_Q X d M σ (sv_let e f) K :=
  sv_Q.bd (E0 := some e) h0 (fun v σ' h => by rw [h]; exact h1 v)
theorem sv_Q.sl {e : β} {f : β → α} {K : α → sv_S → Prop} (σJ : β → sv_S) (h1 : ∀ v, sv_Q X d M (σJ v) (some (f v)) K) (h0 : sv_Q X d M σ (some e) (fun v σ' => σ' = σJ v)) : sv_Q X d M σ (some (sv_let e f)) K :=
  sv_Q.bd (E0 := some e) (f := fun v => some (f v)) h0 (fun v σ' h => by rw [h]; exact h1 v)
/-- the same of a stretch that may have no value -/
theorem sv_Q.lo {E0 : Option β} {f : β → Option α} {K : α → sv_S → Prop} (σJ : β → sv_S) (h1 : ∀ v, sv_Q X d M (σJ v) (f v) K) (h0 : sv_Q X d M σ E0 (fun v σ' => σ' = σJ v)) : sv_Q X d M σ (E0.bind f) K :=
  sv_Q.bd h0 (fun v σ' h => by rw [h]; exact h1 v)
theorem sv_Q.V {E : Option α} {K : α → sv_S → Prop} {M' : sv_M} {pc i k b d' : Nat} {lo : List (Option Value)} {st av rest : List Value} {ps : List Nat} {cs cs1 cs2 : List sv_C} {rv : Option Value} {st' : List Value} {cs' : List sv_C} {q : Nat × Value × Nat × Nat × Nat}
    (lk : sv_lnkV sv_nw M.1.cls i M' k) (hR : sv_R X d' M' (.ref b :: av) cs1 rv cs2) (hd : Nat.ble d' d = true) (hat : sv_at M.2.2.2.2 pc = some (q.1, .invokevirtual i, q.2)) (hav : av.length = k) (hst : st = ((Value.ref b :: av).map (sv_v (sv_pi ps))).reverse ++ rest) (hc : Nat.ble (sv_cat rest) 8 = true) (hrc : sv_rcv cs M'.1 (sv_pi ps b)) (hnd : va_nd ps = true) (hpl : Nat.ble ps.length 900 = true) (hs : sv_sub ps cs cs1) (hlen : cs2.length = cs1.length)
    (hst' : (rv.map (sv_v (sv_pi ps))).toList ++ rest = st') (hcs' : sv_pt ps (cs2.map (sv_r (sv_pi ps))) 0 cs = cs') (h1 : sv_Q X d M (pc + 3, lo, st', cs') E K) : sv_Q X d M (pc, lo, st, cs) E K :=
  fun x hx r hr => sv_End.V lk hR hd hat hav hst hc hrc hnd hpl hs hlen hst' hcs' (h1 x hx r hr)
theorem sv_Q.S {E : Option α} {K : α → sv_S → Prop} {M' : sv_M} {pc i k d' : Nat} {lo : List (Option Value)} {st av rest : List Value} {ps : List Nat} {cs cs1 cs2 : List sv_C} {rv : Option Value} {st' : List Value} {cs' : List sv_C} {q : Nat × Value × Nat × Nat × Nat}
    (lk : sv_lnkS sv_nw M.1.cls i M' k) (hR : sv_R X d' M' av cs1 rv cs2) (hd : Nat.ble d' d = true) (hat : sv_at M.2.2.2.2 pc = some (q.1, .invokestatic i, q.2)) (hav : av.length = k) (hst : st = (av.map (sv_v (sv_pi ps))).reverse ++ rest) (hc : Nat.ble (sv_cat rest) 8 = true) (hnd : va_nd ps = true) (hpl : Nat.ble ps.length 900 = true) (hs : sv_sub ps cs cs1) (hlen : cs2.length = cs1.length)
    (hst' : (rv.map (sv_v (sv_pi ps))).toList ++ rest = st') (hcs' : sv_pt ps (cs2.map (sv_r (sv_pi ps))) 0 cs = cs') (h1 : sv_Q X d M (pc + 3, lo, st', cs') E K) : sv_Q X d M (pc, lo, st, cs) E K :=
  fun x hx r hr => sv_End.S lk hR hd hat hav hst hc hnd hpl hs hlen hst' hcs' (h1 x hx r hr)
/-- a call whose answer may be none -/
theorem sv_Q.o {E0 : Option β} {f : β → Option α} {K : α → sv_S → Prop} (h : ∀ v, E0 = some v → sv_Q X d M σ (f v) K) : sv_Q X d M σ (E0.bind f) K := by
  intro x hx
  cases hE : E0 with
  | none => rw [hE] at hx; cases hx
  | some v => rw [hE] at hx; exact h v hE x hx
theorem sv_Q.R {av : List Value} {cs : List sv_C} {E : Option α} {res : α → Option Value × List sv_C} (hg : sv_good M) (hl : Nat.ble (lg_sl av).length M.2.2.1 = true) (h : sv_Q X d M (0, sv_lo M.2.2.1 av, [], cs) E (sv_KR M res)) : ∀ x, E = some x → sv_R X (d + 1) M av cs (res x).1 (res x).2 := by
  intro x hx
  refine sv_R.of hg hl (h x hx _ (fun σ' hk => ?_))
  obtain ⟨P, h1, h2, h3⟩ := hk
  exact sv_End.ret h1 h2 (by rw [h3])
theorem sv_Q.T {av : List Value} {cs : List sv_C} {x : α} {res : α → Option Value × List sv_C} (hg : sv_good M) (hl : Nat.ble (lg_sl av).length M.2.2.1 = true) (h : sv_Q X d M (0, sv_lo M.2.2.1 av, [], cs) (some x) (sv_KR M res)) : sv_R X (d + 1) M av cs (res x).1 (res x).2 := sv_Q.R hg hl h x rfl
end SVQ
/-! ===== read, write, within, fill ===== -/
def rd (n : Nat) (f : Nat → Int32) (i : Int32) : Int32 := if i < 0 then -1 else if Int32.ofNat n ≤ i then -1 else f i.toNatClampNeg
def wr (n : Nat) (f : Nat → Int32) (i v : Int32) : Nat → Int32 := if i < 0 then f else if Int32.ofNat n ≤ i then f else upd f i.toNatClampNeg v
theorem sv_in_of {i : Int32} {n : Nat} (hn : Nat.ble n 2147483647 = true) (h0 : ¬ i < 0) (h1 : ¬ Int32.ofNat n ≤ i) : vp_in i n := by
  have hn := Nat.le_of_ble_eq_true hn
  have h2 : i < nI n := by
    have := Int32.not_le.mp h1
    exact this
  rw [vp_in_iff]
  have h3 : (nI n).toInt = n := nI_toInt (by omega)
  have h4 := Int32.lt_iff_toInt_lt.mp h2
  rw [h3] at h4
  have h5 : ¬ i.toInt < 0 := fun z => h0 (Int32.lt_iff_toInt_lt.mpr (by simpa using z))
  omega
theorem t_K_read {X : Nat × (Nat → Int32)} (n : Nat) (hn : Nat.ble n 2147483647 = true) (f : Nat → Int32) (i : Int32) : sv_R X 1 M_K_read [.ref 0, .int i] [.inl (0, n, f)] (some (.int (rd n f i))) [.inl (0, n, f)] := by
  refine sv_Q.T (x := rd n f i) (res := fun x => (some (.int x), [.inl (0, n, f)])) g_K_read rfl ?_
  unfold rd
  refine sv_Q.s 1 rfl ?_
  refine sv_Q.sb rfl (fun _ => ?_) (fun h0 => ?_)
  · refine sv_Q.s 1 rfl ?_
    exact sv_Q.ret (P := True) rfl trivial rfl
  · refine sv_Q.s 3 rfl ?_
    refine sv_Q.sb rfl (fun _ => ?_) (fun h1 => ?_)
    · refine sv_Q.s 1 rfl ?_
      exact sv_Q.ret (P := True) rfl trivial rfl
    · refine sv_Q.s 2 rfl ?_
      refine sv_Q.gk rfl (sv_in_of hn h0 h1) ?_
      refine sv_Q.s 1 rfl ?_
      exact sv_Q.ret (P := True) rfl trivial rfl
theorem t_K_write {X : Nat × (Nat → Int32)} (n : Nat) (hn : Nat.ble n 2147483647 = true) (f : Nat → Int32) (i v : Int32) : sv_R X 1 M_K_write [.ref 0, .int i, .int v] [.inl (0, n, f)] none [.inl (0, n, wr n f i v)] := by
  refine sv_Q.T (x := wr n f i v) (res := fun x => (none, [.inl (0, n, x)])) g_K_write rfl ?_
  unfold wr
  refine sv_Q.s 1 rfl ?_
  refine sv_Q.sb rfl (fun _ => ?_) (fun h0 => ?_)
  · exact sv_Q.ret (P := True) rfl trivial rfl
  · refine sv_Q.s 3 rfl ?_
    refine sv_Q.sb rfl (fun _ => ?_) (fun h1 => ?_)
    · exact sv_Q.ret (P := True) rfl trivial rfl
    · refine sv_Q.s 3 rfl ?_
      refine sv_Q.gk rfl (sv_in_of hn h0 h1) ?_
      exact sv_Q.ret (P := True) rfl trivial rfl
