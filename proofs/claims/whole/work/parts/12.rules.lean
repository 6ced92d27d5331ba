/-! ===== the rules by which methods are gone through ===== -/
def sv_nw : List Jvm.Cond := [.methodLinkNest "KeptApart" 13 ⟨"KeptApart$Reader", "<init>", "()V"⟩ "KeptApart", .methodLinkNest "KeptApart$Reader" 20 ⟨"KeptApart$Tape", "<init>", "()V"⟩ "KeptApart", .methodLinkNest "KeptApart$Reader" 27 ⟨"KeptApart$Vessel", "<init>", "()V"⟩ "KeptApart", .methodLinkNest "KeptApart$Vessel" 11 ⟨"KeptApart$Hull", "<init>", "()V"⟩ "KeptApart", .methodLinkNest "KeptApart$Vessel" 20 ⟨"KeptApart$Rules", "<init>", "()V"⟩ "KeptApart", .methodLinkNest "KeptApart$Vessel" 27 ⟨"KeptApart$Cargo", "<init>", "()V"⟩ "KeptApart", .methodLinkNest "KeptApart" 20 ⟨"KeptApart$History", "<init>", "()V"⟩ "KeptApart", .methodLinkNest "KeptApart" 27 ⟨"KeptApart$Loader", "<init>", "()V"⟩ "KeptApart", .methodLinkNest "KeptApart" 34 ⟨"KeptApart$Shifter", "<init>", "()V"⟩ "KeptApart", .methodLinkNest "KeptApart" 41 ⟨"KeptApart$Survey", "<init>", "()V"⟩ "KeptApart", .methodLinkNest "KeptApart" 48 ⟨"KeptApart$Page", "<init>", "()V"⟩ "KeptApart", .methodLinkNest "KeptApart" 55 ⟨"KeptApart$Vessel", "<init>", "()V"⟩ "KeptApart", .methodLinkNest "KeptApart$Tape" 29 ⟨"KeptApart", "write", "([III)V"⟩ "KeptApart", .methodLinkNest "KeptApart$Hull" 63 ⟨"KeptApart", "write", "([III)V"⟩ "KeptApart", .methodLinkNest "KeptApart$Tape" 38 ⟨"KeptApart", "read", "([II)I"⟩ "KeptApart", .methodLinkNest "KeptApart$Reader" 207 ⟨"KeptApart", "within", "(III)Z"⟩ "KeptApart", .methodLinkNest "KeptApart$Hull" 67 ⟨"KeptApart", "within", "(III)Z"⟩ "KeptApart", .methodLinkNest "KeptApart$Hull" 71 ⟨"KeptApart", "read", "([II)I"⟩ "KeptApart", .methodLinkNest "KeptApart$Rules" 47 ⟨"KeptApart", "within", "(III)Z"⟩ "KeptApart", .methodLinkNest "KeptApart$Rules" 51 ⟨"KeptApart", "read", "([II)I"⟩ "KeptApart", .methodLinkNest "KeptApart$Rules" 43 ⟨"KeptApart", "write", "([III)V"⟩ "KeptApart", .methodLinkNest "KeptApart$Cargo" 40 ⟨"KeptApart", "write", "([III)V"⟩ "KeptApart", .methodLinkNest "KeptApart$Cargo" 44 ⟨"KeptApart", "read", "([II)I"⟩ "KeptApart", .methodLinkNest "KeptApart$Vessel" 44 ⟨"KeptApart", "read", "([II)I"⟩ "KeptApart", .methodLinkNest "KeptApart$History" 33 ⟨"KeptApart", "write", "([III)V"⟩ "KeptApart", .methodLinkNest "KeptApart$Vessel" 183 ⟨"KeptApart", "write", "([III)V"⟩ "KeptApart", .methodLinkNest "KeptApart$Loader" 81 ⟨"KeptApart", "write", "([III)V"⟩ "KeptApart", .methodLinkNest "KeptApart$Loader" 41 ⟨"KeptApart", "read", "([II)I"⟩ "KeptApart", .methodLinkNest "KeptApart$Shifter" 40 ⟨"KeptApart", "read", "([II)I"⟩ "KeptApart", .methodLinkNest "KeptApart$Shifter" 98 ⟨"KeptApart", "write", "([III)V"⟩ "KeptApart", .methodLinkNest "KeptApart$Survey" 109 ⟨"KeptApart", "write", "([III)V"⟩ "KeptApart", .methodLinkNest "KeptApart$Survey" 113 ⟨"KeptApart", "read", "([II)I"⟩ "KeptApart", .methodLinkNest "KeptApart$History" 56 ⟨"KeptApart", "read", "([II)I"⟩ "KeptApart", .methodLinkNest "KeptApart$Page" 85 ⟨"KeptApart", "write", "([III)V"⟩ "KeptApart", .methodLinkNest "KeptApart$Page" 19 ⟨"KeptApart", "within", "(III)Z"⟩ "KeptApart", .methodLinkNest "KeptApart$Page" 23 ⟨"KeptApart", "read", "([II)I"⟩ "KeptApart"]
theorem sv_nw_ok : ∀ w ∈ sv_nw, sv_isN w := by
  intro w hw
  simp only [sv_nw, List.mem_cons, List.not_mem_nil, or_false] at hw
  rcases hw with rfl | rfl | rfl | rfl | rfl | rfl | rfl | rfl | rfl | rfl | rfl | rfl | rfl | rfl | rfl | rfl | rfl | rfl | rfl | rfl | rfl | rfl | rfl | rfl | rfl | rfl | rfl | rfl | rfl | rfl | rfl | rfl | rfl | rfl | rfl | rfl <;> exact ⟨_, _, _, _, rfl⟩
def MJ_length : sv_M := (⟨"java/lang/String", "length", "()I"⟩, prog_17_method_54_code, 1, some .int, [])
def MJ_charAt : sv_M := (⟨"java/lang/String", "charAt", "(I)C"⟩, prog_17_method_56_code, 2, some .char, [])
/-- what is proved of the library's methods apart -/
def sv_C0 : sv_K := fun M av cs v cs' => (M = MJ_length ∧ ∃ k : Nat, k < 19 ∧ av = [.ref (1000 + k)] ∧ v = some (.int (nI (sv_len k))) ∧ cs' = cs) ∨
  (M = MJ_charAt ∧ ∃ (k : Nat) (i : Int32), k < 19 ∧ vp_in i (sv_len k) ∧ av = [.ref (1000 + k), .int i] ∧ v = some (.int (sv_chr k i.toNatClampNeg)) ∧ cs' = cs)
def sv_R (X : Nat × (Nat → Int32)) (d : Nat) : sv_K := sv_Ret X sv_nw sv_C0 d
theorem sv_Ex_mono {X : Nat × (Nat → Int32)} {nw : List Jvm.Cond} {C C' : sv_K} (h : ∀ M av cs v cs', C M av cs v cs' → C' M av cs v cs') {M : sv_M} {r : Option Value × List sv_C} : ∀ (n : Nat) (σ : sv_S), sv_Ex X nw C M r n σ → sv_Ex X nw C' M r n σ := by
  intro n
  induction n with
  | zero => intro σ h; exact h
  | succ n ih =>
    intro σ hh
    unfold sv_Ex at hh ⊢
    rcases hh with ⟨σ', h1, h2⟩ | ⟨lo', h1, h2⟩ | ⟨P, σ1, σ2, h1, h2, h3⟩ | ⟨P, σ', h1, h2, h3⟩ | ⟨k, P, σ', h1, h2, h3⟩ | ⟨P, v, h1, h2, h3⟩ | ⟨M', i, k, b, av, rest, ps, cs1, cs2, rv, h1, h2, h3, h4, h5, h6, h7, h8, h9, h10, h11, h12⟩ | ⟨M', i, k, av, rest, ps, cs1, cs2, rv, h1, h2, h3, h4, h5, h7, h8, h9, h10, h11, h12⟩
    · exact Or.inl ⟨σ', h1, ih _ h2⟩
    · exact Or.inr (Or.inl ⟨lo', h1, ih _ h2⟩)
    · exact Or.inr (Or.inr (Or.inl ⟨P, σ1, σ2, h1, fun z => ih _ (h2 z), fun z => ih _ (h3 z)⟩))
    · exact Or.inr (Or.inr (Or.inr (Or.inl ⟨P, σ', h1, h2, ih _ h3⟩)))
    · exact Or.inr (Or.inr (Or.inr (Or.inr (Or.inl ⟨k, P, σ', h1, h2, ih _ h3⟩))))
    · exact Or.inr (Or.inr (Or.inr (Or.inr (Or.inr (Or.inl ⟨P, v, h1, h2, h3⟩)))))
    · exact Or.inr (Or.inr (Or.inr (Or.inr (Or.inr (Or.inr (Or.inl ⟨M', i, k, b, av, rest, ps, cs1, cs2, rv, h1, h2, h3, h4, h5, h6, h7, h8, h9, h10, h _ _ _ _ _ h11, ih _ h12⟩))))))
    · exact Or.inr (Or.inr (Or.inr (Or.inr (Or.inr (Or.inr (Or.inr ⟨M', i, k, av, rest, ps, cs1, cs2, rv, h1, h2, h3, h4, h5, h7, h8, h9, h10, h _ _ _ _ _ h11, ih _ h12⟩))))))
theorem sv_R_s {X : Nat × (Nat → Int32)} : ∀ (d : Nat) (M : sv_M) (av : List Value) (cs : List sv_C) (v : Option Value) (cs' : List sv_C), sv_R X d M av cs v cs' → sv_R X (d + 1) M av cs v cs' := by
  intro d
  induction d with
  | zero => intro M av cs v cs' h; exact absurd h (by simp [sv_R, sv_Ret])
  | succ d ih =>
    intro M av cs v cs' h
    rcases h with ⟨h1, h2⟩ | ⟨h1, h2, n, h3⟩
    · exact Or.inl ⟨by omega, h2⟩
    · exact Or.inr ⟨h1, h2, n, sv_Ex_mono ih n _ h3⟩
theorem sv_R_le {X : Nat × (Nat → Int32)} {d d' : Nat} (hd : d ≤ d') {M : sv_M} {av : List Value} {cs : List sv_C} {v : Option Value} {cs' : List sv_C} (h : sv_R X d M av cs v cs') : sv_R X d' M av cs v cs' := by
  induction d' with
  | zero =>
    have : d = 0 := by omega
    subst this
    exact h
  | succ n ih =>
    by_cases h1 : d ≤ n
    · exact sv_R_s n M av cs v cs' (ih h1)
    · have : d = n + 1 := by omega
      subst this
      exact h
def sv_End (X : Nat × (Nat → Int32)) (d : Nat) (M : sv_M) (r : Option Value × List sv_C) (σ : sv_S) : Prop := ∃ n, sv_Ex X sv_nw (sv_R X d) M r n σ
def sv_stps (X : Nat × (Nat → Int32)) (code : List sv_I) : Nat → sv_S → Option sv_S
  | 0, σ => some σ
  | k + 1, σ => match sv_stp X code σ with
    | some σ' => sv_stps X code k σ'
    | none => none
section SVRules
variable {X : Nat × (Nat → Int32)} {d : Nat} {M : sv_M} {r : Option Value × List sv_C} {σ : sv_S}
theorem sv_End.s {σ' : sv_S} : ∀ {k : Nat} {σ : sv_S}, sv_stps X M.2.2.2.2 k σ = some σ' → sv_End X d M r σ' → sv_End X d M r σ
  | 0, σ, h, hk => by
    cases h
    exact hk
  | k + 1, σ, h, hk => by
    unfold sv_stps at h
    split at h
    · rename_i σ1 h1
      obtain ⟨n, hn⟩ := sv_End.s (k := k) h hk
      exact ⟨n + 1, by unfold sv_Ex; exact Or.inl ⟨σ1, h1, hn⟩⟩
    · cases h
theorem sv_End.f {pc : Nat} {lo lo' : List (Option Value)} {q : List Value × List sv_C} (hl : sv_leb lo' lo) (h : sv_End X d M r (pc, lo', q)) : sv_End X d M r (pc, lo, q) := by
  obtain ⟨n, hn⟩ := h
  exact ⟨n + 1, by unfold sv_Ex; exact Or.inr (Or.inl ⟨lo', sv_leb_le _ _ hl, hn⟩)⟩
theorem sv_End.b {P : Prop} {σ1 σ2 : sv_S} (h : sv_br M.2.2.2.2 σ = some (P, σ1, σ2)) (h1 : P → sv_End X d M r σ1) (h2 : ¬ P → sv_End X d M r σ2) : sv_End X d M r σ := by
  by_cases hp : P
  · obtain ⟨n, hn⟩ := h1 hp
    exact ⟨n + 1, by unfold sv_Ex; exact Or.inr (Or.inr (Or.inl ⟨P, σ1, σ2, h, fun _ => hn, fun z => absurd hp z⟩))⟩
  · obtain ⟨n, hn⟩ := h2 hp
    exact ⟨n + 1, by unfold sv_Ex; exact Or.inr (Or.inr (Or.inl ⟨P, σ1, σ2, h, fun z => absurd z hp, fun _ => hn⟩))⟩
theorem sv_End.g {P : Prop} {σ' : sv_S} (h : sv_gst X M.2.2.2.2 σ = some (P, σ')) (hp : P) (h1 : sv_End X d M r σ') : sv_End X d M r σ := by
  obtain ⟨n, hn⟩ := h1
  exact ⟨n + 1, by unfold sv_Ex; exact Or.inr (Or.inr (Or.inr (Or.inl ⟨P, σ', h, hp, hn⟩)))⟩
theorem sv_End.w {P : Prop} {σ' : sv_S} {k : Option Nat} (h : sv_sw M.2.2.2.2 σ k = some (P, σ')) (hp : P) (h1 : sv_End X d M r σ') : sv_End X d M r σ := by
  obtain ⟨n, hn⟩ := h1
  exact ⟨n + 1, by unfold sv_Ex; exact Or.inr (Or.inr (Or.inr (Or.inr (Or.inl ⟨k, P, σ', h, hp, hn⟩))))⟩
theorem sv_End.ret {P : Prop} {v : Option Value} (h : sv_rt M.2.2.2.2 M.2.2.2.1 σ = some (P, v)) (hp : P) (hr : r = (v, σ.2.2.2)) : sv_End X d M r σ :=
  ⟨1, by unfold sv_Ex; exact Or.inr (Or.inr (Or.inr (Or.inr (Or.inr (Or.inl ⟨P, v, h, hp, hr⟩)))))⟩
/-- a method on an object: callee's places ps in the caller's list, its cells cs1 then cs2 -/
theorem sv_End.V {M' : sv_M} {pc i k b d' : Nat} {lo : List (Option Value)} {st av rest : List Value} {ps : List Nat} {cs cs1 cs2 : List sv_C} {rv : Option Value} {st' : List Value} {cs' : List sv_C} {q : Nat × Value × Nat × Nat × Nat}
    (lk : sv_lnkV sv_nw M.1.cls i M' k) (hR : sv_R X d' M' (.ref b :: av) cs1 rv cs2) (hd : Nat.ble d' d = true) (hat : sv_at M.2.2.2.2 pc = some (q.1, .invokevirtual i, q.2)) (hav : av.length = k) (hst : st = ((Value.ref b :: av).map (sv_v (sv_pi ps))).reverse ++ rest) (hc : Nat.ble (sv_cat rest) 8 = true) (hrc : sv_rcv cs M'.1 (sv_pi ps b)) (hnd : va_nd ps = true) (hpl : Nat.ble ps.length 900 = true) (hs : sv_sub ps cs cs1) (hlen : cs2.length = cs1.length)
    (hst' : (rv.map (sv_v (sv_pi ps))).toList ++ rest = st') (hcs' : sv_pt ps (cs2.map (sv_r (sv_pi ps))) 0 cs = cs') (h1 : sv_End X d M r (pc + 3, lo, st', cs')) : sv_End X d M r (pc, lo, st, cs) := by
  subst hst'; subst hcs'
  obtain ⟨n, hn⟩ := h1
  exact ⟨n + 1, by unfold sv_Ex; exact Or.inr (Or.inr (Or.inr (Or.inr (Or.inr (Or.inr (Or.inl ⟨M', i, k, b, av, rest, ps, cs1, cs2, rv, ⟨q, hat⟩, lk, hav, hst, Nat.le_of_ble_eq_true hc, hrc, hnd, Nat.le_of_ble_eq_true hpl, hs, hlen, sv_R_le (Nat.le_of_ble_eq_true hd) hR, hn⟩))))))⟩
theorem sv_End.S {M' : sv_M} {pc i k d' : Nat} {lo : List (Option Value)} {st av rest : List Value} {ps : List Nat} {cs cs1 cs2 : List sv_C} {rv : Option Value} {st' : List Value} {cs' : List sv_C} {q : Nat × Value × Nat × Nat × Nat}
    (lk : sv_lnkS sv_nw M.1.cls i M' k) (hR : sv_R X d' M' av cs1 rv cs2) (hd : Nat.ble d' d = true) (hat : sv_at M.2.2.2.2 pc = some (q.1, .invokestatic i, q.2)) (hav : av.length = k) (hst : st = (av.map (sv_v (sv_pi ps))).reverse ++ rest) (hc : Nat.ble (sv_cat rest) 8 = true) (hnd : va_nd ps = true) (hpl : Nat.ble ps.length 900 = true) (hs : sv_sub ps cs cs1) (hlen : cs2.length = cs1.length)
    (hst' : (rv.map (sv_v (sv_pi ps))).toList ++ rest = st') (hcs' : sv_pt ps (cs2.map (sv_r (sv_pi ps))) 0 cs = cs') (h1 : sv_End X d M r (pc + 3, lo, st', cs')) : sv_End X d M r (pc, lo, st, cs) := by
  subst hst'; subst hcs'
  obtain ⟨n, hn⟩ := h1
  exact ⟨n + 1, by unfold sv_Ex; exact Or.inr (Or.inr (Or.inr (Or.inr (Or.inr (Or.inr (Or.inr ⟨M', i, k, av, rest, ps, cs1, cs2, rv, ⟨q, hat⟩, lk, hav, hst, Nat.le_of_ble_eq_true hc, hnd, Nat.le_of_ble_eq_true hpl, hs, hlen, sv_R_le (Nat.le_of_ble_eq_true hd) hR, hn⟩))))))⟩
theorem sv_R.of {av : List Value} {cs cs' : List sv_C} {v : Option Value} (hg : sv_good M) (hl : Nat.ble (lg_sl av).length M.2.2.1 = true) (h : sv_End X d M (v, cs') (0, sv_lo M.2.2.1 av, [], cs)) : sv_R X (d + 1) M av cs v cs' := by
  obtain ⟨n, hn⟩ := h
  exact Or.inr ⟨hg, Nat.le_of_ble_eq_true hl, n, hn⟩
end SVRules
/-! a value gone on with -/
def sv_let {α β : Type} (x : α) (f : α → β) : β := f x
/-- a row of a part of the state -/
def sr (h : Nat → Nat → Int32) (r : Nat) (g : Nat → Int32) : Nat → Nat → Int32 := fun k => bif Nat.beq k r then g else h k
