/-! the law, from its entry (the words ahead of su_ret are the given skeleton's) -/
/-! THE CLAIM OUT OF ONE WALK OF THE LAW'S BODY. Your part is whole_start (and what it stands on); all else here is the same for every law, but numbers. -/
def R_law : String := "KeptApartLaw"
def lw_P (b : Addr) (xs : List Int32) (args : Array Value) (s : State) : Prop := args = #[.ref b] ∧ s.IntsAt b xs ∧ xs.length ≤ 3072 ∧ (Jvm.Cond.and given_1 narrow_1).before args s = true
def lw_Q (_ : Array Value) (s : State) (o : Outcome) (t : State) : Prop := o = .returned (some (.int 1)) ∧ Framed s o t [] 600000 7302250
def lw_Z (below : List Frame) (a : Array Value) (s : State) : State → Prop := fun t => ∃ o, t.status = .running ∧ Ended t below o ∧ lw_Q a s o t
/-- the law's own end, with 1 on the stack, nothing written that was there before, its room as the claim has it -/
theorem lw_ret {p : Program} {l : Launch} {e : Env} {s : State} {m : MethodId} {below : List Frame} {meth : Method} {c : Code} {b : Nat} (hx : p.tables.exec = Jvm.exec) (hb : c.code = code) (hr : meth.sig.returnType = ret) (hlocks : meth.locks = false) {pc : Nat} {H : Heap} {ls : Array Slot} (hdg : decode code pc = .ok (.ireturn, 1)) : W p l e room_1 s m #[Value.ref b] below meth c H [] 600000 7302250 (lw_Z below #[Value.ref b] s) (F0 m pc ls [.int 1]) := by
  intro T hT X
  obtain ⟨fs, hret, hrun, hended, hW, hframe⟩ := X.leave (v := some (.int 1)) (hlocks := hlocks) (fun h => by rw [hr] at h; cases h)
  have hmeth' : T.vm.method? m = some meth := X.method'
  refine ⟨T.setFrames fs, ?_, .returned (some (.int 1)), hrun, hended, rfl, ⟨_, rfl⟩, hW, hframe⟩
  jvm_step X.here [X.here.top, hx, hb, hdg, hmeth', hr, ret, narrow_b1]
  (try refine ⟨rfl, ?_⟩); (try refine ⟨rfl, ?_⟩)
  first | (intro acts; rw [hret _ acts rfl rfl rfl]) | rw [hret _ _ rfl rfl rfl]
  exact Steps.refl _
/-- what holds at the law's entry: the machine, the code, the tables' words (any of lw_tbl by 'hts w (by decide +kernel)'), the script of L ints xs at the cell b, what the Statement gives of the start (any of its parts by flat_of_before) -/
def lw_At (p : Program) (s : State) (m : MethodId) (meth : Method) (c : Code) (b L : Nat) (xs : Nat → Int32) : Prop :=
  p.tables.exec = Jvm.exec ∧ c.code = code ∧ meth.sig.returnType = ret ∧ c.maxLocals = 4 ∧ s.vm.findClass R_law = some m.cls ∧ (∀ w ∈ lw_tbl, w.before #[Value.ref b] s = true) ∧ va_X b L xs s s.heap ∧ b < s.heap.size ∧ meth.locks = false ∧ (Jvm.Cond.and given_1 narrow_1).before #[Value.ref b] s = true
theorem su_ret {M : sv_M} (hg : sv_good M) {σ : sv_S} {P : Prop} (h : sv_rt M.2.2.2.2 M.2.2.2.1 σ = some (P, some (.int 1))) : decode M.2.1 σ.1 = .ok (.ireturn, 1) ∧ σ.2.2.1 = [.int 1] := by
  obtain ⟨pc, lo, stk, cs⟩ := σ
  unfold sv_rt at h
  dsimp only at h ⊢
  cases hat : sv_at M.2.2.2.2 pc with
  | none => rw [hat] at h; cases h
  | some i =>
    obtain ⟨pc0, ins, v0, a, b, j⟩ := i
    obtain ⟨-, hd, -⟩ := sv_row hg hat
    rw [hat] at h
    dsimp only at h hd
    split at h
    · cases h; exact ⟨hd, rfl⟩
    · cases h; exact ⟨hd, rfl⟩
    · cases h
    · cases h
    · cases h
    · cases h
/-- cells' names: the law's own, its script, the string constants -/
def su_r (ρ : Nat → Nat) (b : Nat) (ad : Nat → Nat) : Nat → Nat := fun i => if i < 90 then ρ (sv_pi su_ps i) else if i = 999 then b else ad (i - 1000)
theorem su_r9 (ρ : Nat → Nat) (b : Nat) (ad : Nat → Nat) : su_r ρ b ad 999 = b := by
  unfold su_r
  rw [if_neg (by omega), if_pos rfl]
theorem su_rs (ρ : Nat → Nat) (b : Nat) (ad : Nat → Nat) (i : Nat) : su_r ρ b ad (1000 + i) = ad i := by
  unfold su_r
  rw [if_neg (by omega), if_neg (by omega), Nat.add_sub_cancel_left]
theorem su_rl (ρ : Nat → Nat) (b : Nat) (ad : Nat → Nat) (i : Nat) (hi : i < 90) : su_r ρ b ad i = ρ (sv_pi su_ps i) := if_pos hi
theorem su_w (ρ : Nat → Nat) (b : Nat) (ad : Nat → Nat) (cA : Nat → ClassId) : sv_w (su_r ρ b ad) cA (LWo false kz_0 gz_0) = sv_w (fun i => ρ (sv_pi su_ps i)) cA (LWo false kz_0 gz_0) := by
  refine cv_w_of (n := 90) (su_rl ρ b ad) cA ?_ ?_
  · rw [wd_eq, cds_len, wd_b.2]
    exact Nat.le_refl _
  · rw [wd_eq, cds_b]
    exact wd_b.1
theorem su_len : (cds CJ_K).length = 67 := by rw [cds_len]; decide +kernel
theorem su_go {X : Nat × (Nat → Int32)} (hL : X.1 ≤ 3072) : sl_P X (16, [some (.ref 999), some (.ref 0), some (.ref 67), none], [], LWo false kz_0 gz_0) :=
  sl_P.s (σ' := (18, [some (.ref 999), some (.ref 0), some (.ref 67), some (.int (nI 0))], [], LWo false kz_0 gz_0)) 2 rfl (lw_loop Inv lw_all hL (X.1 + 1) 0 (by omega) (by omega) false kz_0 gz_0 inv_0)
set_option maxRecDepth 100000 in
theorem whole_start {p : Program} {e : Env} {s : State} {m : MethodId} {below : List Frame} {meth : Method} {c : Code} (l : Launch) (hflags : l.flags = flags0) {b L : Nat} {xs : Nat → Int32} (hL : L ≤ 3072) (C0 : lw_At p s m meth c b L xs) : W p l e room_1 s m #[Value.ref b] below meth c s.heap [] 0 0 (lw_Z below #[Value.ref b] s) (entryFrame m ([Value.ref b] : List Value).toArray 4) := by
  obtain ⟨hx, hb, hr, hml, hown, hts, hX, hbl, hlocks, hgv⟩ := id C0
  obtain ⟨ad, hE⟩ := su_E hts hX hbl hgv
  obtain ⟨D, cA, hK⟩ := su_K hts
  have hT : ∀ w ∈ sv_Ts, w.before #[Value.ref b] s = true := fun w h => hts w (su_T h)
  have hN : ∀ w ∈ sv_nw, va_Nw w s := (hE (su_r (fun _ => 0) b ad) (su_r9 _ _ _) (fun i _ => su_rs _ _ _ i)).2.2.2.2
  have hA : ∀ q : Nat, s.heap.size ≤ q → (fun q : Nat => s.heap.size ≤ q) q := fun _ h => h
  have hB : cv_B p room_1 s m #[Value.ref b] c D cA (fun q => s.heap.size ≤ q) "KeptApartLaw" code 4 := ⟨⟨hx, hb, hml, hown, hT⟩, hK, hA, Nat.le_of_ble_eq_true rfl, Nat.le_of_ble_eq_true rfl⟩
  rw [lg_entry_eq]
  have hl := lv_entry ([.ref b]) (n := 4) (Nat.le_of_ble_eq_true rfl)
  refine cl_law (l := l) (e := e) (b := b) hB hN ?_ (fun _ => 0) s.heap [] _ (fun k q h => by simp [sv_w] at h) ⟨fun i j p q h => by simp [sv_w] at h, fun k q h => by simp [sv_w] at h⟩ va_S.rf hl
  clear hl
  intro ρ H locs ls hP hD hS hl
  have hE1 := hE (su_r ρ b ad) (su_r9 _ _ _) (fun i _ => su_rs _ _ _ i)
  have hws := sv_sub_w wd_s ρ cA
  have hP1 := hP.sub su_ps (sv_fm _ _ _ hws)
  have hD1 := hD.sub su_ps wd_nd hws
  rw [← su_w ρ b ad cA] at hP1 hD1
  obtain ⟨cs', n, hex⟩ := su_go (X := (L, xs)) hL
  have hB1 : sv_B (L, xs) sv_nw p room_1 s m #[Value.ref b] c 90 6171 D cA (su_r ρ b ad) (fun q => s.heap.size ≤ q) M_law := ⟨⟨hx, hb, hml, hown, hT⟩, ⟨hK, hE1, hA⟩, g_law, Nat.le_of_ble_eq_true rfl, Nat.le_of_ble_eq_true rfl, Nat.le_of_ble_eq_true rfl, Nat.le_of_ble_eq_true rfl⟩
  refine sv_sound (C := sv_R (L, xs) 60) (d := 60) sv_nw_ok (fun M av cs v cs' h => sv_all l h) hB1 (Nat.le_of_ble_eq_true rfl) (Nat.le_of_ble_eq_true rfl) (r := (some (.int 1), cs')) ?_ n _ hex H locs ls hP1 hD1 hS ⟨_, hl, ?_⟩
  · intro σ P w h1 h2 h3 H locs ls hP hD hS hl
    have hw : w = some (.int 1) := (congrArg Prod.fst h3).symm
    rw [hw] at h1
    obtain ⟨hd, hst⟩ := su_ret g_law h1
    rw [hst]
    refine va_forget (fun q hq => hS.2.2 q hq) ?_
    refine W.widen (k := 600000) (n := 7302250) (Nat.le_of_ble_eq_true rfl) (Nat.le_of_ble_eq_true rfl) ?_
    exact lw_ret hx hb hr hlocks hd
  · intro i v hi
    match i, hi with
    | 0, hi =>
      cases hi
      show (0, Value.ref (su_r ρ b ad 999)) ∈ _
      rw [su_r9]
      exact List.mem_append_right _ List.mem_cons_self
    | 1, hi =>
      cases hi
      show (1, Value.ref (su_r ρ b ad 0)) ∈ _
      rw [su_rl _ _ _ 0 (by omega)]
      exact List.mem_append_left _ (List.mem_cons_of_mem _ List.mem_cons_self)
    | 2, hi =>
      cases hi
      show (2, Value.ref (su_r ρ b ad 67)) ∈ _
      rw [su_rl _ _ _ 67 (by omega)]
      refine List.mem_append_left _ ?_
      show (2, Value.ref (ρ (sv_pi su_ps 67))) ∈ (2, Value.ref (ρ (cds CJ_K).length)) :: _
      rw [su_len]
      exact List.mem_cons_self
    | 3, hi => cases hi
    | i + 4, hi => cases hi
