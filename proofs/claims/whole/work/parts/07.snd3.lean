/-! ===== the small machine's steps, branches, switches ===== -/
section SVSound3
variable {p : Program} {l : Launch} {e : Env} {R : Room} {s : State} {m : MethodId} {args : Array Value} {below : List Frame} {meth : Method} {c : Code} {cells slots : Nat} {Q : State → Prop}
variable {D : va_G} {cA : Nat → ClassId} {ρ : Nat → Nat} {A : Nat → Prop}
theorem sv_t_at {cA : Nat → ClassId} {t : Nat} (h : t ≤ 2) : ∃ (t0 : Nat) (ty : FieldType), (sv_t cA)[t0]? = some (cA t, ty) := by
  match t, h with
  | 0, _ => exact ⟨0, .int, rfl⟩
  | 1, _ => exact ⟨1, .byte, rfl⟩
  | 2, _ => exact ⟨2, .boolean, rfl⟩
theorem sv_step_dflt {X : Nat × (Nat → Int32)} {nw : List Jvm.Cond} {M : sv_M} (hB : sv_B X nw p R s m args c cells slots D cA ρ A M) {pc a b j : Nat} {ins : Instr} {v : Value} {H : Heap} {locs : List Loc} {ls : Array Slot} {lo : List (Option Value)} {st : List Value} {cs : List sv_C} {σ' : sv_S} (hd : decode M.2.1 pc = .ok (ins, sv_il ins a)) (hk : sv_ok2 M.1.cls M.2.2.1 pc ins v a b j = true) (hl : sv_has ρ ls M.2.2.1 lo) (h : sv_dfl ins v a pc lo st cs = some σ')
    (k : σ'.2.2.2 = cs → sv_has ρ ls M.2.2.1 σ'.2.1 → W p l e R s m args below meth c H locs cells slots Q (F0 m σ'.1 ls (σ'.2.2.1.map (sv_v ρ)))) : W p l e R s m args below meth c H locs cells slots Q (F0 m pc ls (st.map (sv_v ρ))) := by
  unfold sv_dfl at h
  cases hs : sv_push ins with
  | some n =>
    rw [hs] at h
    cases h
    exact sv_step_push hB hs hd hk (k rfl hl)
  | none =>
    rw [hs] at h
    dsimp only at h
    cases hs2 : sv_load ins with
    | some n =>
      rw [hs2] at h
      dsimp only at h
      split at h
      · rename_i w hw
        cases hc : sv_lk ins w with
        | false => rw [hc] at h; cases h
        | true =>
          rw [hc] at h
          cases h
          exact sv_step_load hB hs2 hd hk hc (hl.get hw) (k rfl hl)
      · cases h
    | none =>
      rw [hs2] at h
      dsimp only at h
      cases hs3 : sv_bin ins with
      | some f =>
        rw [hs3] at h
        dsimp only at h
        split at h
        · cases h
          exact sv_step_bin hB hs3 hd (k rfl hl)
        · cases h
      | none =>
        rw [hs3] at h
        dsimp only at h
        cases hs4 : sv_lbin ins with
        | some f =>
          rw [hs4] at h
          dsimp only at h
          split at h
          · cases h
            exact sv_step_lbin hB hs4 hd (k rfl hl)
          · cases h
        | none => rw [hs4] at h; cases h
set_option maxHeartbeats 4000000 in
theorem sv_stp_ok {X : Nat × (Nat → Int32)} {nw : List Jvm.Cond} {M : sv_M} (hB : sv_B X nw p R s m args c cells slots D cA ρ A M) {σ σ' : sv_S} (h : sv_stp X M.2.2.2.2 σ = some σ') (k : sv_J p l e R s m args below meth c cells slots Q D cA ρ A M.2.2.1 σ') : sv_J p l e R s m args below meth c cells slots Q D cA ρ A M.2.2.1 σ := by
  obtain ⟨pc, lo, st, cs⟩ := σ
  have hBB := hB
  obtain ⟨⟨hx, hb, hml, hown, hts⟩, ⟨hK, hE, hA⟩, hg, hR⟩ := hB
  unfold sv_stp at h
  dsimp only at h
  cases hat : sv_at M.2.2.2.2 pc with
  | none => rw [hat] at h; cases h
  | some i =>
    obtain ⟨pc0, ins, v, a, b, j⟩ := i
    obtain ⟨h1, hd, hk⟩ := sv_row hg hat
    rw [hat] at h
    dsimp only at h1 hd hk h
    intro H locs ls hP hD hS hl
    dsimp only at hP hD hl ⊢
    cases ins with
    | istore_n i =>
      dsimp only at h
      split at h
      · cases h
        have hk : (decide ((i : Nat) = a) && decide (a < M.2.2.1)) = true := hk
        simp only [Bool.and_eq_true, decide_eq_true_eq] at hk
        obtain ⟨lv, h2, h3⟩ := hl
        exact lv_istore_n hx hb hd hk.1 h2 hk.2 rfl (fun ls' hl' => k H locs ls' hP hD hS (sv_has.st1 h3 hl'))
      · cases h
    | istore i =>
      dsimp only at h
      split at h
      · cases h
        have hk : (decide (i = a) && decide (a < M.2.2.1)) = true := hk
        simp only [Bool.and_eq_true, decide_eq_true_eq] at hk
        obtain ⟨rfl, hk⟩ := hk
        obtain ⟨lv, h2, h3⟩ := hl
        exact lv_istore hx hb hd h2 hk rfl (fun ls' hl' => k H locs ls' hP hD hS (sv_has.st1 h3 hl'))
      · cases h
    | astore_n i =>
      dsimp only at h
      split at h
      · cases h
        have hk : (decide ((i : Nat) = a) && decide (a < M.2.2.1)) = true := hk
        simp only [Bool.and_eq_true, decide_eq_true_eq] at hk
        obtain ⟨lv, h2, h3⟩ := hl
        exact lv_astore_n hx hb hd hk.1 h2 hk.2 rfl (fun ls' hl' => k H locs ls' hP hD hS (sv_has.st1 h3 hl'))
      · cases h
    | astore i =>
      dsimp only at h
      split at h
      · cases h
        have hk : (decide (i = a) && decide (a < M.2.2.1)) = true := hk
        simp only [Bool.and_eq_true, decide_eq_true_eq] at hk
        obtain ⟨rfl, hk⟩ := hk
        obtain ⟨lv, h2, h3⟩ := hl
        exact lv_astore hx hb hd h2 hk rfl (fun ls' hl' => k H locs ls' hP hD hS (sv_has.st1 h3 hl'))
      · cases h
    | lstore_n i =>
      dsimp only at h
      split at h
      · cases h
        have hk : (decide ((i : Nat) = a) && decide (a + 1 < M.2.2.1)) = true := hk
        simp only [Bool.and_eq_true, decide_eq_true_eq] at hk
        obtain ⟨lv, h2, h3⟩ := hl
        exact lv_lstore_n hx hb hd hk.1 h2 hk.2 rfl (fun ls' hl' => k H locs ls' hP hD hS (sv_has.st2 h3 hl'))
      · cases h
    | lstore i =>
      dsimp only at h
      split at h
      · cases h
        have hk : (decide (i = a) && decide (a + 1 < M.2.2.1)) = true := hk
        simp only [Bool.and_eq_true, decide_eq_true_eq] at hk
        obtain ⟨rfl, hk⟩ := hk
        obtain ⟨lv, h2, h3⟩ := hl
        exact lv_lstore hx hb hd h2 hk rfl (fun ls' hl' => k H locs ls' hP hD hS (sv_has.st2 h3 hl'))
      · cases h
    | iinc i n =>
      dsimp only at h
      split at h
      · rename_i n0 x hlo
        cases h
        have hk : (decide (i = a) && decide (a < M.2.2.1) && decide (Value.int n0 = .int (Int32.ofInt n))) = true := hk
        simp only [Bool.and_eq_true, decide_eq_true_eq] at hk
        obtain ⟨⟨hk1, hk2⟩, hv⟩ := hk
        subst hk1
        cases hv
        obtain ⟨lv, h2, h3⟩ := hl
        obtain ⟨kk, hkk⟩ := List.getElem?_of_mem (h3 _ _ hlo)
        exact lv_iinc hx hb hd h2 hkk rfl hk2 rfl (fun ls' hl' => k H locs ls' hP hD hS (sv_has.st1 h3 hl'))
      · cases h
    | goto off =>
      cases h
      have hk : (pc : Int) + off = (a : Int) := of_decide_eq_true hk
      exact lv_goto hx hb hd hk (k H locs ls hP hD hS hl)
    | dup =>
      dsimp only at h
      split at h
      · rename_i x r
        cases hc : Nat.beq x.category 1 with
        | false => rw [hc] at h; cases h
        | true =>
          rw [hc] at h
          cases h
          exact lv_dup hx hb hd (by rw [sv_v_cat]; exact sv_beq hc) (k H locs ls hP hD hS hl)
      · cases h
    | pop =>
      dsimp only at h
      split at h
      · rename_i x r
        cases hc : Nat.beq x.category 1 with
        | false => rw [hc] at h; cases h
        | true =>
          rw [hc] at h
          cases h
          exact lv_pop hx hb hd (by rw [sv_v_cat]; exact sv_beq hc) (k H locs ls hP hD hS hl)
      · cases h
    | dup2 =>
      dsimp only at h
      split at h
      · rename_i x y r
        cases hc : Nat.beq x.category 1 with
        | false => rw [hc] at h; cases h
        | true =>
          rw [hc] at h
          dsimp only [cond] at h
          cases hc2 : Nat.beq y.category 1 with
          | false => rw [hc2] at h; cases h
          | true =>
            rw [hc2] at h
            cases h
            exact lv_dup2_11 hx hb hd (by rw [sv_v_cat]; exact sv_beq hc) (by rw [sv_v_cat]; exact sv_beq hc2) (k H locs ls hP hD hS hl)
      · cases h
    | i2l =>
      dsimp only at h
      split at h
      · cases h
        exact lv_i2l hx hb hd rfl (k H locs ls hP hD hS hl)
      · cases h
    | l2i =>
      dsimp only at h
      split at h
      · cases h
        exact lv_l2i hx hb hd rfl (k H locs ls hP hD hS hl)
      · cases h
    | i2b =>
      dsimp only at h
      split at h
      · cases h
        exact lv_i2b hx hb hd rfl (k H locs ls hP hD hS hl)
      · cases h
    | ineg =>
      dsimp only at h
      split at h
      · cases h
        exact lv_ineg hx hb hd (k H locs ls hP hD hS hl)
      · cases h
    | lneg =>
      dsimp only at h
      split at h
      · cases h
        exact lv_lneg hx hb hd (k H locs ls hP hD hS hl)
      · cases h
    | lcmp =>
      dsimp only at h
      split at h
      · cases h
        exact W.lcmp hx hb hd (k H locs ls hP hD hS hl)
      · cases h
    | getfield i =>
      dsimp only at h
      split at h
      · rename_i q r
        split at h
        · rename_i ci fs hq
          cases hc : Nat.beq ci a with
          | false => rw [hc] at h; cases h
          | true =>
            rw [hc] at h
            dsimp only [cond] at h
            split at h
            · rename_i w hw
              cases h
              have hca := sv_beq hc
              subst hca
              obtain ⟨z, hz, hbz, hlk⟩ := sv_fld_spec (show sv_fld M.1.cls i ci b j = true from hk)
              obtain ⟨h1, h2, h3⟩ := sv_cls ci z hz
              obtain ⟨C, T, N⟩ := z
              refine va_get (C := C) (T := T) (N := N) (own := M.1.cls) (v := sv_v ρ w) hx hb hts h1 hown hK hP q (sv_w_at hq) hz b hbz (hts _ hlk) (fun x h => h) ?_ hd (k H locs ls hP hD hS hl)
              rw [sv_n_eq] at hw
              rw [List.getElem?_map, hw]; rfl
            · cases h
        · cases h
      · cases h
    | putfield i =>
      dsimp only at h
      split at h
      · rename_i x q r
        split at h
        · rename_i ci fs hq
          cases hc : Nat.beq ci a with
          | false => rw [hc] at h; cases h
          | true =>
            rw [hc] at h
            dsimp only [cond] at h
            split at h
            · rename_i w hw
              cases h
              have hca := sv_beq hc
              subst hca
              have hty : sv_ty ci b = .int := by
                have h9 : (sv_fld M.1.cls i ci b j && sv_fin ci b && sv_fty (.retAddr 0) (sv_ty ci b)) = true := hk
                simp only [Bool.and_eq_true] at h9
                cases ht : sv_ty ci b <;> rw [ht] at h9 <;> first | rfl | exact absurd h9.2 (by simp [sv_fty])
              exact sv_step_put (x := .int x) hBB hP hD hS hq hw hd hk (by rw [hty]; rfl) (by rw [hty]; rfl) (fun H1 locs1 a1 a2 a3 => k H1 locs1 ls a1 a2 a3 hl)
            · cases h
        · cases h
      · rename_i x q r
        split at h
        · rename_i ci fs hq
          cases hc : Nat.beq ci a with
          | false => rw [hc] at h; cases h
          | true =>
            rw [hc] at h
            dsimp only [cond] at h
            split at h
            · rename_i w hw
              cases h
              have hca := sv_beq hc
              subst hca
              have hty : ∃ C, sv_ty ci b = .object C := by
                have h9 : (sv_fld M.1.cls i ci b j && sv_fin ci b && sv_fty (.retAddr 2) (sv_ty ci b)) = true := hk
                simp only [Bool.and_eq_true] at h9
                cases ht : sv_ty ci b <;> rw [ht] at h9 <;> first | exact ⟨_, rfl⟩ | exact absurd h9.2 (by simp [sv_fty])
              obtain ⟨C, hty⟩ := hty
              exact sv_step_put (x := .ref x) hBB hP hD hS hq hw hd hk (by rw [hty]; rfl) (by rw [hty]; rfl) (fun H1 locs1 a1 a2 a3 => k H1 locs1 ls a1 a2 a3 hl)
            · cases h
        · cases h
      · cases h
    | arraylength =>
      dsimp only at h
      split at h
      · rename_i q r
        split at h
        · rename_i t n f hq
          cases hc : Nat.ble t 2 with
          | false => rw [hc] at h; cases h
          | true =>
            rw [hc] at h
            cases h
            obtain ⟨t0, ty, ht0⟩ := sv_t_at (cA := cA) (Nat.le_of_ble_eq_true hc)
            exact va_alen hx hb hK hP q t0 (sv_w_at hq) ht0 rfl hd (k H locs ls hP hD hS hl)
        · cases h
        · cases hc : Nat.beq q 999 with
          | false => rw [hc] at h; cases h
          | true =>
            rw [hc] at h
            cases h
            have hq9 := sv_beq hc
            subst hq9
            exact va_slen hx hb hE.1.1 hE.1.2.1 hE.1.2.2 hS hd (k H locs ls hP hD hS hl)
      · cases h
    | invokestatic i =>
      dsimp only at h
      split at h
      · rename_i kk
        cases hc : Nat.ble (sv_cat st) 20 with
        | false => rw [hc] at h; cases h
        | true =>
          rw [hc] at h
          dsimp only [cond] at h
          split at h
          · rename_i st' hst
            cases h
            exact sv_step_math hBB hst (Nat.le_of_ble_eq_true hc) hd hk hl.size (k H locs ls hP hD hS hl)
          · cases h
      · cases h
    | _ =>
      exact sv_step_dflt hBB hd hk hl h (fun q => k H locs ls (by rw [q]; exact hP) (by rw [q]; exact hD) hS)
set_option maxHeartbeats 4000000 in
theorem sv_br_ok {X : Nat × (Nat → Int32)} {nw : List Jvm.Cond} {M : sv_M} (hB : sv_B X nw p R s m args c cells slots D cA ρ A M) {σ σ1 σ2 : sv_S} {P : Prop} (h : sv_br M.2.2.2.2 σ = some (P, σ1, σ2)) (k1 : P → sv_J p l e R s m args below meth c cells slots Q D cA ρ A M.2.2.1 σ1) (k2 : ¬ P → sv_J p l e R s m args below meth c cells slots Q D cA ρ A M.2.2.1 σ2) : sv_J p l e R s m args below meth c cells slots Q D cA ρ A M.2.2.1 σ := by
  obtain ⟨pc, lo, st, cs⟩ := σ
  obtain ⟨⟨hx, hb, hml, hown, hts⟩, ⟨hK, hE, hA⟩, hg, hR⟩ := hB
  unfold sv_br at h
  dsimp only at h
  cases hat : sv_at M.2.2.2.2 pc with
  | none => rw [hat] at h; cases h
  | some i =>
    obtain ⟨pc0, ins, v, a, b, j⟩ := i
    obtain ⟨h1, hd, hk⟩ := sv_row hg hat
    rw [hat] at h
    dsimp only at h1 hd hk h
    intro H locs ls hP hD hS hl
    dsimp only at hP hD hl ⊢
    split at h
    · cases h
      exact lv_if_eq hx hb hd (of_decide_eq_true hk) (fun z => k1 z H locs ls hP hD hS hl) (fun z => k2 z H locs ls hP hD hS hl)
    · cases h
      exact lv_if_ne hx hb hd (of_decide_eq_true hk) (fun z => k1 z H locs ls hP hD hS hl) (fun z => k2 (fun y => y z) H locs ls hP hD hS hl)
    · cases h
      exact lv_if_lt hx hb hd (of_decide_eq_true hk) (fun z => k1 z H locs ls hP hD hS hl) (fun z => k2 z H locs ls hP hD hS hl)
    · cases h
      exact lv_if_ge hx hb hd (of_decide_eq_true hk) (fun z => k1 z H locs ls hP hD hS hl) (fun z => k2 z H locs ls hP hD hS hl)
    · cases h
      exact lv_if_gt hx hb hd (of_decide_eq_true hk) (fun z => k1 z H locs ls hP hD hS hl) (fun z => k2 z H locs ls hP hD hS hl)
    · cases h
      exact lv_if_le hx hb hd (of_decide_eq_true hk) (fun z => k1 z H locs ls hP hD hS hl) (fun z => k2 z H locs ls hP hD hS hl)
    · cases h
      exact lv_icmp_eq hx hb hd (of_decide_eq_true hk) (fun z => k1 z H locs ls hP hD hS hl) (fun z => k2 z H locs ls hP hD hS hl)
    · cases h
      exact lv_icmp_ne hx hb hd (of_decide_eq_true hk) (fun z => k1 z H locs ls hP hD hS hl) (fun z => k2 (fun y => y z) H locs ls hP hD hS hl)
    · cases h
      exact lv_icmp_lt hx hb hd (of_decide_eq_true hk) (fun z => k1 z H locs ls hP hD hS hl) (fun z => k2 z H locs ls hP hD hS hl)
    · cases h
      exact lv_icmp_ge hx hb hd (of_decide_eq_true hk) (fun z => k1 z H locs ls hP hD hS hl) (fun z => k2 z H locs ls hP hD hS hl)
    · cases h
      exact lv_icmp_gt hx hb hd (of_decide_eq_true hk) (fun z => k1 z H locs ls hP hD hS hl) (fun z => k2 z H locs ls hP hD hS hl)
    · cases h
      exact lv_icmp_le hx hb hd (of_decide_eq_true hk) (fun z => k1 z H locs ls hP hD hS hl) (fun z => k2 z H locs ls hP hD hS hl)
    · cases h
end SVSound3
