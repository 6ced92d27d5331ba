/-! ===== the small machine's steps that ask something, its switches ===== -/
section SVSound4
variable {p : Program} {l : Launch} {e : Env} {R : Room} {s : State} {m : MethodId} {args : Array Value} {below : List Frame} {meth : Method} {c : Code} {cells slots : Nat} {Q : State → Prop}
variable {D : va_G} {cA : Nat → ClassId} {ρ : Nat → Nat} {A : Nat → Prop}
theorem sv_w_ar (ρ : Nat → Nat) (cA : Nat → ClassId) (cs : List sv_C) (q t n : Nat) (g : Nat → Int32) : (sv_w ρ cA cs).set q (ρ q, .inl (cA t, n, .inl g)) = sv_w ρ cA (sv_u cs q (.inl (t, n, g))) := (sv_w_set ρ cA cs q (.inl (t, n, g))).symm
theorem sv_01_n {x : Int32} (h : sv_01 x) : narrow .boolean (.int x) = .int x := by
  rcases h with rfl | rfl <;> rfl
theorem sv_01_f {x : Int32} (h : sv_01 x) : fits .boolean (.int x) = true := by
  rcases h with rfl | rfl <;> rfl
set_option maxHeartbeats 4000000 in
theorem sv_gst_ok {X : Nat × (Nat → Int32)} {nw : List Jvm.Cond} {M : sv_M} (hB : sv_B X nw p R s m args c cells slots D cA ρ A M) {σ σ' : sv_S} {P : Prop} (h : sv_gst X M.2.2.2.2 σ = some (P, σ')) (hp : P) (k : sv_J p l e R s m args below meth c cells slots Q D cA ρ A M.2.2.1 σ') : sv_J p l e R s m args below meth c cells slots Q D cA ρ A M.2.2.1 σ := by
  obtain ⟨pc, lo, st, cs⟩ := σ
  have hBB := hB
  obtain ⟨⟨hx, hb, hml, hown, hts⟩, ⟨hK, hE, hA⟩, hg, hR1, hR2, hR3, hR4⟩ := hB
  unfold sv_gst at h
  dsimp only at h
  cases hat : sv_at M.2.2.2.2 pc with
  | none => rw [hat] at h; cases h
  | some i =>
    obtain ⟨pc0, ins, v, a, b, j⟩ := i
    obtain ⟨h1, hd, hk⟩ := sv_row hg hat
    rw [hat] at h
    dsimp only at h1 hd hk h
    intro H locs ls hP hD hS hl
    dsimp only at hP hD hl ⊢
    split at h
    · rename_i i q r
      split at h
      · rename_i t n f hq
        cases hc : Nat.beq t 0 with
        | false => rw [hc] at h; cases h
        | true =>
          rw [hc] at h
          cases h
          have ht := sv_beq hc
          subst ht
          exact va_iald hx hb hK hP q 0 (sv_w_at hq) rfl hp hd (k H locs ls hP hD hS hl)
      · cases h
      · cases hc : Nat.beq q 999 with
        | false => rw [hc] at h; cases h
        | true =>
          rw [hc] at h
          cases h
          have hq9 := sv_beq hc
          subst hq9
          exact va_sld hx hb hE.1.1 hE.1.2.1 hE.1.2.2 hS hp hd (k H locs ls hP hD hS hl)
    · rename_i i q r
      split at h
      · rename_i t n f hq
        cases hc : Nat.beq t 1 with
        | true =>
          rw [hc] at h
          cases h
          have ht := sv_beq hc
          subst ht
          exact va_bald hx hb hK hP q 1 (sv_w_at hq) rfl hp hd (k H locs ls hP hD hS hl)
        | false =>
          rw [hc] at h
          dsimp only [cond] at h
          cases hc2 : Nat.beq t 2 with
          | true =>
            rw [hc2] at h
            cases h
            have ht := sv_beq hc2
            subst ht
            exact va_zald hx hb hK hP q 2 (sv_w_at hq) rfl hp hd (k H locs ls hP hD hS hl)
          | false => rw [hc2] at h; cases h
      · cases h
    · rename_i x i q r
      split at h
      · rename_i t n f hq
        cases hc : Nat.beq t 0 with
        | false => rw [hc] at h; cases h
        | true =>
          rw [hc] at h
          cases h
          have ht := sv_beq hc
          subst ht
          exact va_iast hx hb hK hP hD hS q 0 (sv_w_at hq) rfl hp hd (fun H1 locs1 a1 a2 a3 => k H1 locs1 ls (by rw [sv_w_ar] at a1; exact a1) (by rw [sv_w_ar] at a2; exact a2) a3 hl)
      · cases h
    · rename_i x i q r
      split at h
      · rename_i t n f hq
        cases hc : Nat.beq t 1 with
        | true =>
          rw [hc] at h
          cases h
          have ht := sv_beq hc
          subst ht
          exact va_bast hx hb hK hP hD hS q 1 (sv_w_at hq) rfl hp hd (fun H1 locs1 a1 a2 a3 => k H1 locs1 ls (by rw [sv_w_ar] at a1; exact a1) (by rw [sv_w_ar] at a2; exact a2) a3 hl)
        | false =>
          rw [hc] at h
          dsimp only [cond] at h
          cases hc2 : Nat.beq t 2 with
          | true =>
            rw [hc2] at h
            cases h
            have ht := sv_beq hc2
            subst ht
            exact va_zast hx hb hK hP hD hS q 2 (sv_w_at hq) rfl hp hd (fun H1 locs1 a1 a2 a3 => k H1 locs1 ls (by rw [sv_w_ar] at a1; exact a1) (by rw [sv_w_ar] at a2; exact a2) a3 hl)
          | false => rw [hc2] at h; cases h
      · cases h
    · cases h
      exact lv_idiv hx hb hd hp (k H locs ls hP hD hS hl)
    · cases h
      exact lv_irem hx hb hd hp (k H locs ls hP hD hS hl)
    · rename_i i x q r
      split at h
      · rename_i ci fs hq
        cases hc : Nat.beq ci a with
        | false => rw [hc] at h; cases h
        | true =>
          rw [hc] at h
          dsimp only [cond] at h
          split at h
          · rename_i w hw
            cases h
            have hca := sv_beq hc
            subst hca
            have hty : sv_ty ci b = .boolean := by
              have h9 : (sv_fld M.1.cls i ci b j && sv_fin ci b && sv_fty (.retAddr 1) (sv_ty ci b)) = true := hk
              simp only [Bool.and_eq_true] at h9
              cases ht : sv_ty ci b <;> rw [ht] at h9 <;> first | rfl | exact absurd h9.2 (by simp [sv_fty])
            exact sv_step_put (x := .int x) hBB hP hD hS hq hw hd hk (by rw [hty]; exact sv_01_n hp) (by rw [hty]; exact sv_01_f hp) (fun H1 locs1 a1 a2 a3 => k H1 locs1 ls a1 a2 a3 hl)
          · cases h
      · cases h
    · rename_i i n dp q1 sp q0 r
      split at h
      · rename_i t0 n0 f0 t1 n1 f1 hq0 hq1
        cases hc : Nat.beq t0 0 && Nat.beq t1 0 && Nat.ble (sv_cat r) 20 with
        | false => rw [hc] at h; cases h
        | true =>
          rw [hc] at h
          cases h
          simp only [Bool.and_eq_true] at hc
          have e0 := sv_beq hc.1.1
          have e1 := sv_beq hc.1.2
          have e2 := Nat.le_of_ble_eq_true hc.2
          subst e0; subst e1
          obtain ⟨⟨g1, g2, g3⟩, g4, g5⟩ := hp
          have hk : lw_tbl[j]? = some (Jvm.Cond.methodLink M.1.cls i arraycopyName) := of_decide_eq_true hk
          have hwd : nativeFrameWords "java/lang/System" "arraycopy" 5 = 7 := by decide +kernel
          have hroom : ((r.map (sv_v ρ)).map fun v => v.category).sum + (nativeFrameWords "java/lang/System" "arraycopy" 5 + 11) ≤ R.locals := by
            rw [sv_cat_eq, sv_cat_v, hwd]
            omega
          exact va_copyi hx hb (hml.trans hl.size.symm) hown (hts _ (sv_tm hk rfl)) (hts _ sv_copy_w.1) (hts _ sv_copy_w.2.1) (hts _ sv_copy_w.2.2) hK hP hD hS q0 q1 0 0 (sv_w_at hq0) (sv_w_at hq1) rfl rfl rfl g1 g2 g3 g4 g5 (fun i _ => rfl) hR1 hroom hd (fun H1 locs1 a1 a2 a3 => k H1 locs1 ls (by rw [sv_w_ar] at a1; exact a1) (by rw [sv_w_ar] at a2; exact a2) a3 hl)
      · cases h
    · cases h
theorem sv_sw_ok {X : Nat × (Nat → Int32)} {nw : List Jvm.Cond} {M : sv_M} (hB : sv_B X nw p R s m args c cells slots D cA ρ A M) {σ σ' : sv_S} {P : Prop} {kx : Option Nat} (h : sv_sw M.2.2.2.2 σ kx = some (P, σ')) (hp : P) (k : sv_J p l e R s m args below meth c cells slots Q D cA ρ A M.2.2.1 σ') : sv_J p l e R s m args below meth c cells slots Q D cA ρ A M.2.2.1 σ := by
  obtain ⟨pc, lo, st, cs⟩ := σ
  obtain ⟨⟨hx, hb, hml, hown, hts⟩, ⟨hK, hE, hA⟩, hg, hR1, hR2, hR3, hR4⟩ := hB
  unfold sv_sw at h
  dsimp only at h
  cases hat : sv_at M.2.2.2.2 pc with
  | none => rw [hat] at h; cases h
  | some i =>
    obtain ⟨pc0, ins, v, a, b, j⟩ := i
    obtain ⟨h1, hd, hk⟩ := sv_row hg hat
    rw [hat] at h
    dsimp only at h1 hd hk h
    intro H locs ls hP hD hS hl
    dsimp only at hP hD hl ⊢
    split at h
    · cases h
      exact lv_tableOut hx hb hd hp.1 (Int.toNat_of_nonneg hp.2).symm (k H locs ls hP hD hS hl)
    · split at h
      · rename_i off hoff
        cases h
        exact lv_tableIn hx hb hd hp.1.1 hp.1.2.1 (by rw [hp.1.2.2]; exact hoff) (Int.toNat_of_nonneg hp.2).symm (k H locs ls hP hD hS hl)
      · cases h
    · cases h
      exact lv_lookup hx hb hd hp.1 rfl hp.2 (k H locs ls hP hD hS hl)
    · cases h
end SVSound4
