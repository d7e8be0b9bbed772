theorem sz_pos {x : UInt64} {t : Bool} {n : Nat} (h : fz_is x t n) (hc : 0 ≤ FP.Core.signed t n) : fz_is x (t && n == 0) n := by
  have : (t && n == 0) = t := by
    cases t with
    | false => rfl
    | true =>
      rw [fz_st] at hc
      have : n = 0 := by omega
      subst this
      rfl
  rw [this]
  exact h
theorem sz_neg {x : UInt64} {t : Bool} {n : Nat} (h : fz_is x t n) (hc : ¬ 0 ≤ FP.Core.signed t n) : fz_is (FP.dneg x) (t && n == 0) n := by
  cases t with
  | false =>
    rw [fz_sf] at hc
    omega
  | true =>
    rw [fz_st] at hc
    have h1 : (n == 0) = false := beq_eq_false_iff_ne.mpr (by omega)
    rw [h1]
    exact fz_neg h
set_option maxHeartbeats 4000000 in
set_option maxRecDepth 100000 in
/-- the size of a number; a zero keeps its sign -/
theorem c_X7_sizeOf (l : Launch) (x : UInt64) (t : Bool) (n : Nat) (h : fz_is x t n) : pu_M l yX7_sizeOf wsX7_sizeOf 0 0 [.double x] (fun _ => True) (fun w => ∃ r : UInt64, w = .double r ∧ fz_is r (t && n == 0) n) := by
  refine pu_ofW (cc := cX7_sizeOf) (maxL := 2) (ret := (some .double)) (by decide) rfl (fun p e s m below meth c hx hb hr hml hts hown hlocks hpre ls hl => ?_) (Nat.le_of_ble_eq_true rfl)
  have hl : lv_has ls 2 [(0, .double x)] := hl
  refine lv_dload_n hx hb dX7_sizeOf_0 rfl (lv_at hl 0 rfl) ?_
  refine lv_dconst0 hx hb dX7_sizeOf_1 ?_
  refine lv_dcmp hx hb dX7_sizeOf_2 ?_
  refine lv_topi (fun v1 ev1 => ?_)
  refine lv_if_ge (tgt := 11) hx hb dX7_sizeOf_3 (by decide) (fun c3 => ?_) (fun c3 => ?_)
  · have hc := (fz_c h fz_zero ev1).2.2.1.mp c3
    rw [fz_s0] at hc
    refine lv_dload_n hx hb dX7_sizeOf_11 rfl (lv_at hl 0 rfl) ?_
    exact W.dret (v := x) hx hb hr (fun t ht hW => ⟨_, rfl, ⟨_, rfl, sz_pos h hc⟩, ht⟩) (fun q hq => absurd hq List.not_mem_nil) dX7_sizeOf_12
  · have hc := (not_congr (fz_c h fz_zero ev1).2.2.1).mp c3
    rw [fz_s0] at hc
    refine lv_dload_n hx hb dX7_sizeOf_6 rfl (lv_at hl 0 rfl) ?_
    refine lv_dneg hx hb dX7_sizeOf_7 ?_
    refine lv_topd (fun v2 ev2 => ?_)
    refine lv_goto (tgt := 12) hx hb dX7_sizeOf_8 (by decide) ?_
    exact W.dret (v := v2) hx hb hr (fun t ht hW => ⟨_, rfl, ⟨_, rfl, by rw [ev2]; exact sz_neg h hc⟩, ht⟩) (fun q hq => absurd hq List.not_mem_nil) dX7_sizeOf_12
theorem ng_zero {x : UInt64} {t : Bool} (h : fz_is x t 0) : vf_n64 (FP.ddiv FP.dconst1 x) ∧ ∀ (v : Int32) (op : CmpOp), v = Op.cmpValue (FP.dcmp (FP.ddiv FP.dconst1 x) FP.dconst0) op → (0 ≤ v ↔ t = false) := by
  cases t with
  | false =>
    have hx : x = 0 := fz_uniq h fz_zero
    subst hx
    refine ⟨by unfold vf_n64; decide +kernel, fun v op ev => ?_⟩
    have h1 : FP.dcmp (FP.ddiv FP.dconst1 0) FP.dconst0 = some .gt := by decide +kernel
    rw [h1] at ev
    have h2 : v = 1 := by rw [ev]; cases op <;> rfl
    subst h2
    exact iff_of_true (by decide) rfl
  | true =>
    have hx : x = 9223372036854775808 := fz_uniq h ⟨⟨true, 0, _, FP.Core.val64_dzeroNeg⟩, by rw [show (9223372036854775808 : UInt64) = FP.Core.dzeroNeg from rfl, FP.Core.val64_dzeroNeg]; rfl, by rw [show (9223372036854775808 : UInt64) = FP.Core.dzeroNeg from rfl, FP.Core.val64_dzeroNeg]; exact Nat.zero_mul _⟩
    subst hx
    refine ⟨by unfold vf_n64; decide +kernel, fun v op ev => ?_⟩
    have h1 : FP.dcmp (FP.ddiv FP.dconst1 9223372036854775808) FP.dconst0 = some .lt := by decide +kernel
    rw [h1] at ev
    have h2 : v = -1 := by rw [ev]; cases op <;> rfl
    subst h2
    exact iff_of_false (by decide) (by decide)
set_option maxHeartbeats 4000000 in
set_option maxRecDepth 100000 in
/-- whether a number has the sign - -/
theorem c_X7_isNegative (l : Launch) (x : UInt64) (t : Bool) (n : Nat) (h : fz_is x t n) : pu_M l yX7_isNegative wsX7_isNegative 0 0 [.double x] (fun _ => True) (fun w => ∃ r : Int32, w = .int r ∧ r = if t then 1 else 0) := by
  refine pu_ofW (cc := cX7_isNegative) (maxL := 2) (ret := (some .boolean)) (by decide) rfl (fun p e s m below meth c hx hb hr hml hts hown hlocks hpre ls hl => ?_) (Nat.le_of_ble_eq_true rfl)
  have hl : lv_has ls 2 [(0, .double x)] := hl
  refine lv_dload_n hx hb dX7_isNegative_0 rfl (lv_at hl 0 rfl) ?_
  refine lv_dconst0 hx hb dX7_isNegative_1 ?_
  refine lv_dcmp hx hb dX7_isNegative_2 ?_
  refine lv_topi (fun v1 ev1 => ?_)
  refine lv_if_ne (tgt := 22) hx hb dX7_isNegative_3 (by decide) (fun c3 => ?_) (fun c3 => ?_)
  · have hn : ¬ n = 0 := fun q => c3 ((fz_c h fz_zero ev1).2.2.2.2.mpr (by rw [q, fz_s0, fz_s0]))
    refine lv_dload_n hx hb dX7_isNegative_22 rfl (lv_at hl 0 rfl) ?_
    refine lv_dconst0 hx hb dX7_isNegative_23 ?_
    refine lv_dcmp hx hb dX7_isNegative_24 ?_
    refine lv_topi (fun v2 ev2 => ?_)
    refine lv_if_ge (tgt := 32) hx hb dX7_isNegative_25 (by decide) (fun c25 => ?_) (fun c25 => ?_)
    · have ht : t = false := by
        have q := (fz_c h fz_zero ev2).2.2.1.mp c25
        cases t <;> simp only [fz_st, fz_sf] at q ⊢ <;> omega
      refine lv_iconst (v := 0) hx hb dX7_isNegative_32 (by decide) ?_
      exact W.zret (v := 0) hx hb hr (by decide) (fun t ht hW => ⟨_, rfl, ⟨_, rfl, by rw [ht]; rfl⟩, ht⟩) (fun q hq => absurd hq List.not_mem_nil) dX7_isNegative_33
    · have ht : ¬ t = false := by
        have q := (not_congr (fz_c h fz_zero ev2).2.2.1).mp c25
        cases t <;> simp only [fz_st, fz_sf] at q ⊢ <;> omega
      refine lv_iconst (v := 1) hx hb dX7_isNegative_28 (by decide) ?_
      refine lv_goto (tgt := 33) hx hb dX7_isNegative_29 (by decide) ?_
      exact W.zret (v := 1) hx hb hr (by decide) (fun t ht hW => ⟨_, rfl, ⟨_, rfl, by rw [Bool.not_eq_false _ |>.mp ht]; rfl⟩, ht⟩) (fun q hq => absurd hq List.not_mem_nil) dX7_isNegative_33
  · have hn : n = 0 := by
      have q := (fz_c h fz_zero ev1).2.2.2.2.mp (Decidable.not_not.mp c3)
      cases t <;> simp only [fz_st, fz_sf] at q <;> omega
    rw [hn] at h
    refine lv_dconst1 hx hb dX7_isNegative_6 ?_
    refine lv_dload_n hx hb dX7_isNegative_7 rfl (lv_at hl 0 rfl) ?_
    refine lv_ddiv hx hb dX7_isNegative_8 (ng_zero h).1 ?_
    refine lv_topd (fun v3 ev3 => ?_)
    refine lv_dconst0 hx hb dX7_isNegative_9 ?_
    refine lv_dcmp hx hb dX7_isNegative_10 ?_
    refine lv_topi (fun v4 ev4 => ?_)
    refine lv_if_ge (tgt := 18) hx hb dX7_isNegative_11 (by decide) (fun c11 => ?_) (fun c11 => ?_)
    · have ht := ((ng_zero h).2 _ _ ev3).mp c11
      refine lv_iconst (v := 0) hx hb dX7_isNegative_18 (by decide) ?_
      refine lv_goto (tgt := 33) hx hb dX7_isNegative_19 (by decide) ?_
      exact W.zret (v := 0) hx hb hr (by decide) (fun t ht hW => ⟨_, rfl, ⟨_, rfl, by rw [ht]; rfl⟩, ht⟩) (fun q hq => absurd hq List.not_mem_nil) dX7_isNegative_33
    · have ht := (not_congr ((ng_zero h).2 _ _ ev3)).mp c11
      refine lv_iconst (v := 1) hx hb dX7_isNegative_14 (by decide) ?_
      refine lv_goto (tgt := 33) hx hb dX7_isNegative_15 (by decide) ?_
      exact W.zret (v := 1) hx hb hr (by decide) (fun t ht hW => ⟨_, rfl, ⟨_, rfl, by rw [Bool.not_eq_false _ |>.mp ht]; rfl⟩, ht⟩) (fun q hq => absurd hq List.not_mem_nil) dX7_isNegative_33
set_option maxHeartbeats 4000000 in
set_option maxRecDepth 100000 in
/-- the least times the greatest power of two that is not above the whole -/
theorem c_X7_greatestPart (l : Launch) (b a : UInt64) (n m0 : Nat) (t : Bool) (h : fz_is b false n) (hn0 : n ≠ 0) (h2 : fz_is a t m0) (ht : FP.Core.signed t m0 = (m0 : Int)) : pu_M l yX7_greatestPart wsX7_greatestPart 0 0 [.double b, .double a] (fun _ => True) (fun w => ∃ (r : UInt64) (j : Nat), w = .double r ∧ fz_is r false (n * 2 ^ j) ∧ m0 < n * 2 ^ (j + 1) ∧ (j = 0 ∨ n * 2 ^ j ≤ m0)) := by
  refine pu_ofW (cc := cX7_greatestPart) (maxL := 10) (ret := (some .double)) (by decide) rfl (fun p e s m below meth c hx hb hr hml hts hown hlocks hpre ls hl => ?_) (Nat.le_of_ble_eq_true rfl)
  have hl : lv_has ls 10 [(0, .double b), (2, .double a)] := hl
  have hm := (fz_is_R h2).1
  have outer : ∀ (i : Nat), i < 7 → ∀ (part : UInt64) (j : Nat), fz_is part false (n * 2 ^ j) → (j = 0 ∨ n * 2 ^ j ≤ m0) → (i = 0 → m0 < n * 2 ^ (j + 1)) → ∀ ls : Array Slot, lv_has ls 10 [(6, .int (nI (2 ^ i / 2))), (4, .double part), (0, .double b), (2, .double a)] → pu_W p l e 0 0 s m [.double b, .double a].toArray below meth c (fun w => ∃ (r : UInt64) (j : Nat), w = .double r ∧ fz_is r false (n * 2 ^ j) ∧ m0 < n * 2 ^ (j + 1) ∧ (j = 0 ∨ n * 2 ^ j ≤ m0)) (F0 m 7 ls []) := by
    intro i
    induction i with
    | zero =>
      intro hi part j hp hj h0 ls hl
      refine lv_iload hx hb dX7_greatestPart_7 (lv_at hl 0 rfl) ?_
      refine lv_if_le (tgt := 62) hx hb dX7_greatestPart_9 (by decide) (fun c9 => ?_) (fun c9 => ?_)
      · refine lv_dload hx hb dX7_greatestPart_62 (lv_at hl 1 rfl) ?_
        exact W.dret (v := part) hx hb hr (fun t ht hW => ⟨_, rfl, ⟨_, _, rfl, hp, h0 rfl, hj⟩, ht⟩) (fun q hq => absurd hq List.not_mem_nil) dX7_greatestPart_64
      · exact absurd (by decide) c9
    | succ i ih =>
      intro hi part j hp hj h0 ls hl
      refine lv_iload hx hb dX7_greatestPart_7 (lv_at hl 0 rfl) ?_
      refine lv_if_le (tgt := 62) hx hb dX7_greatestPart_9 (by decide) (fun c9 => ?_) (fun c9 => ?_)
      · exact absurd c9 (sd_pos i (by omega))
      · refine lv_lconst (v := 1) hx hb dX7_greatestPart_12 (by decide) ?_
        refine lv_iload hx hb dX7_greatestPart_13 (lv_at hl 0 rfl) ?_
        refine lv_lshl hx hb dX7_greatestPart_15 rfl ?_
        refine lv_topl (fun v1 ev1 => ?_)
        refine lv_l2d hx hb dX7_greatestPart_16 ?_
        refine lv_topd (fun v2 ev2 => ?_)
        refine lv_dstore (lv' := [(7, .double v2), (6, .int (nI (2 ^ (i + 1) / 2))), (4, .double part), (0, .double b), (2, .double a)]) hx hb dX7_greatestPart_17 hl (by decide) rfl (fun ls hl => ?_)
        refine lv_iconst (v := 0) hx hb dX7_greatestPart_19 (by decide) ?_
        refine lv_istore (lv' := [(9, .int 0), (7, .double v2), (6, .int (nI (2 ^ (i + 1) / 2))), (4, .double part), (0, .double b), (2, .double a)]) hx hb dX7_greatestPart_20 hl (by decide) rfl (fun ls hl => ?_)
        have hpw : fz_is v2 false (2 ^ (1074 + 2 ^ (i + 1) / 2)) := by
          rw [ev2, ev1, sd_shl (i + 1) hi]
          exact sd_pow (by have := (sd_one i (by omega)).2; omega)
        have hsd := (sd_one i (by omega)).1
        obtain ⟨pw, hpwe⟩ : ∃ pw, pw = v2 := ⟨_, rfl⟩
        rw [← hpwe] at hpw hl
        have inner : ∀ (q k : Nat), k + q = 2100 → ∀ (part : UInt64) (j : Nat), fz_is part false (n * 2 ^ j) → (j = 0 ∨ n * 2 ^ j ≤ m0) → k ≤ j → ∀ ls : Array Slot, lv_has ls 10 [(9, .int (nI k)), (7, .double pw), (6, .int (nI (2 ^ (i + 1) / 2))), (4, .double part), (0, .double b), (2, .double a)] → pu_W p l e 0 0 s m [.double b, .double a].toArray below meth c (fun w => ∃ (r : UInt64) (j : Nat), w = .double r ∧ fz_is r false (n * 2 ^ j) ∧ m0 < n * 2 ^ (j + 1) ∧ (j = 0 ∨ n * 2 ^ j ≤ m0)) (F0 m 22 ls []) := by
          intro q
          induction q with
          | zero =>
            intro k hk part j hp hj hkj ls hl
            exfalso
            rcases hj with hj | hj
            · omega
            · have h5 : 2 ^ 2098 ≤ 2 ^ j := fz_pow_le (by omega)
              have h6 : 1 * 2 ^ j ≤ n * 2 ^ j := Nat.mul_le_mul_right _ (by omega)
              omega
          | succ q iq =>
            intro k hk part j hp hj hkj ls hl
            refine lv_iload hx hb dX7_greatestPart_22 (lv_at hl 0 rfl) ?_
            refine lv_sipush (v := 2100) hx hb dX7_greatestPart_24 (by decide) ?_
            refine lv_icmp_ge (tgt := 53) hx hb dX7_greatestPart_27 (by decide) (fun c27 => ?_) (fun c27 => ?_)
            · exact absurd c27 (nI_ge (by omega) (by decide))
            · refine lv_dload hx hb dX7_greatestPart_30 (lv_at hl 3 rfl) ?_
              refine lv_dload hx hb dX7_greatestPart_32 (lv_at hl 1 rfl) ?_
              refine lv_dmul hx hb dX7_greatestPart_34 (fz_mulcmp (op := .g) hp hpw h2 ht).1 ?_
              refine lv_topd (fun v101 ev101 => ?_)
              refine lv_dload_n hx hb dX7_greatestPart_35 rfl (lv_at hl 5 rfl) ?_
              refine lv_dcmp hx hb dX7_greatestPart_36 ?_
              refine lv_topi (fun v102 ev102 => ?_)
              refine lv_if_gt (tgt := 53) hx hb dX7_greatestPart_37 (by decide) (fun c37 => ?_) (fun c37 => ?_)
              · have hc := ((fz_mulcmp (op := .g) hp hpw h2 ht).2 _ (by rw [ev102, ev101])).mp c37
                rw [Nat.mul_assoc, ← Nat.pow_add] at hc
                refine lv_iload hx hb dX7_greatestPart_53 (lv_at hl 2 rfl) ?_
                refine lv_iconst (v := 2) hx hb dX7_greatestPart_55 (by decide) ?_
                refine lv_idiv hx hb dX7_greatestPart_56 (by decide) ?_
                refine lv_topi (fun v103 ev103 => ?_)
                refine lv_istore (lv' := [(6, .int v103), (9, .int (nI k)), (7, .double pw), (4, .double part), (0, .double b), (2, .double a)]) hx hb dX7_greatestPart_57 hl (by decide) rfl (fun ls hl => ?_)
                refine lv_goto (tgt := 7) hx hb dX7_greatestPart_59 (by decide) ?_
                have e7 : v103 = nI (2 ^ i / 2) := by rw [ev103]; exact sd_div i (by omega)
                rw [e7] at hl
                exact ih (by omega) part j hp hj (fun q => by subst q; exact hc) ls (lv_sub hl [0, 3, 4, 5] rfl)
              · have hc := (not_congr ((fz_mulcmp (op := .g) hp hpw h2 ht).2 _ (by rw [ev102, ev101]))).mp c37
                rw [Nat.mul_assoc, ← Nat.pow_add] at hc
                have hle : n * 2 ^ (j + 2 ^ (i + 1) / 2) ≤ m0 := Nat.le_of_not_lt hc
                have hR : fz_R (n * 2 ^ j * 2 ^ (2 ^ (i + 1) / 2)) := ⟨by rw [Nat.mul_assoc, ← Nat.pow_add]; omega, fz_C_mul _ (fz_is_R hp).2⟩
                have hp2 := fz_mul hp hpw hR
                rw [Nat.mul_assoc, ← Nat.pow_add] at hp2
                refine lv_dload hx hb dX7_greatestPart_40 (lv_at hl 3 rfl) ?_
                refine lv_dload hx hb dX7_greatestPart_42 (lv_at hl 1 rfl) ?_
                refine lv_dmul hx hb dX7_greatestPart_44 (fz_n hp2) ?_
                refine lv_topd (fun v104 ev104 => ?_)
                refine lv_dstore (lv' := [(4, .double v104), (9, .int (nI k)), (7, .double pw), (6, .int (nI (2 ^ (i + 1) / 2))), (0, .double b), (2, .double a)]) hx hb dX7_greatestPart_45 hl (by decide) rfl (fun ls hl => ?_)
                refine lv_iinc (v := (nI (k + 1))) (lv' := [(9, .int (nI (k + 1))), (4, .double v104), (7, .double pw), (6, .int (nI (2 ^ (i + 1) / 2))), (0, .double b), (2, .double a)]) hx hb dX7_greatestPart_47 hl (k := 1) rfl (nI_1 _) (by decide) rfl (fun ls hl => ?_)
                refine lv_goto (tgt := 22) hx hb dX7_greatestPart_50 (by decide) ?_
                exact iq (k + 1) (by omega) _ (j + 2 ^ (i + 1) / 2) (by rw [ev103]; exact hp2) (Or.inr hle) (by omega) ls (lv_sub hl [0, 2, 3, 1, 4, 5] rfl)
        exact inner 2100 0 rfl part j hp hj (Nat.zero_le _) ls (lv_sub hl [0, 1, 2, 3, 4, 5] rfl)
  refine lv_dload_n hx hb dX7_greatestPart_0 rfl (lv_at hl 0 rfl) ?_
  refine lv_dstore (lv' := [(4, .double b), (0, .double b), (2, .double a)]) hx hb dX7_greatestPart_1 hl (by decide) rfl (fun ls hl => ?_)
  refine lv_bipush (v := 32) hx hb dX7_greatestPart_3 (by decide) ?_
  refine lv_istore (lv' := [(6, .int 32), (4, .double b), (0, .double b), (2, .double a)]) hx hb dX7_greatestPart_5 hl (by decide) rfl (fun ls hl => ?_)
  exact outer 6 (by decide) b 0 (by rw [Nat.pow_zero, Nat.mul_one]; exact h) (Or.inl rfl) (fun q => absurd q (by decide)) ls (lv_sub hl [0, 1, 2, 3] rfl)
theorem fz_two : fz_is 4611686018427387904 false (2 ^ (1074 + 1)) := by
  have h := sd_pow (k := 1) (by decide)
  have h2 : FP.l2d (lN (2 ^ 1)) = 4611686018427387904 := by decide +kernel
  rw [h2] at h
  exact h
theorem fz_two_ok {a : UInt64} (h : FP.Core.val64 a ≠ .nan) : FP.Core.val64 (FP.ddiv a 4611686018427387904) ≠ .nan := by
  refine (FP.Core.notNaN_iff _).mp (FP.Core.ddiv_out ((FP.Core.notNaN_iff _).mpr h) fz_two.1 ?_)
  intro hz
  have h1 := (FP.Core.zero_bits2 _).mp hz
  exact absurd h1 (by decide)
theorem rs_end {x r : UInt64} {t : Bool} {n m a : Nat} (hr : fz_is r (t && n == 0) a) (ha : a < m) (he : a % m = n % m) : (0 ≤ FP.Core.signed t n → fz_is r t (n % m)) ∧ (¬ 0 ≤ FP.Core.signed t n → fz_is (FP.dneg r) t (n % m)) := by
  rw [Nat.mod_eq_of_lt ha] at he
  rw [← he]
  constructor
  · intro hc
    have : (t && n == 0) = t := by
      cases t with
      | false => rfl
      | true =>
        rw [fz_st] at hc
        have : n = 0 := by omega
        subst this
        rfl
    rw [this] at hr
    exact hr
  · intro hc
    cases t with
    | false =>
      rw [fz_sf] at hc
      omega
    | true =>
      rw [fz_st] at hc
      have h1 : (n == 0) = false := beq_eq_false_iff_ne.mpr (by omega)
      rw [h1] at hr
      exact fz_neg hr
set_option maxHeartbeats 4000000 in
set_option maxRecDepth 100000 in
/-- the exact rest, with the sign of the number -/
theorem c_X7_rest (l : Launch) (x y : UInt64) (t u : Bool) (n m0 : Nat) (h : fz_is x t n) (h2 : fz_is y u m0) (hm0 : m0 ≠ 0) : pu_M l yX7_rest wsX7_rest 1 29 [.double x, .double y] (fun _ => True) (fun w => ∃ r : UInt64, w = .double r ∧ fz_is r t (n % m0)) := by
  refine pu_ofW (cc := cX7_rest) (maxL := 11) (ret := (some .double)) (by decide) rfl (fun p e s m below meth c hx hb hr hml hts hown hlocks hpre ls hl => ?_) (Nat.le_of_ble_eq_true rfl)
  have hl : lv_has ls 11 [(0, .double x), (2, .double y)] := hl
  have exit69 : ∀ (left : UInt64) (a : Nat), fz_is left (t && n == 0) a → a < m0 → a % m0 = n % m0 → ∀ ls : Array Slot, lv_has ls 11 [(6, .double left), (0, .double x)] → pu_W p l e 1 29 s m [.double x, .double y].toArray below meth c (fun w => ∃ r : UInt64, w = .double r ∧ fz_is r t (n % m0)) (F0 m 69 ls []) := by
    intro left a ha halt hae ls hl
    refine lv_dload_n hx hb dX7_rest_69 rfl (lv_at hl 1 rfl) ?_
    refine lv_dconst0 hx hb dX7_rest_70 ?_
    refine lv_dcmp hx hb dX7_rest_71 ?_
    refine lv_topi (fun v1 ev1 => ?_)
    refine lv_if_ge (tgt := 81) hx hb dX7_rest_72 (by decide) (fun c72 => ?_) (fun c72 => ?_)
    · have hc := (fz_c h fz_zero ev1).2.2.1.mp c72
      rw [fz_s0] at hc
      refine lv_dload hx hb dX7_rest_81 (lv_at hl 0 rfl) ?_
      exact W.dret (v := left) hx hb hr (fun t ht hW => ⟨_, rfl, ⟨_, rfl, (rs_end (x := x) ha halt hae).1 hc⟩, ht⟩) (fun q hq => absurd hq List.not_mem_nil) dX7_rest_83
    · have hc := (not_congr (fz_c h fz_zero ev1).2.2.1).mp c72
      rw [fz_s0] at hc
      refine lv_dload hx hb dX7_rest_75 (lv_at hl 0 rfl) ?_
      refine lv_dneg hx hb dX7_rest_77 ?_
      refine lv_topd (fun v2 ev2 => ?_)
      refine lv_goto (tgt := 83) hx hb dX7_rest_78 (by decide) ?_
      exact W.dret (v := v2) hx hb hr (fun t ht hW => ⟨_, rfl, ⟨_, rfl, by rw [ev2]; exact (rs_end (x := x) ha halt hae).2 hc⟩, ht⟩) (fun q hq => absurd hq List.not_mem_nil) dX7_rest_83
  have loop : ∀ (least : UInt64), fz_is least false m0 → ∀ (q k : Nat), k + q = 2100 → ∀ (left part : UInt64) (a : Nat), fz_is left (t && n == 0) a → a % m0 = n % m0 → FP.Core.val64 part ≠ .nan → (m0 ≤ a → n ≠ 0 ∧ ∃ i : Nat, fz_is part false (m0 * 2 ^ i) ∧ a < m0 * 2 ^ (i + 1) ∧ k + i ≤ 2098) → ∀ ls : Array Slot, lv_has ls 11 [(10, .int (nI k)), (8, .double part), (6, .double left), (4, .double least), (0, .double x), (2, .double y)] → pu_W p l e 1 29 s m [.double x, .double y].toArray below meth c (fun w => ∃ r : UInt64, w = .double r ∧ fz_is r t (n % m0)) (F0 m 24 ls []) := by
    intro least hleast q
    induction q with
    | zero =>
      intro k hk left part a ha hae hnn hi ls hl
      have hk2 : k = 2100 := by omega
      subst hk2
      have halt : a < m0 := by
        rcases Nat.lt_or_ge a m0 with q | q
        · exact q
        · obtain ⟨_, i, _, _, h9⟩ := hi q
          omega
      refine lv_iload hx hb dX7_rest_24 (lv_at hl 0 rfl) ?_
      refine lv_sipush (v := 2100) hx hb dX7_rest_26 (by decide) ?_
      refine lv_icmp_ge (tgt := 69) hx hb dX7_rest_29 (by decide) (fun c29 => ?_) (fun c29 => ?_)
      · exact exit69 _ a ha halt hae ls (lv_sub hl [2, 4] rfl)
      · exact absurd (by decide) c29
    | succ q iq =>
      intro k hk left part a ha hae hnn hi ls hl
      refine lv_iload hx hb dX7_rest_24 (lv_at hl 0 rfl) ?_
      refine lv_sipush (v := 2100) hx hb dX7_rest_26 (by decide) ?_
      refine lv_icmp_ge (tgt := 69) hx hb dX7_rest_29 (by decide) (fun c29 => ?_) (fun c29 => ?_)
      · exact absurd c29 (nI_ge (by omega) (by decide))
      · refine lv_dload hx hb dX7_rest_32 (lv_at hl 2 rfl) ?_
        refine lv_dload hx hb dX7_rest_34 (lv_at hl 3 rfl) ?_
        refine lv_dcmp hx hb dX7_rest_36 ?_
        refine lv_topi (fun v101 ev101 => ?_)
        refine lv_if_lt (tgt := 69) hx hb dX7_rest_37 (by decide) (fun c37 => ?_) (fun c37 => ?_)
        · have hc := (fz_c ha hleast ev101).1.mp c37
          have halt : a < m0 := by
            rcases Nat.lt_or_ge a m0 with q | q
            · exact q
            · have hn0 := (hi q).1
              rw [beq_eq_false_iff_ne.mpr hn0, Bool.and_false, fz_sf, fz_sf] at hc
              omega
          exact exit69 _ a ha halt hae ls (lv_sub hl [2, 4] rfl)
        · have hc := (not_congr (fz_c ha hleast ev101).1).mp c37
          have hge : m0 ≤ a := by
            rw [fz_sf] at hc
            cases hb0 : (t && n == 0) with
            | false =>
              rw [hb0, fz_sf] at hc
              omega
            | true =>
              rw [hb0, fz_st] at hc
              omega
          obtain ⟨hn0, i, hpt, hai, hki⟩ := hi hge
          have hsg : (t && n == 0) = false := by rw [beq_eq_false_iff_ne.mpr hn0, Bool.and_false]
          have ha2 := ha
          rw [hsg] at ha2
          have hRp := fz_is_R hpt
          have half : ∀ a2 : Nat, a2 < m0 * 2 ^ i → m0 ≤ a2 → n ≠ 0 ∧ ∃ i2 : Nat, fz_is (FP.ddiv part 4611686018427387904) false (m0 * 2 ^ i2) ∧ a2 < m0 * 2 ^ (i2 + 1) ∧ k + 1 + i2 ≤ 2098 := by
            intro a2 h5 h6
            refine ⟨hn0, ?_⟩
            cases i with
            | zero =>
              rw [Nat.pow_zero, Nat.mul_one] at h5
              omega
            | succ i2 =>
              have e5 : m0 * 2 ^ (i2 + 1) = m0 * 2 ^ i2 * 2 ^ 1 := by rw [Nat.mul_assoc, ← Nat.pow_add]
              refine ⟨i2, ?_, h5, by omega⟩
              rw [e5] at hpt
              refine fz_div hpt fz_two ⟨?_, fz_C_mul _ (fz_is_R h2).2⟩
              have h7 := hRp.1
              have h8 : m0 * 2 ^ i2 ≤ m0 * 2 ^ (i2 + 1) := Nat.mul_le_mul_left _ (fz_pow_le (by omega))
              omega
          refine lv_dload hx hb dX7_rest_40 (lv_at hl 2 rfl) ?_
          refine lv_dload hx hb dX7_rest_42 (lv_at hl 1 rfl) ?_
          refine lv_dcmp hx hb dX7_rest_44 ?_
          refine lv_topi (fun v102 ev102 => ?_)
          refine lv_if_lt (tgt := 55) hx hb dX7_rest_45 (by decide) (fun c45 => ?_) (fun c45 => ?_)
          · have hd := (fz_c ha2 hpt ev102).1.mp c45
            rw [fz_sf, fz_sf] at hd
            refine lv_dload hx hb dX7_rest_55 (lv_at hl 1 rfl) ?_
            refine lv_ldc2d (v := (4611686018427387904)) hx hb hown (hts (.constantDouble RX7 27 (4611686018427387904)) (by decide +kernel)) dX7_rest_57 ?_
            refine lv_ddiv hx hb dX7_rest_60 (fz_nn (fz_two_ok hnn)) ?_
            refine lv_topd (fun v103 ev103 => ?_)
            refine lv_dstore (lv' := [(8, .double v103), (10, .int (nI k)), (6, .double left), (4, .double least), (0, .double x), (2, .double y)]) hx hb dX7_rest_61 hl (by decide) rfl (fun ls hl => ?_)
            refine lv_iinc (v := (nI (k + 1))) (lv' := [(10, .int (nI (k + 1))), (8, .double v103), (6, .double left), (4, .double least), (0, .double x), (2, .double y)]) hx hb dX7_rest_63 hl (k := 1) rfl (nI_1 _) (by decide) rfl (fun ls hl => ?_)
            refine lv_goto (tgt := 24) hx hb dX7_rest_66 (by decide) ?_
            exact iq (k + 1) (by omega) _ _ a ha hae (by rw [ev103]; exact fz_two_ok hnn) (by rw [ev103]; exact half a (by omega)) ls (lv_sub hl [0, 1, 2, 3, 4, 5] rfl)
          · have hd := (not_congr (fz_c ha2 hpt ev102).1).mp c45
            rw [fz_sf, fz_sf] at hd
            have hle : m0 * 2 ^ i ≤ a := by omega
            have hlt : a - m0 * 2 ^ i < m0 * 2 ^ i := by rw [Nat.pow_succ, ← Nat.mul_assoc] at hai; omega
            have hR5 : fz_R (a - m0 * 2 ^ i) := ⟨by have := (fz_is_R ha).1; omega, fz_C_sub (fz_is_R ha).2 hRp.2 hle (by omega)⟩
            have hsub := fz_sub ha2 hpt hle hR5
            rw [← hsg] at hsub
            refine lv_dload hx hb dX7_rest_48 (lv_at hl 2 rfl) ?_
            refine lv_dload hx hb dX7_rest_50 (lv_at hl 1 rfl) ?_
            refine lv_dsub hx hb dX7_rest_52 (fz_n hsub) ?_
            refine lv_topd (fun v104 ev104 => ?_)
            refine lv_dstore (lv' := [(6, .double v104), (10, .int (nI k)), (8, .double part), (4, .double least), (0, .double x), (2, .double y)]) hx hb dX7_rest_53 hl (by decide) rfl (fun ls hl => ?_)
            refine lv_dload hx hb dX7_rest_55 (lv_at hl 2 rfl) ?_
            refine lv_ldc2d (v := (4611686018427387904)) hx hb hown (hts (.constantDouble RX7 27 (4611686018427387904)) (by decide +kernel)) dX7_rest_57 ?_
            refine lv_ddiv hx hb dX7_rest_60 (fz_nn (fz_two_ok hnn)) ?_
            refine lv_topd (fun v105 ev105 => ?_)
            refine lv_dstore (lv' := [(8, .double v105), (6, .double v104), (10, .int (nI k)), (4, .double least), (0, .double x), (2, .double y)]) hx hb dX7_rest_61 hl (by decide) rfl (fun ls hl => ?_)
            refine lv_iinc (v := (nI (k + 1))) (lv' := [(10, .int (nI (k + 1))), (8, .double v105), (6, .double v104), (4, .double least), (0, .double x), (2, .double y)]) hx hb dX7_rest_63 hl (k := 2) rfl (nI_1 _) (by decide) rfl (fun ls hl => ?_)
            refine lv_goto (tgt := 24) hx hb dX7_rest_66 (by decide) ?_
            exact iq (k + 1) (by omega) _ _ (a - m0 * 2 ^ i) (by rw [ev104]; exact hsub) (by rw [Nat.sub_mul_mod hle]; exact hae) (by rw [ev105]; exact fz_two_ok hnn) (by rw [ev105]; exact half _ hlt) ls (lv_sub hl [0, 1, 2, 3, 4, 5] rfl)
  refine lv_dload_n hx hb dX7_rest_0 rfl (lv_at hl 1 rfl) ?_
  refine pu_call (va_runS (As := [.double y]) (rest := []) ⟨hx, hb, hml, hown, hts⟩ (c_X7_sizeOf l y u m0 h2) (va_cwS 1 hts gX7_rest_X7_sizeOf rfl rfl rfl (by decide +kernel) ⟨Nat.le_of_ble_eq_true rfl, Nat.le_of_ble_eq_true rfl⟩) ⟨pu_blind _, fun U hU hW => ⟨rfl, trivial⟩⟩ rfl rfl hl.1 rfl (lv_room (Nat.le_of_ble_eq_true rfl)) dX7_rest_1 ⟨Nat.zero_le _, Nat.zero_le _⟩) (fun w hw => ?_)
  obtain ⟨r1, rfl, hr1⟩ := hw
  have hr1 : fz_is r1 false m0 := by
    rw [beq_eq_false_iff_ne.mpr hm0, Bool.and_false] at hr1
    exact hr1
  refine lv_dstore (lv' := [(4, .double r1), (0, .double x), (2, .double y)]) hx hb dX7_rest_4 hl (by decide) rfl (fun ls hl => ?_)
  refine lv_dload_n hx hb dX7_rest_6 rfl (lv_at hl 1 rfl) ?_
  refine pu_call (va_runS (As := [.double x]) (rest := []) ⟨hx, hb, hml, hown, hts⟩ (c_X7_sizeOf l x t n h) (va_cwS 1 hts gX7_rest_X7_sizeOf rfl rfl rfl (by decide +kernel) ⟨Nat.le_of_ble_eq_true rfl, Nat.le_of_ble_eq_true rfl⟩) ⟨pu_blind _, fun U hU hW => ⟨rfl, trivial⟩⟩ rfl rfl hl.1 rfl (lv_room (Nat.le_of_ble_eq_true rfl)) dX7_rest_7 ⟨Nat.zero_le _, Nat.zero_le _⟩) (fun w hw => ?_)
  obtain ⟨r2, rfl, hr2⟩ := hw
  have hs2 : FP.Core.signed (t && n == 0) n = (n : Int) := by
    cases t with
    | false => rfl
    | true =>
      by_cases q : n = 0
      · subst q
        rfl
      · rw [beq_eq_false_iff_ne.mpr q]
        rfl
  refine lv_dstore (lv' := [(6, .double r2), (4, .double r1), (0, .double x), (2, .double y)]) hx hb dX7_rest_10 hl (by decide) rfl (fun ls hl => ?_)
  refine lv_dload hx hb dX7_rest_12 (lv_at hl 1 rfl) ?_
  refine lv_dload hx hb dX7_rest_14 (lv_at hl 0 rfl) ?_
  refine pu_call (va_runS (As := [.double r1, .double r2]) (rest := []) ⟨hx, hb, hml, hown, hts⟩ (c_X7_greatestPart l r1 r2 m0 n _ hr1 hm0 hr2 hs2) (va_cwS 2 hts gX7_rest_X7_greatestPart rfl rfl rfl (by decide +kernel) ⟨Nat.le_of_ble_eq_true rfl, Nat.le_of_ble_eq_true rfl⟩) ⟨pu_blind _, fun U hU hW => ⟨rfl, trivial⟩⟩ rfl rfl hl.1 rfl (lv_room (Nat.le_of_ble_eq_true rfl)) dX7_rest_16 ⟨Nat.zero_le _, Nat.zero_le _⟩) (fun w hw => ?_)
  obtain ⟨r3, j3, rfl, hr3, hr4, hr5⟩ := hw
  refine lv_dstore (lv' := [(8, .double r3), (6, .double r2), (4, .double r1), (0, .double x), (2, .double y)]) hx hb dX7_rest_19 hl (by decide) rfl (fun ls hl => ?_)
  refine lv_iconst (v := 0) hx hb dX7_rest_21 (by decide) ?_
  refine lv_istore (lv' := [(10, .int 0), (8, .double r3), (6, .double r2), (4, .double r1), (0, .double x), (2, .double y)]) hx hb dX7_rest_22 hl (by decide) rfl (fun ls hl => ?_)
  exact loop r1 hr1 2100 0 rfl r2 r3 n hr2 rfl hr3.1.ne_nan (fun hge => ⟨by omega, j3, hr3, hr4, by
    rcases hr5 with q | q
    · omega
    · have h7 := (fz_is_R h).1
      have h8 : 1 * 2 ^ j3 ≤ m0 * 2 ^ j3 := Nat.mul_le_mul_right _ (by omega)
      have h9 : 2 ^ j3 < 2 ^ 2098 := by omega
      have h10 := (Nat.pow_lt_pow_iff_right (by decide : 1 < 2)).mp h9
      omega⟩) ls (lv_sub hl [0, 1, 2, 3, 4, 5] rfl)
/-- where a scaling stands: n times 2^z is the goal g -/
def tp_at (n g : Nat) (z : Int) : Prop := (0 ≤ z → n * 2 ^ z.toNat = g) ∧ (z ≤ 0 → n = g * 2 ^ (-z).toNat)
theorem tp_up {n g k : Nat} {z : Int} (h : tp_at n g z) (hk : (k : Int) ≤ z) : tp_at (n * 2 ^ k) g (z - k) := by
  have h1 := h.1 (by omega)
  have e1 : n * 2 ^ k * 2 ^ (z - k).toNat = g := by
    rw [← h1, Nat.mul_assoc, ← Nat.pow_add]
    congr 2
    omega
  refine ⟨fun _ => e1, fun hz => ?_⟩
  have hz0 : z - k = 0 := by omega
  rw [hz0] at e1 ⊢
  simpa using e1
theorem tp_down {n g k : Nat} {z : Int} (h : tp_at n g z) (hk : z ≤ -(k : Int)) : n = g * 2 ^ (-(z + k)).toNat * 2 ^ k ∧ tp_at (g * 2 ^ (-(z + k)).toNat) g (z + k) := by
  have h1 := h.2 (by omega)
  refine ⟨?_, fun hz => ?_, fun _ => rfl⟩
  · rw [h1, Nat.mul_assoc, ← Nat.pow_add]
    congr 2
    omega
  · have hz0 : z + k = 0 := by omega
    rw [hz0]
    simp
theorem tp_R {n g : Nat} {z : Int} (h : tp_at n g z) (hn : fz_R n) (hg : fz_R g) {k : Nat} (hk : (k : Int) ≤ z) : fz_R (n * 2 ^ k) := by
  refine ⟨?_, fz_C_mul _ hn.2⟩
  have h1 := h.1 (by omega)
  have h2 : n * 2 ^ k ≤ n * 2 ^ z.toNat := Nat.mul_le_mul_left _ (fz_pow_le (by omega))
  have h3 := hg.1
  omega
theorem tp_Rd {n g : Nat} {z : Int} (hn : fz_R n) (hg : fz_R g) {k : Nat} (he : n = g * 2 ^ (-(z + k)).toNat * 2 ^ k) : fz_R (g * 2 ^ (-(z + k)).toNat) := by
  refine ⟨?_, fz_C_mul _ hg.2⟩
  have h1 := hn.1
  have h2 : g * 2 ^ (-(z + k)).toNat * 1 ≤ g * 2 ^ (-(z + k)).toNat * 2 ^ k := Nat.mul_le_mul_left _ (Nat.two_pow_pos k)
  omega
set_option maxHeartbeats 4000000 in
set_option maxRecDepth 100000 in
/-- a number times a power of two, where that is a number and none is lost on the way -/
theorem c_X7_timesPowerOfTwo (l : Launch) (x : UInt64) (t : Bool) (n g : Nat) (E : Int32) (h : fz_is x t n) (hE : tp_at n g E.toInt) (hb1 : -2000 ≤ E.toInt) (hb2 : E.toInt ≤ 2000) (hg : fz_R g) : pu_M l yX7_timesPowerOfTwo wsX7_timesPowerOfTwo 0 0 [.double x, .int E] (fun _ => True) (fun w => ∃ r : UInt64, w = .double r ∧ fz_is r t g) := by
  refine pu_ofW (cc := cX7_timesPowerOfTwo) (maxL := 9) (ret := (some .double)) (by decide) rfl (fun p e s m below meth c hx hb hr hml hts hown hlocks hpre ls hl => ?_) (Nat.le_of_ble_eq_true rfl)
  have hl : lv_has ls 9 [(0, .double x), (2, .int E)] := hl
  have outer : ∀ (i : Nat), i < 7 → ∀ (sc : UInt64) (n1 : Nat) (lf : Int32) , fz_is sc t n1 → tp_at n1 g lf.toInt → -2000 ≤ lf.toInt → lf.toInt ≤ 2000 → (i = 0 → lf.toInt = 0) → ∀ ls : Array Slot, lv_has ls 9 [(6, .int (nI (2 ^ i / 2))), (5, .int lf), (3, .double sc)] → pu_W p l e 0 0 s m [.double x, .int E].toArray below meth c (fun w => ∃ r : UInt64, w = .double r ∧ fz_is r t g) (F0 m 9 ls []) := by
    intro i
    induction i with
    | zero =>
      intro hi sc n1 lf hs ha hl1 hl2 h0 ls hl
      have e0 := h0 rfl
      have hn1 : n1 = g := by
        have := ha.1 (by omega)
        rw [e0] at this
        simpa using this
      subst hn1
      refine lv_iload hx hb dX7_timesPowerOfTwo_9 (lv_at hl 0 rfl) ?_
      refine lv_if_le (tgt := 75) hx hb dX7_timesPowerOfTwo_11 (by decide) (fun c11 => ?_) (fun c11 => ?_)
      · refine lv_dload_n hx hb dX7_timesPowerOfTwo_75 rfl (lv_at hl 2 rfl) ?_
        exact W.dret (v := sc) hx hb hr (fun t ht hW => ⟨_, rfl, ⟨_, rfl, hs⟩, ht⟩) (fun q hq => absurd hq List.not_mem_nil) dX7_timesPowerOfTwo_76
      · exact absurd (by decide) c11
    | succ i ih =>
      intro hi sc n1 lf hs ha hl1 hl2 h0 ls hl
      have hsd := sd_one i (by omega)
      have hti := sd_toInt (i + 1) hi
      refine lv_iload hx hb dX7_timesPowerOfTwo_9 (lv_at hl 0 rfl) ?_
      refine lv_if_le (tgt := 75) hx hb dX7_timesPowerOfTwo_11 (by decide) (fun c11 => ?_) (fun c11 => ?_)
      · exact absurd c11 (sd_pos i (by omega))
      · refine lv_lconst (v := 1) hx hb dX7_timesPowerOfTwo_14 (by decide) ?_
        refine lv_iload hx hb dX7_timesPowerOfTwo_15 (lv_at hl 0 rfl) ?_
        refine lv_lshl hx hb dX7_timesPowerOfTwo_17 rfl ?_
        refine lv_topl (fun v1 ev1 => ?_)
        refine lv_l2d hx hb dX7_timesPowerOfTwo_18 ?_
        refine lv_topd (fun v2 ev2 => ?_)
        refine lv_dstore (lv' := [(7, .double v2), (6, .int (nI (2 ^ (i + 1) / 2))), (5, .int lf), (3, .double sc)]) hx hb dX7_timesPowerOfTwo_19 hl (by decide) rfl (fun ls hl => ?_)
        have hpw : fz_is v2 false (2 ^ (1074 + 2 ^ (i + 1) / 2)) := by
          rw [ev2, ev1, sd_shl (i + 1) hi]
          exact sd_pow (by omega)
        obtain ⟨pw, hpwe⟩ : ∃ pw, pw = v2 := ⟨_, rfl⟩
        rw [← hpwe] at hpw hl
        have down : ∀ (q : Nat), ∀ (sc : UInt64) (n1 : Nat) (lf : Int32) , fz_is sc t n1 → tp_at n1 g lf.toInt → -2000 ≤ lf.toInt → lf.toInt ≤ 2000 → lf.toInt < ((2 ^ (i + 1) / 2 : Nat) : Int) → (-lf.toInt).toNat ≤ q → ∀ ls : Array Slot, lv_has ls 9 [(7, .double pw), (6, .int (nI (2 ^ (i + 1) / 2))), (5, .int lf), (3, .double sc)] → pu_W p l e 0 0 s m [.double x, .int E].toArray below meth c (fun w => ∃ r : UInt64, w = .double r ∧ fz_is r t g) (F0 m 43 ls []) := by
          intro q
          induction q with
          | zero =>
            intro sc n1 lf hs ha hl1 hl2 hlt hq ls hl
            refine lv_iload hx hb dX7_timesPowerOfTwo_43 (lv_at hl 2 rfl) ?_
            refine lv_iload hx hb dX7_timesPowerOfTwo_45 (lv_at hl 1 rfl) ?_
            refine lv_ineg hx hb dX7_timesPowerOfTwo_47 ?_
            refine lv_topi (fun v101 ev101 => ?_)
            refine lv_icmp_gt (tgt := 66) hx hb dX7_timesPowerOfTwo_48 (by decide) (fun c48 => ?_) (fun c48 => ?_)
            · have hc := ib_lt.mp c48
              rw [ev101, ib_neg (by omega), hti] at hc
              refine lv_iload hx hb dX7_timesPowerOfTwo_66 (lv_at hl 1 rfl) ?_
              refine lv_iconst (v := 2) hx hb dX7_timesPowerOfTwo_68 (by decide) ?_
              refine lv_idiv hx hb dX7_timesPowerOfTwo_69 (by decide) ?_
              refine lv_topi (fun v102 ev102 => ?_)
              refine lv_istore (lv' := [(6, .int v102), (7, .double pw), (5, .int lf), (3, .double sc)]) hx hb dX7_timesPowerOfTwo_70 hl (by decide) rfl (fun ls hl => ?_)
              refine lv_goto (tgt := 9) hx hb dX7_timesPowerOfTwo_72 (by decide) ?_
              have e7 : v102 = nI (2 ^ i / 2) := by rw [ev102]; exact sd_div i (by omega)
              rw [e7] at hl
              exact ih (by omega) sc n1 lf hs ha hl1 hl2 (fun q => by subst q; omega) ls (lv_sub hl [0, 2, 3] rfl)
            · have hc := (not_congr ib_lt).mp c48
              rw [ev101, ib_neg (by omega), hti] at hc
              omega
          | succ q iq =>
            intro sc n1 lf hs ha hl1 hl2 hlt hq ls hl
            refine lv_iload hx hb dX7_timesPowerOfTwo_43 (lv_at hl 2 rfl) ?_
            refine lv_iload hx hb dX7_timesPowerOfTwo_45 (lv_at hl 1 rfl) ?_
            refine lv_ineg hx hb dX7_timesPowerOfTwo_47 ?_
            refine lv_topi (fun v101 ev101 => ?_)
            refine lv_icmp_gt (tgt := 66) hx hb dX7_timesPowerOfTwo_48 (by decide) (fun c48 => ?_) (fun c48 => ?_)
            · have hc := ib_lt.mp c48
              rw [ev101, ib_neg (by omega), hti] at hc
              refine lv_iload hx hb dX7_timesPowerOfTwo_66 (lv_at hl 1 rfl) ?_
              refine lv_iconst (v := 2) hx hb dX7_timesPowerOfTwo_68 (by decide) ?_
              refine lv_idiv hx hb dX7_timesPowerOfTwo_69 (by decide) ?_
              refine lv_topi (fun v102 ev102 => ?_)
              refine lv_istore (lv' := [(6, .int v102), (7, .double pw), (5, .int lf), (3, .double sc)]) hx hb dX7_timesPowerOfTwo_70 hl (by decide) rfl (fun ls hl => ?_)
              refine lv_goto (tgt := 9) hx hb dX7_timesPowerOfTwo_72 (by decide) ?_
              have e7 : v102 = nI (2 ^ i / 2) := by rw [ev102]; exact sd_div i (by omega)
              rw [e7] at hl
              exact ih (by omega) sc n1 lf hs ha hl1 hl2 (fun q => by subst q; omega) ls (lv_sub hl [0, 2, 3] rfl)
            · have hc := (not_congr ib_lt).mp c48
              rw [ev101, ib_neg (by omega), hti] at hc
              obtain ⟨e5, ha5⟩ := tp_down ha (k := 2 ^ (i + 1) / 2) (by omega)
              have hR5 := tp_Rd (fz_is_R hs) hg e5
              have hs5 : fz_is (FP.ddiv sc pw) t (g * 2 ^ (-(lf.toInt + ((2 ^ (i + 1) / 2 : Nat) : Int))).toNat) := fz_div (by rw [← e5]; exact hs) hpw hR5
              refine lv_dload_n hx hb dX7_timesPowerOfTwo_51 rfl (lv_at hl 3 rfl) ?_
              refine lv_dload hx hb dX7_timesPowerOfTwo_52 (lv_at hl 0 rfl) ?_
              refine lv_ddiv hx hb dX7_timesPowerOfTwo_54 (fz_n hs5) ?_
              refine lv_topd (fun v103 ev103 => ?_)
              refine lv_dstore_n (lv' := [(3, .double v103), (7, .double pw), (6, .int (nI (2 ^ (i + 1) / 2))), (5, .int lf)]) hx hb dX7_timesPowerOfTwo_55 rfl hl (by decide) rfl (fun ls hl => ?_)
              refine lv_iload hx hb dX7_timesPowerOfTwo_56 (lv_at hl 3 rfl) ?_
              refine lv_iload hx hb dX7_timesPowerOfTwo_58 (lv_at hl 2 rfl) ?_
              refine lv_iadd hx hb dX7_timesPowerOfTwo_60 ?_
              refine lv_topi (fun v104 ev104 => ?_)
              refine lv_istore (lv' := [(5, .int v104), (3, .double v103), (7, .double pw), (6, .int (nI (2 ^ (i + 1) / 2)))]) hx hb dX7_timesPowerOfTwo_61 hl (by decide) rfl (fun ls hl => ?_)
              refine lv_goto (tgt := 43) hx hb dX7_timesPowerOfTwo_63 (by decide) ?_
              have e8 : v104.toInt = lf.toInt + ((2 ^ (i + 1) / 2 : Nat) : Int) := by rw [ev104, ib_add (by omega) (by omega), hti]
              exact iq _ _ v104 (by rw [ev103]; exact hs5) (by rw [e8]; exact ha5) (by omega) (by omega) (by omega) (by omega) ls (lv_sub hl [2, 3, 0, 1] rfl)
        have up : ∀ (q : Nat), ∀ (sc : UInt64) (n1 : Nat) (lf : Int32) , fz_is sc t n1 → tp_at n1 g lf.toInt → -2000 ≤ lf.toInt → lf.toInt ≤ 2000 → lf.toInt.toNat ≤ q → ∀ ls : Array Slot, lv_has ls 9 [(7, .double pw), (6, .int (nI (2 ^ (i + 1) / 2))), (5, .int lf), (3, .double sc)] → pu_W p l e 0 0 s m [.double x, .int E].toArray below meth c (fun w => ∃ r : UInt64, w = .double r ∧ fz_is r t g) (F0 m 21 ls []) := by
          intro q
          induction q with
          | zero =>
            intro sc n1 lf hs ha hl1 hl2 hq ls hl
            refine lv_iload hx hb dX7_timesPowerOfTwo_21 (lv_at hl 2 rfl) ?_
            refine lv_iload hx hb dX7_timesPowerOfTwo_23 (lv_at hl 1 rfl) ?_
            refine lv_icmp_lt (tgt := 43) hx hb dX7_timesPowerOfTwo_25 (by decide) (fun c25 => ?_) (fun c25 => ?_)
            · have hc := ib_lt.mp c25
              rw [hti] at hc
              exact down _ sc n1 lf hs ha hl1 hl2 hc (Nat.le_refl _) ls (lv_sub hl [0, 1, 2, 3] rfl)
            · have hc := (not_congr ib_lt).mp c25
              rw [hti] at hc
              omega
          | succ q iq =>
            intro sc n1 lf hs ha hl1 hl2 hq ls hl
            refine lv_iload hx hb dX7_timesPowerOfTwo_21 (lv_at hl 2 rfl) ?_
            refine lv_iload hx hb dX7_timesPowerOfTwo_23 (lv_at hl 1 rfl) ?_
            refine lv_icmp_lt (tgt := 43) hx hb dX7_timesPowerOfTwo_25 (by decide) (fun c25 => ?_) (fun c25 => ?_)
            · have hc := ib_lt.mp c25
              rw [hti] at hc
              exact down _ sc n1 lf hs ha hl1 hl2 hc (Nat.le_refl _) ls (lv_sub hl [0, 1, 2, 3] rfl)
            · have hc := (not_congr ib_lt).mp c25
              rw [hti] at hc
              have hs5 := fz_mul hs hpw (tp_R ha (fz_is_R hs) hg (by omega))
              have ha5 := tp_up ha (k := 2 ^ (i + 1) / 2) (by omega)
              refine lv_dload_n hx hb dX7_timesPowerOfTwo_28 rfl (lv_at hl 3 rfl) ?_
              refine lv_dload hx hb dX7_timesPowerOfTwo_29 (lv_at hl 0 rfl) ?_
              refine lv_dmul hx hb dX7_timesPowerOfTwo_31 (fz_n hs5) ?_
              refine lv_topd (fun v201 ev201 => ?_)
              refine lv_dstore_n (lv' := [(3, .double v201), (7, .double pw), (6, .int (nI (2 ^ (i + 1) / 2))), (5, .int lf)]) hx hb dX7_timesPowerOfTwo_32 rfl hl (by decide) rfl (fun ls hl => ?_)
              refine lv_iload hx hb dX7_timesPowerOfTwo_33 (lv_at hl 3 rfl) ?_
              refine lv_iload hx hb dX7_timesPowerOfTwo_35 (lv_at hl 2 rfl) ?_
              refine lv_isub hx hb dX7_timesPowerOfTwo_37 ?_
              refine lv_topi (fun v202 ev202 => ?_)
              refine lv_istore (lv' := [(5, .int v202), (3, .double v201), (7, .double pw), (6, .int (nI (2 ^ (i + 1) / 2)))]) hx hb dX7_timesPowerOfTwo_38 hl (by decide) rfl (fun ls hl => ?_)
              refine lv_goto (tgt := 21) hx hb dX7_timesPowerOfTwo_40 (by decide) ?_
              have e8 : v202.toInt = lf.toInt - ((2 ^ (i + 1) / 2 : Nat) : Int) := by rw [ev202, ib_sub (by omega) (by omega), hti]
              exact iq _ _ v202 (by rw [ev201]; exact hs5) (by rw [e8]; exact ha5) (by omega) (by omega) (by omega) ls (lv_sub hl [2, 3, 0, 1] rfl)
        exact up _ sc n1 lf hs ha hl1 hl2 (Nat.le_refl _) ls (lv_sub hl [0, 1, 2, 3] rfl)
  refine lv_dload_n hx hb dX7_timesPowerOfTwo_0 rfl (lv_at hl 0 rfl) ?_
  refine lv_dstore_n (lv' := [(3, .double x), (0, .double x), (2, .int E)]) hx hb dX7_timesPowerOfTwo_1 rfl hl (by decide) rfl (fun ls hl => ?_)
  refine lv_iload_n hx hb dX7_timesPowerOfTwo_2 rfl (lv_at hl 2 rfl) ?_
  refine lv_istore (lv' := [(5, .int E), (3, .double x), (0, .double x), (2, .int E)]) hx hb dX7_timesPowerOfTwo_3 hl (by decide) rfl (fun ls hl => ?_)
  refine lv_bipush (v := 32) hx hb dX7_timesPowerOfTwo_5 (by decide) ?_
  refine lv_istore (lv' := [(6, .int 32), (5, .int E), (3, .double x), (0, .double x), (2, .int E)]) hx hb dX7_timesPowerOfTwo_7 hl (by decide) rfl (fun ls hl => ?_)
  exact outer 6 (by decide) x n E h hE hb1 hb2 (fun q => absurd q (by decide)) ls (lv_sub hl [0, 1, 2] rfl)
theorem eb_field {n k q : Nat} {mk : Int32} (hn : n < 2 ^ 64) (hk : k < 64) (hm : mk.toBitVec.toNat = 2 ^ q - 1) (hq : q ≤ 32) : ((lN n).toUInt64 >>> ((nI k).toInt64.toUInt64 &&& Int64.toUInt64 63)).toInt64.toInt32 &&& mk = nI (n / 2 ^ k % 2 ^ q) := by
  rw [wb_shr hn hk, lN_i, ib_mask hm hq]
set_option maxHeartbeats 4000000 in
set_option maxRecDepth 100000 in
theorem c_X7_exponentField_w (l : Launch) (cv : Int32) (n : Nat) (hcv : ¬ cv = 0) (hn : n < 2 ^ 64) : pu_M l yX7_exponentField wsX7_exponentField 0 0 [.int cv, .long (lN n)] (fun _ => True) (fun w => ∃ r : Int32, w = .int r ∧ r = nI (n / 2 ^ 52 % 2 ^ 11)) := by
  refine pu_ofW (cc := cX7_exponentField) (maxL := 3) (ret := (some .int)) (by decide) rfl (fun p e s m below meth c hx hb hr hml hts hown hlocks hpre ls hl => ?_) (Nat.le_of_ble_eq_true rfl)
  have hl : lv_has ls 3 [(0, .int cv), (1, .long (lN n))] := hl
  refine lv_iload_n hx hb dX7_exponentField_0 rfl (lv_at hl 0 rfl) ?_
  refine lv_if_eq (tgt := 16) hx hb dX7_exponentField_1 (by decide) (fun c1 => ?_) (fun c1 => ?_)
  · exact absurd c1 hcv
  · refine lv_lload_n hx hb dX7_exponentField_4 rfl (lv_at hl 1 rfl) ?_
    refine lv_bipush (v := 52) hx hb dX7_exponentField_5 (by decide) ?_
    refine lv_lushr hx hb dX7_exponentField_7 rfl ?_
    refine lv_topl (fun v1 ev1 => ?_)
    refine lv_l2i hx hb dX7_exponentField_8 rfl ?_
    refine lv_topi (fun v2 ev2 => ?_)
    refine lv_sipush (v := 2047) hx hb dX7_exponentField_9 (by decide) ?_
    refine lv_iand hx hb dX7_exponentField_12 ?_
    refine lv_topi (fun v3 ev3 => ?_)
    refine lv_goto (tgt := 25) hx hb dX7_exponentField_13 (by decide) ?_
    exact W.iret (v := v3) hx hb hr (fun t ht hW => ⟨_, rfl, ⟨_, rfl, by rw [ev3, ev2, ev1]; exact eb_field (k := 52) (q := 11) hn (by decide) (by decide) (by decide)⟩, ht⟩) (fun q hq => absurd hq List.not_mem_nil) dX7_exponentField_25
set_option maxHeartbeats 4000000 in
set_option maxRecDepth 100000 in
theorem c_X7_isNumber_w (l : Launch) (cv : Int32) (n : Nat) (hcv : ¬ cv = 0) (hn : n < 2 ^ 64) : pu_M l yX7_isNumber wsX7_isNumber 1 22 [.int cv, .long (lN n)] (fun _ => True) (fun w => ∃ r : Int32, w = .int r ∧ r = if n / 2 ^ 52 % 2 ^ 11 = 2047 then 0 else 1) := by
  refine pu_ofW (cc := cX7_isNumber) (maxL := 3) (ret := (some .boolean)) (by decide) rfl (fun p e s m below meth c hx hb hr hml hts hown hlocks hpre ls hl => ?_) (Nat.le_of_ble_eq_true rfl)
  have hl : lv_has ls 3 [(0, .int cv), (1, .long (lN n))] := hl
  refine lv_iload_n hx hb dX7_isNumber_0 rfl (lv_at hl 0 rfl) ?_
  refine lv_lload_n hx hb dX7_isNumber_1 rfl (lv_at hl 1 rfl) ?_
  refine pu_call (va_runS (As := [.int cv, .long (lN n)]) (rest := []) ⟨hx, hb, hml, hown, hts⟩ (c_X7_exponentField_w l cv n hcv hn) (va_cwS 2 hts gX7_isNumber_X7_exponentField rfl rfl rfl (by decide +kernel) ⟨Nat.le_of_ble_eq_true rfl, Nat.le_of_ble_eq_true rfl⟩) ⟨pu_blind _, fun U hU hW => ⟨rfl, trivial⟩⟩ rfl rfl hl.1 rfl (lv_room (Nat.le_of_ble_eq_true rfl)) dX7_isNumber_2 ⟨Nat.zero_le _, Nat.zero_le _⟩) (fun w hw => ?_)
  obtain ⟨r1, rfl, hr1⟩ := hw
  refine lv_iload_n hx hb dX7_isNumber_5 rfl (lv_at hl 0 rfl) ?_
  refine lv_if_eq (tgt := 15) hx hb dX7_isNumber_6 (by decide) (fun c6 => ?_) (fun c6 => ?_)
  · exact absurd c6 hcv
  · refine lv_sipush (v := 2047) hx hb dX7_isNumber_9 (by decide) ?_
    refine lv_goto (tgt := 18) hx hb dX7_isNumber_12 (by decide) ?_
    refine lv_icmp_eq (tgt := 25) hx hb dX7_isNumber_18 (by decide) (fun c18 => ?_) (fun c18 => ?_)
    · have hq : n / 2 ^ 52 % 2 ^ 11 = 2047 := (nI_eq (Nat.lt_trans (Nat.mod_lt _ (by decide)) (by decide)) (by decide)).mp (hr1.symm.trans c18)
      refine lv_iconst (v := 0) hx hb dX7_isNumber_25 (by decide) ?_
      exact W.zret (v := 0) hx hb hr (by decide) (fun t ht hW => ⟨_, rfl, ⟨_, rfl, by rw [if_pos hq]⟩, ht⟩) (fun q hq => absurd hq List.not_mem_nil) dX7_isNumber_26
    · have hq : ¬ n / 2 ^ 52 % 2 ^ 11 = 2047 := fun q => c18 (by rw [hr1, q]; rfl)
      refine lv_iconst (v := 1) hx hb dX7_isNumber_21 (by decide) ?_
      refine lv_goto (tgt := 26) hx hb dX7_isNumber_22 (by decide) ?_
      exact W.zret (v := 1) hx hb hr (by decide) (fun t ht hW => ⟨_, rfl, ⟨_, rfl, by rw [if_neg hq]⟩, ht⟩) (fun q hq => absurd hq List.not_mem_nil) dX7_isNumber_26
set_option maxHeartbeats 4000000 in
set_option maxRecDepth 100000 in
theorem c_X7_exponentField_n (l : Launch) (cv : Int32) (n : Nat) (hcv : cv = 0) (hn : n < 2 ^ 64) : pu_M l yX7_exponentField wsX7_exponentField 0 0 [.int cv, .long (lN n)] (fun _ => True) (fun w => ∃ r : Int32, w = .int r ∧ r = nI (n / 2 ^ 23 % 2 ^ 8)) := by
  refine pu_ofW (cc := cX7_exponentField) (maxL := 3) (ret := (some .int)) (by decide) rfl (fun p e s m below meth c hx hb hr hml hts hown hlocks hpre ls hl => ?_) (Nat.le_of_ble_eq_true rfl)
  have hl : lv_has ls 3 [(0, .int cv), (1, .long (lN n))] := hl
  refine lv_iload_n hx hb dX7_exponentField_0 rfl (lv_at hl 0 rfl) ?_
  refine lv_if_eq (tgt := 16) hx hb dX7_exponentField_1 (by decide) (fun c1 => ?_) (fun c1 => ?_)
  · refine lv_lload_n hx hb dX7_exponentField_16 rfl (lv_at hl 1 rfl) ?_
    refine lv_bipush (v := 23) hx hb dX7_exponentField_17 (by decide) ?_
    refine lv_lushr hx hb dX7_exponentField_19 rfl ?_
    refine lv_topl (fun v1 ev1 => ?_)
    refine lv_l2i hx hb dX7_exponentField_20 rfl ?_
    refine lv_topi (fun v2 ev2 => ?_)
    refine lv_sipush (v := 255) hx hb dX7_exponentField_21 (by decide) ?_
    refine lv_iand hx hb dX7_exponentField_24 ?_
    refine lv_topi (fun v3 ev3 => ?_)
    exact W.iret (v := v3) hx hb hr (fun t ht hW => ⟨_, rfl, ⟨_, rfl, by rw [ev3, ev2, ev1]; exact eb_field (k := 23) (q := 8) hn (by decide) (by decide) (by decide)⟩, ht⟩) (fun q hq => absurd hq List.not_mem_nil) dX7_exponentField_25
  · exact absurd hcv c1
set_option maxHeartbeats 4000000 in
set_option maxRecDepth 100000 in
theorem c_X7_isNumber_n (l : Launch) (cv : Int32) (n : Nat) (hcv : cv = 0) (hn : n < 2 ^ 64) : pu_M l yX7_isNumber wsX7_isNumber 1 22 [.int cv, .long (lN n)] (fun _ => True) (fun w => ∃ r : Int32, w = .int r ∧ r = if n / 2 ^ 23 % 2 ^ 8 = 255 then 0 else 1) := by
  refine pu_ofW (cc := cX7_isNumber) (maxL := 3) (ret := (some .boolean)) (by decide) rfl (fun p e s m below meth c hx hb hr hml hts hown hlocks hpre ls hl => ?_) (Nat.le_of_ble_eq_true rfl)
  have hl : lv_has ls 3 [(0, .int cv), (1, .long (lN n))] := hl
  refine lv_iload_n hx hb dX7_isNumber_0 rfl (lv_at hl 0 rfl) ?_
  refine lv_lload_n hx hb dX7_isNumber_1 rfl (lv_at hl 1 rfl) ?_
  refine pu_call (va_runS (As := [.int cv, .long (lN n)]) (rest := []) ⟨hx, hb, hml, hown, hts⟩ (c_X7_exponentField_n l cv n hcv hn) (va_cwS 2 hts gX7_isNumber_X7_exponentField rfl rfl rfl (by decide +kernel) ⟨Nat.le_of_ble_eq_true rfl, Nat.le_of_ble_eq_true rfl⟩) ⟨pu_blind _, fun U hU hW => ⟨rfl, trivial⟩⟩ rfl rfl hl.1 rfl (lv_room (Nat.le_of_ble_eq_true rfl)) dX7_isNumber_2 ⟨Nat.zero_le _, Nat.zero_le _⟩) (fun w hw => ?_)
  obtain ⟨r1, rfl, hr1⟩ := hw
  refine lv_iload_n hx hb dX7_isNumber_5 rfl (lv_at hl 0 rfl) ?_
  refine lv_if_eq (tgt := 15) hx hb dX7_isNumber_6 (by decide) (fun c6 => ?_) (fun c6 => ?_)
  · refine lv_sipush (v := 255) hx hb dX7_isNumber_15 (by decide) ?_
    refine lv_icmp_eq (tgt := 25) hx hb dX7_isNumber_18 (by decide) (fun c18 => ?_) (fun c18 => ?_)
    · have hq : n / 2 ^ 23 % 2 ^ 8 = 255 := (nI_eq (Nat.lt_trans (Nat.mod_lt _ (by decide)) (by decide)) (by decide)).mp (hr1.symm.trans c18)
      refine lv_iconst (v := 0) hx hb dX7_isNumber_25 (by decide) ?_
      exact W.zret (v := 0) hx hb hr (by decide) (fun t ht hW => ⟨_, rfl, ⟨_, rfl, by rw [if_pos hq]⟩, ht⟩) (fun q hq => absurd hq List.not_mem_nil) dX7_isNumber_26
    · have hq : ¬ n / 2 ^ 23 % 2 ^ 8 = 255 := fun q => c18 (by rw [hr1, q]; rfl)
      refine lv_iconst (v := 1) hx hb dX7_isNumber_21 (by decide) ?_
      refine lv_goto (tgt := 26) hx hb dX7_isNumber_22 (by decide) ?_
      exact W.zret (v := 1) hx hb hr (by decide) (fun t ht hW => ⟨_, rfl, ⟨_, rfl, by rw [if_neg hq]⟩, ht⟩) (fun q hq => absurd hq List.not_mem_nil) dX7_isNumber_26
  · exact absurd hcv c6
/-- the magnitude that a field f and a fraction tell -/
def fb_W (P f q : Nat) : Nat := if f = 0 then q else q + 2 ^ P
def fb_m (f : Nat) : Nat := if f = 0 then 1 else f
theorem fb_W_lt {P f q : Nat} (hq : q < 2 ^ P) : fb_W P f q < 2 ^ (P + 1) := by
  unfold fb_W
  rw [Nat.pow_succ]
  split <;> omega
theorem fb_m_in {f E : Nat} (h : f < E) (hE : 1 < E) : 1 ≤ fb_m f ∧ fb_m f < E := by
  unfold fb_m
  split <;> omega
theorem fb_units {f : FP.Core.Fmt} {P m : Nat} (hP : f.tails = 2 ^ P) : FP.Core.unitsOf f m = fb_W P (m / 2 ^ P) (m % 2 ^ P) * 2 ^ (fb_m (m / 2 ^ P) - 1) := by
  unfold FP.Core.unitsOf fb_W fb_m
  rw [hP]
  have hp := Nat.two_pow_pos P
  by_cases h : m < 2 ^ P
  · have h0 : m / 2 ^ P = 0 := Nat.div_eq_of_lt h
    rw [if_pos h, if_pos h0, if_pos h0, Nat.mod_eq_of_lt h]
    simp
  · have h0 : ¬ m / 2 ^ P = 0 := by
      intro q
      rw [Nat.div_eq_zero_iff] at q
      omega
    rw [if_neg h, if_neg h0, if_neg h0, Nat.add_comm]
theorem fb_tp {W F mf : Nat} (h1 : 1 ≤ mf) (hF : F ≤ 1075) : tp_at (W * 2 ^ 1074) (W * 2 ^ (mf + 1074 - F)) ((mf : Int) - (F : Int)) := by
  constructor
  · intro hz
    rw [Nat.mul_assoc, ← Nat.pow_add]
    congr 2
    omega
  · intro hz
    rw [Nat.mul_assoc, ← Nat.pow_add]
    congr 2
    omega
theorem fb_R {W e : Nat} (hW : W < 2 ^ 53) (he : e ≤ 2045) : fz_R (W * 2 ^ e) := by
  refine ⟨?_, W, e, hW, rfl⟩
  calc W * 2 ^ e < 2 ^ 53 * 2 ^ e := Nat.mul_lt_mul_of_pos_right hW (Nat.two_pow_pos _)
    _ = 2 ^ (53 + e) := (Nat.pow_add 2 53 e).symm
    _ ≤ 2 ^ 2098 := fz_pow_le (by omega)
theorem fb_max {f : Nat} (h : f < 2048) : (if (1 : Int32) < nI f then nI f else 1) = nI (fb_m f) := by
  unfold fb_m
  by_cases h0 : f = 0
  · subst h0
    decide
  · rw [if_neg h0]
    by_cases h1 : f = 1
    · subst h1
      decide
    · rw [if_pos ((nI_ltI (a := 1) (by decide) (by omega)).mpr (by omega))]
theorem fb_wide {n : Nat} (hn : n < 2 ^ 64) (hf : ¬ n / 2 ^ 52 % 2 ^ 11 = 2047) : fz_is (UInt64.ofNat n) (decide (2 ^ 63 ≤ n)) (fb_W 52 (n / 2 ^ 52 % 2 ^ 11) (n % 2 ^ 52) * 2 ^ (fb_m (n / 2 ^ 52 % 2 ^ 11) - 1)) := by
  have ht : (UInt64.ofNat n).toNat = n := Nat.mod_eq_of_lt hn
  have hfin : FP.Core.DFin (UInt64.ofNat n) := (FP.Core.fin_bits _).mpr (by rw [ht]; omega)
  have h1 := FP.Core.sgn_bits hfin.ne_nan
  have h2 := FP.Core.zmag_bits hfin.ne_nan
  rw [ht] at h1 h2
  refine ⟨hfin, h1, ?_⟩
  rw [h2, fb_units (P := 52) FP.Core.tails_b64, show n % 2 ^ 63 / 2 ^ 52 = n / 2 ^ 52 % 2 ^ 11 by omega, show n % 2 ^ 63 % 2 ^ 52 = n % 2 ^ 52 by omega]
theorem fz_f2d {u : UInt32} (h : FP.Core.FFin u) : fz_is (FP.f2d u) (FP.Core.sgn (FP.Core.val32 u)) (FP.Core.zmag FP.Core.b32 (FP.Core.val32 u) * 2 ^ 925) := by
  rw [FP.f2d_core h.notNaN]
  obtain ⟨s, c, q, hv⟩ := h
  have hf := FP.Core.val32_fits u
  rw [hv] at hf ⊢
  obtain ⟨hc, hq1, hq2, -⟩ := hf
  rw [FP.Core.qmin_b32] at hq1
  rw [show FP.Core.b32.qmax = 104 by decide] at hq2
  have hc2 : c < 2 ^ 24 := hc
  have he : FP.Core.zmag FP.Core.b32 (.fin s c q) * 2 ^ 925 = c * 2 ^ (q + 1074).toNat := by
    show c * 2 ^ (q - FP.Core.b32.qmin).toNat * 2 ^ 925 = _
    rw [FP.Core.qmin_b32, Nat.mul_assoc, ← Nat.pow_add]
    congr 2
    omega
  rw [he]
  refine fz_of (fb_R (by omega) (by omega)) ?_
  rw [FP.Core.val64_f2d, hv]
  exact (fz_round s _ c q (q + 1074).toNat (by omega) rfl).symm
theorem fb_narrow {n : Nat} (hf : ¬ n / 2 ^ 23 % 2 ^ 8 = 255) : FP.Core.FFin (UInt32.ofNat n) ∧ fz_is (FP.f2d (UInt32.ofNat n)) (decide (2 ^ 31 ≤ n % 2 ^ 32)) (fb_W 23 (n / 2 ^ 23 % 2 ^ 8) (n % 2 ^ 23) * 2 ^ (fb_m (n / 2 ^ 23 % 2 ^ 8) + 924)) := by
  have ht : (UInt32.ofNat n).toNat = n % 2 ^ 32 := rfl
  have hfin : FP.Core.FFin (UInt32.ofNat n) := (FP.Core.fin_bits32 _).mpr (by rw [ht]; omega)
  have h1 := FP.Core.sgn_bits32 hfin.ne_nan
  have h2 := FP.Core.zmag_bits32 hfin.ne_nan
  rw [ht] at h1 h2
  refine ⟨hfin, ?_⟩
  have h3 := fz_f2d hfin
  rw [h1, h2, fb_units (P := 23) FP.Core.tails_b32, show n % 2 ^ 32 % 2 ^ 31 / 2 ^ 23 = n / 2 ^ 23 % 2 ^ 8 by omega, show n % 2 ^ 32 % 2 ^ 31 % 2 ^ 23 = n % 2 ^ 23 by omega, Nat.mul_assoc, ← Nat.pow_add] at h3
  have h4 := (fb_m_in (f := n / 2 ^ 23 % 2 ^ 8) (E := 256) (by omega) (by decide)).1
  rw [show fb_m (n / 2 ^ 23 % 2 ^ 8) - 1 + 925 = fb_m (n / 2 ^ 23 % 2 ^ 8) + 924 by omega] at h3
  exact h3
set_option maxHeartbeats 4000000 in
set_option maxRecDepth 100000 in
/-- the number that bits tell -/
theorem c_X7_fromBits_w (l : Launch) (cv : Int32) (n : Nat) (hcv : ¬ cv = 0) (hn : n < 2 ^ 64) (hfin : ¬ n / 2 ^ 52 % 2 ^ 11 = 2047) : pu_M l yX7_fromBits wsX7_fromBits 1 28 [.int cv, .long (lN n)] (fun _ => True) (fun w => ∃ r : UInt64, w = .double r ∧ r = UInt64.ofNat n) := by
  refine pu_ofW (cc := cX7_fromBits) (maxL := 14) (ret := (some .double)) (by decide) rfl (fun p e s m below meth c hx hb hr hml hts hown hlocks hpre ls hl => ?_) (Nat.le_of_ble_eq_true rfl)
  have hl : lv_has ls 14 [(0, .int cv), (1, .long (lN n))] := hl
  have hf : n / 2 ^ 52 % 2 ^ 11 < 2047 := by omega
  have hres := fb_wide hn hfin
  obtain ⟨f, hfe⟩ : ∃ f, f = n / 2 ^ 52 % 2 ^ 11 := ⟨_, rfl⟩
  rw [← hfe] at hf hres
  have hmf := fb_m_in hf (by decide)
  have hWl : fb_W 52 f (n % 2 ^ 52) < 2 ^ 53 := fb_W_lt (Nat.mod_lt _ (by decide))
  have tail42 : ∀ wv : Int64, wv = lN (fb_W 52 f (n % 2 ^ 52)) → ∀ ls : Array Slot, lv_has ls 14 [(7, .int (nI f)), (0, .int cv), (1, .long (lN n))] → pu_W p l e 1 28 s m [.int cv, .long (lN n)].toArray below meth c (fun w => ∃ r : UInt64, w = .double r ∧ r = UInt64.ofNat n) (F0 m 42 ls [.long wv]) := by
    intro wv hwv ls hl
    refine lv_lstore (lv' := [(8, .long wv), (7, .int (nI f)), (0, .int cv), (1, .long (lN n))]) hx hb dX7_fromBits_42 hl (by decide) rfl (fun ls hl => ?_)
    refine lv_iconst (v := 1) hx hb dX7_fromBits_44 (by decide) ?_
    refine lv_iload hx hb dX7_fromBits_45 (lv_at hl 1 rfl) ?_
    refine va_mmax hx hb (hml.trans hl.1.symm) hown (hts (.methodLink RX7 13 Lib.Math.max.name) (by decide +kernel)) (hts (.static Lib.Math.max.name) (by decide +kernel)) (hts (.initialized "java/lang/Math") (by decide +kernel)) (hts _ (List.mem_of_getElem? (i := 4) rfl)) (Nat.le_of_ble_eq_true rfl) (Nat.le_of_ble_eq_true rfl) (Nat.le_refl _) (Nat.le_refl _) dX7_fromBits_47 ?_
    rw [fb_max (f := f) (by omega)]
    refine lv_iload_n hx hb dX7_fromBits_50 rfl (lv_at hl 2 rfl) ?_
    refine lv_if_eq (tgt := 60) hx hb dX7_fromBits_51 (by decide) (fun c51 => ?_) (fun c51 => ?_)
    · exact absurd c51 hcv
    · refine lv_sipush (v := 1075) hx hb dX7_fromBits_54 (by decide) ?_
      refine lv_goto (tgt := 63) hx hb dX7_fromBits_57 (by decide) ?_
      refine lv_isub hx hb dX7_fromBits_63 ?_
      refine lv_topi (fun v1 ev1 => ?_)
      refine lv_istore (lv' := [(10, .int v1), (8, .long wv), (7, .int (nI f)), (0, .int cv), (1, .long (lN n))]) hx hb dX7_fromBits_64 hl (by decide) rfl (fun ls hl => ?_)
      refine lv_lload hx hb dX7_fromBits_66 (lv_at hl 1 rfl) ?_
      refine lv_l2d hx hb dX7_fromBits_68 ?_
      refine lv_topd (fun v2 ev2 => ?_)
      refine lv_iload hx hb dX7_fromBits_69 (lv_at hl 0 rfl) ?_
      have hE : v1.toInt = (fb_m f : Int) - 1075 := by
        have q1 : (nI (fb_m f)).toInt = (fb_m f : Int) := nI_toInt (by omega)
        rw [ev1, ib_sub (by rw [q1]; show -2 ^ 31 ≤ (fb_m f : Int) - 1075; omega) (by rw [q1]; show (fb_m f : Int) - 1075 < 2 ^ 31; omega), q1]
        rfl
      have hd : fz_is v2 false (fb_W 52 f (n % 2 ^ 52) * 2 ^ 1074) := by
        rw [ev2, hwv]
        exact fz_l2d (by omega)
      have htp := fb_tp (W := fb_W 52 f (n % 2 ^ 52)) (F := 1075) hmf.1 (by decide)
      have hg := fb_R (W := fb_W 52 f (n % 2 ^ 52)) (e := fb_m f + 1074 - 1075) (by omega) (by omega)
      refine pu_call (va_runS (As := [.double v2, .int v1]) (rest := []) ⟨hx, hb, hml, hown, hts⟩ (c_X7_timesPowerOfTwo l v2 false _ _ v1 hd (by rw [hE]; exact htp) (by omega) (by omega) hg) (va_cwS 2 hts gX7_fromBits_X7_timesPowerOfTwo rfl rfl rfl (by decide +kernel) ⟨Nat.le_of_ble_eq_true rfl, Nat.le_of_ble_eq_true rfl⟩) ⟨pu_blind _, fun U hU hW => ⟨rfl, trivial⟩⟩ rfl rfl hl.1 rfl (lv_room (Nat.le_of_ble_eq_true rfl)) dX7_fromBits_71 ⟨Nat.zero_le _, Nat.zero_le _⟩) (fun w hw => ?_)
      obtain ⟨r9, rfl, hr9⟩ := hw
      refine lv_dstore (lv' := [(11, .double r9), (10, .int v1), (8, .long wv), (7, .int (nI f)), (0, .int cv), (1, .long (lN n))]) hx hb dX7_fromBits_74 hl (by decide) rfl (fun ls hl => ?_)
      refine lv_iload_n hx hb dX7_fromBits_76 rfl (lv_at hl 4 rfl) ?_
      refine lv_if_eq (tgt := 94) hx hb dX7_fromBits_77 (by decide) (fun c77 => ?_) (fun c77 => ?_)
      · exact absurd c77 hcv
      · refine lv_lload_n hx hb dX7_fromBits_80 rfl (lv_at hl 5 rfl) ?_
        refine lv_lconst (v := 0) hx hb dX7_fromBits_81 (by decide) ?_
        refine W.lcmp hx hb dX7_fromBits_82 ?_
        refine lv_topi (fun v3 ev3 => ?_)
        refine lv_if_ge (tgt := 90) hx hb dX7_fromBits_83 (by decide) (fun c83 => ?_) (fun c83 => ?_)
        · have hsg : decide (2 ^ 63 ≤ n) = false := by
            rw [ev3 , lg_cmp_ge, Int64.le_iff_toInt_le, pk_ti hn] at c83
            exact decide_eq_false (by by_cases q : n < 2 ^ 63 <;> simp only [q, if_true, if_false] at c83 <;> first | omega | (have h0 : (0 : Int64).toInt = 0 := rfl; omega))
          refine lv_iconst (v := 0) hx hb dX7_fromBits_90 (by decide) ?_
          refine lv_goto (tgt := 104) hx hb dX7_fromBits_91 (by decide) ?_
          refine lv_istore (lv' := [(13, .int 0), (11, .double r9), (10, .int v1), (8, .long wv), (7, .int (nI f)), (0, .int cv), (1, .long (lN n))]) hx hb dX7_fromBits_104 hl (by decide) rfl (fun ls hl => ?_)
          refine lv_iload hx hb dX7_fromBits_106 (lv_at hl 0 rfl) ?_
          refine lv_if_eq (tgt := 117) hx hb dX7_fromBits_108 (by decide) (fun c108 => ?_) (fun c108 => ?_)
          · refine lv_dload hx hb dX7_fromBits_117 (lv_at hl 1 rfl) ?_
            exact W.dret (v := r9) hx hb hr (fun t ht hW => ⟨_, rfl, ⟨_, rfl, fz_uniq hr9 (by rw [hsg] at hres; exact hres)⟩, ht⟩) (fun q hq => absurd hq List.not_mem_nil) dX7_fromBits_119
          · exact absurd rfl c108
        · have hsg : decide (2 ^ 63 ≤ n) = true := by
            rw [ev3 , lg_cmp_ge, Int64.le_iff_toInt_le, pk_ti hn] at c83
            exact decide_eq_true (by by_cases q : n < 2 ^ 63 <;> simp only [q, if_true, if_false] at c83 <;> first | omega | (have h0 : (0 : Int64).toInt = 0 := rfl; omega))
          refine lv_iconst (v := 1) hx hb dX7_fromBits_86 (by decide) ?_
          refine lv_goto (tgt := 104) hx hb dX7_fromBits_87 (by decide) ?_
          refine lv_istore (lv' := [(13, .int 1), (11, .double r9), (10, .int v1), (8, .long wv), (7, .int (nI f)), (0, .int cv), (1, .long (lN n))]) hx hb dX7_fromBits_104 hl (by decide) rfl (fun ls hl => ?_)
          refine lv_iload hx hb dX7_fromBits_106 (lv_at hl 0 rfl) ?_
          refine lv_if_eq (tgt := 117) hx hb dX7_fromBits_108 (by decide) (fun c108 => ?_) (fun c108 => ?_)
          · exact absurd c108 (by decide)
          · refine lv_dload hx hb dX7_fromBits_111 (lv_at hl 1 rfl) ?_
            refine lv_dneg hx hb dX7_fromBits_113 ?_
            refine lv_topd (fun v4 ev4 => ?_)
            refine lv_goto (tgt := 119) hx hb dX7_fromBits_114 (by decide) ?_
            exact W.dret (v := v4) hx hb hr (fun t ht hW => ⟨_, rfl, ⟨_, rfl, fz_uniq (by rw [ev4]; exact fz_neg hr9) (by rw [hsg] at hres; exact hres)⟩, ht⟩) (fun q hq => absurd hq List.not_mem_nil) dX7_fromBits_119
  refine lv_lconst (v := 1) hx hb dX7_fromBits_0 (by decide) ?_
  refine lv_iload_n hx hb dX7_fromBits_1 rfl (lv_at hl 0 rfl) ?_
  refine lv_if_eq (tgt := 10) hx hb dX7_fromBits_2 (by decide) (fun c2 => ?_) (fun c2 => ?_)
  · exact absurd c2 hcv
  · refine lv_bipush (v := 52) hx hb dX7_fromBits_5 (by decide) ?_
    refine lv_goto (tgt := 12) hx hb dX7_fromBits_7 (by decide) ?_
    refine lv_lshl hx hb dX7_fromBits_12 rfl ?_
    refine lv_topl (fun v1 ev1 => ?_)
    refine lv_lstore_n (lv' := [(3, .long v1), (0, .int cv), (1, .long (lN n))]) hx hb dX7_fromBits_13 rfl hl (by decide) rfl (fun ls hl => ?_)
    refine lv_lload_n hx hb dX7_fromBits_14 rfl (lv_at hl 2 rfl) ?_
    refine lv_lload_n hx hb dX7_fromBits_15 rfl (lv_at hl 0 rfl) ?_
    refine lv_lconst (v := 1) hx hb dX7_fromBits_16 (by decide) ?_
    refine lv_lsub hx hb dX7_fromBits_17 ?_
    refine lv_topl (fun v2 ev2 => ?_)
    refine lv_land hx hb dX7_fromBits_18 ?_
    refine lv_topl (fun v3 ev3 => ?_)
    refine lv_lstore (lv' := [(5, .long v3), (3, .long v1), (0, .int cv), (1, .long (lN n))]) hx hb dX7_fromBits_19 hl (by decide) rfl (fun ls hl => ?_)
    refine lv_iload_n hx hb dX7_fromBits_21 rfl (lv_at hl 2 rfl) ?_
    refine lv_lload_n hx hb dX7_fromBits_22 rfl (lv_at hl 3 rfl) ?_
    refine pu_call (va_runS (As := [.int cv, .long (lN n)]) (rest := []) ⟨hx, hb, hml, hown, hts⟩ (c_X7_exponentField_w l cv n hcv hn) (va_cwS 2 hts gX7_fromBits_X7_exponentField rfl rfl rfl (by decide +kernel) ⟨Nat.le_of_ble_eq_true rfl, Nat.le_of_ble_eq_true rfl⟩) ⟨pu_blind _, fun U hU hW => ⟨rfl, trivial⟩⟩ rfl rfl hl.1 rfl (lv_room (Nat.le_of_ble_eq_true rfl)) dX7_fromBits_23 ⟨Nat.zero_le _, Nat.zero_le _⟩) (fun w hw => ?_)
    obtain ⟨r1, rfl, hr1⟩ := hw
    rw [← hfe] at hr1
    subst hr1
    refine lv_istore (lv' := [(7, .int (nI f)), (5, .long v3), (3, .long v1), (0, .int cv), (1, .long (lN n))]) hx hb dX7_fromBits_26 hl (by decide) rfl (fun ls hl => ?_)
    refine lv_iload hx hb dX7_fromBits_28 (lv_at hl 0 rfl) ?_
    refine lv_if_ne (tgt := 38) hx hb dX7_fromBits_30 (by decide) (fun c30 => ?_) (fun c30 => ?_)
    · have hc30 : ¬ f = 0 := fun q => c30 (by rw [q]; rfl)
      refine lv_lload hx hb dX7_fromBits_38 (lv_at hl 1 rfl) ?_
      refine lv_lload_n hx hb dX7_fromBits_40 rfl (lv_at hl 2 rfl) ?_
      refine lv_lor hx hb dX7_fromBits_41 ?_
      refine lv_topl (fun v4 ev4 => ?_)
      refine tail42 v4 ?_ ls (lv_sub hl [0, 3, 4] rfl)
      have q1 : v1 = lN (2 ^ 52) := by rw [ev1]; decide
      have q2 : v2 = lN (2 ^ 52 - 1) := by rw [ev2, q1]; decide
      have q3 : v3 = lN (n % 2 ^ 52) := by rw [ev3, q2]; exact wb_mask hn (by decide)
      rw [ev4, q3, q1]
      unfold fb_W
      rw [if_neg hc30]
      have q4 := g_or' (k := 52) (p := 2 ^ 52) (a := n % 2 ^ 52) (b := 1) rfl (Nat.mod_lt _ (by decide)) (by omega)
      rw [Nat.one_mul] at q4
      exact q4
    · have hc30 : f = 0 := (nI_eq (by omega) (by decide)).mp (Decidable.not_not.mp c30)
      refine lv_lload hx hb dX7_fromBits_33 (lv_at hl 1 rfl) ?_
      refine lv_goto (tgt := 42) hx hb dX7_fromBits_35 (by decide) ?_
      refine tail42 v3 ?_ ls (lv_sub hl [0, 3, 4] rfl)
      have q1 : v1 = lN (2 ^ 52) := by rw [ev1]; decide
      have q2 : v2 = lN (2 ^ 52 - 1) := by rw [ev2, q1]; decide
      have q3 : v3 = lN (n % 2 ^ 52) := by rw [ev3, q2]; exact wb_mask hn (by decide)
      rw [q3]
      unfold fb_W
      rw [if_pos hc30]
set_option maxHeartbeats 4000000 in
set_option maxRecDepth 100000 in
/-- the number that bits tell -/
theorem c_X7_fromBits_n (l : Launch) (cv : Int32) (n : Nat) (hcv : cv = 0) (hn : n < 2 ^ 64) (hfin : ¬ n / 2 ^ 23 % 2 ^ 8 = 255) : pu_M l yX7_fromBits wsX7_fromBits 1 28 [.int cv, .long (lN n)] (fun _ => True) (fun w => ∃ r : UInt64, w = .double r ∧ r = FP.f2d (UInt32.ofNat n)) := by
  refine pu_ofW (cc := cX7_fromBits) (maxL := 14) (ret := (some .double)) (by decide) rfl (fun p e s m below meth c hx hb hr hml hts hown hlocks hpre ls hl => ?_) (Nat.le_of_ble_eq_true rfl)
  have hl : lv_has ls 14 [(0, .int cv), (1, .long (lN n))] := hl
  have hf : n / 2 ^ 23 % 2 ^ 8 < 255 := by omega
  have hres := (fb_narrow hfin).2
  obtain ⟨f, hfe⟩ : ∃ f, f = n / 2 ^ 23 % 2 ^ 8 := ⟨_, rfl⟩
  rw [← hfe] at hf hres
  have hmf := fb_m_in hf (by decide)
  have hWl : fb_W 23 f (n % 2 ^ 23) < 2 ^ 24 := fb_W_lt (Nat.mod_lt _ (by decide))
  have tail42 : ∀ wv : Int64, wv = lN (fb_W 23 f (n % 2 ^ 23)) → ∀ ls : Array Slot, lv_has ls 14 [(7, .int (nI f)), (0, .int cv), (1, .long (lN n))] → pu_W p l e 1 28 s m [.int cv, .long (lN n)].toArray below meth c (fun w => ∃ r : UInt64, w = .double r ∧ r = FP.f2d (UInt32.ofNat n)) (F0 m 42 ls [.long wv]) := by
    intro wv hwv ls hl
    refine lv_lstore (lv' := [(8, .long wv), (7, .int (nI f)), (0, .int cv), (1, .long (lN n))]) hx hb dX7_fromBits_42 hl (by decide) rfl (fun ls hl => ?_)
    refine lv_iconst (v := 1) hx hb dX7_fromBits_44 (by decide) ?_
    refine lv_iload hx hb dX7_fromBits_45 (lv_at hl 1 rfl) ?_
    refine va_mmax hx hb (hml.trans hl.1.symm) hown (hts (.methodLink RX7 13 Lib.Math.max.name) (by decide +kernel)) (hts (.static Lib.Math.max.name) (by decide +kernel)) (hts (.initialized "java/lang/Math") (by decide +kernel)) (hts _ (List.mem_of_getElem? (i := 4) rfl)) (Nat.le_of_ble_eq_true rfl) (Nat.le_of_ble_eq_true rfl) (Nat.le_refl _) (Nat.le_refl _) dX7_fromBits_47 ?_
    rw [fb_max (f := f) (by omega)]
    refine lv_iload_n hx hb dX7_fromBits_50 rfl (lv_at hl 2 rfl) ?_
    refine lv_if_eq (tgt := 60) hx hb dX7_fromBits_51 (by decide) (fun c51 => ?_) (fun c51 => ?_)
    · refine lv_sipush (v := 150) hx hb dX7_fromBits_60 (by decide) ?_
      refine lv_isub hx hb dX7_fromBits_63 ?_
      refine lv_topi (fun v1 ev1 => ?_)
      refine lv_istore (lv' := [(10, .int v1), (8, .long wv), (7, .int (nI f)), (0, .int cv), (1, .long (lN n))]) hx hb dX7_fromBits_64 hl (by decide) rfl (fun ls hl => ?_)
      refine lv_lload hx hb dX7_fromBits_66 (lv_at hl 1 rfl) ?_
      refine lv_l2d hx hb dX7_fromBits_68 ?_
      refine lv_topd (fun v2 ev2 => ?_)
      refine lv_iload hx hb dX7_fromBits_69 (lv_at hl 0 rfl) ?_
      have hE : v1.toInt = (fb_m f : Int) - 150 := by
        have q1 : (nI (fb_m f)).toInt = (fb_m f : Int) := nI_toInt (by omega)
        rw [ev1, ib_sub (by rw [q1]; show -2 ^ 31 ≤ (fb_m f : Int) - 150; omega) (by rw [q1]; show (fb_m f : Int) - 150 < 2 ^ 31; omega), q1]
        rfl
      have hd : fz_is v2 false (fb_W 23 f (n % 2 ^ 23) * 2 ^ 1074) := by
        rw [ev2, hwv]
        exact fz_l2d (by omega)
      have htp := fb_tp (W := fb_W 23 f (n % 2 ^ 23)) (F := 150) hmf.1 (by decide)
      have hg := fb_R (W := fb_W 23 f (n % 2 ^ 23)) (e := fb_m f + 1074 - 150) (by omega) (by omega)
      refine pu_call (va_runS (As := [.double v2, .int v1]) (rest := []) ⟨hx, hb, hml, hown, hts⟩ (c_X7_timesPowerOfTwo l v2 false _ _ v1 hd (by rw [hE]; exact htp) (by omega) (by omega) hg) (va_cwS 2 hts gX7_fromBits_X7_timesPowerOfTwo rfl rfl rfl (by decide +kernel) ⟨Nat.le_of_ble_eq_true rfl, Nat.le_of_ble_eq_true rfl⟩) ⟨pu_blind _, fun U hU hW => ⟨rfl, trivial⟩⟩ rfl rfl hl.1 rfl (lv_room (Nat.le_of_ble_eq_true rfl)) dX7_fromBits_71 ⟨Nat.zero_le _, Nat.zero_le _⟩) (fun w hw => ?_)
      obtain ⟨r9, rfl, hr9⟩ := hw
      refine lv_dstore (lv' := [(11, .double r9), (10, .int v1), (8, .long wv), (7, .int (nI f)), (0, .int cv), (1, .long (lN n))]) hx hb dX7_fromBits_74 hl (by decide) rfl (fun ls hl => ?_)
      refine lv_iload_n hx hb dX7_fromBits_76 rfl (lv_at hl 4 rfl) ?_
      refine lv_if_eq (tgt := 94) hx hb dX7_fromBits_77 (by decide) (fun c77 => ?_) (fun c77 => ?_)
      · refine lv_lload_n hx hb dX7_fromBits_94 rfl (lv_at hl 5 rfl) ?_
        refine lv_l2i hx hb dX7_fromBits_95 rfl ?_
        refine lv_topi (fun v3 ev3 => ?_)
        refine lv_if_ge (tgt := 103) hx hb dX7_fromBits_96 (by decide) (fun c96 => ?_) (fun c96 => ?_)
        · have hsg : decide (2 ^ 31 ≤ n % 2 ^ 32) = false := by
            rw [ev3, lN_i, ib_le, pk_ti32] at c96
            exact decide_eq_false (by by_cases q : n % 2 ^ 32 < 2 ^ 31 <;> simp only [q, if_true, if_false] at c96 <;> first | omega | (have h0 : (0 : Int32).toInt = 0 := rfl; omega))
          refine lv_iconst (v := 0) hx hb dX7_fromBits_103 (by decide) ?_
          refine lv_istore (lv' := [(13, .int 0), (11, .double r9), (10, .int v1), (8, .long wv), (7, .int (nI f)), (0, .int cv), (1, .long (lN n))]) hx hb dX7_fromBits_104 hl (by decide) rfl (fun ls hl => ?_)
          refine lv_iload hx hb dX7_fromBits_106 (lv_at hl 0 rfl) ?_
          refine lv_if_eq (tgt := 117) hx hb dX7_fromBits_108 (by decide) (fun c108 => ?_) (fun c108 => ?_)
          · refine lv_dload hx hb dX7_fromBits_117 (lv_at hl 1 rfl) ?_
            exact W.dret (v := r9) hx hb hr (fun t ht hW => ⟨_, rfl, ⟨_, rfl, fz_uniq hr9 (by rw [hsg] at hres; exact hres)⟩, ht⟩) (fun q hq => absurd hq List.not_mem_nil) dX7_fromBits_119
          · exact absurd rfl c108
        · have hsg : decide (2 ^ 31 ≤ n % 2 ^ 32) = true := by
            rw [ev3, lN_i, ib_le, pk_ti32] at c96
            exact decide_eq_true (by by_cases q : n % 2 ^ 32 < 2 ^ 31 <;> simp only [q, if_true, if_false] at c96 <;> first | omega | (have h0 : (0 : Int32).toInt = 0 := rfl; omega))
          refine lv_iconst (v := 1) hx hb dX7_fromBits_99 (by decide) ?_
          refine lv_goto (tgt := 104) hx hb dX7_fromBits_100 (by decide) ?_
          refine lv_istore (lv' := [(13, .int 1), (11, .double r9), (10, .int v1), (8, .long wv), (7, .int (nI f)), (0, .int cv), (1, .long (lN n))]) hx hb dX7_fromBits_104 hl (by decide) rfl (fun ls hl => ?_)
          refine lv_iload hx hb dX7_fromBits_106 (lv_at hl 0 rfl) ?_
          refine lv_if_eq (tgt := 117) hx hb dX7_fromBits_108 (by decide) (fun c108 => ?_) (fun c108 => ?_)
          · exact absurd c108 (by decide)
          · refine lv_dload hx hb dX7_fromBits_111 (lv_at hl 1 rfl) ?_
            refine lv_dneg hx hb dX7_fromBits_113 ?_
            refine lv_topd (fun v4 ev4 => ?_)
            refine lv_goto (tgt := 119) hx hb dX7_fromBits_114 (by decide) ?_
            exact W.dret (v := v4) hx hb hr (fun t ht hW => ⟨_, rfl, ⟨_, rfl, fz_uniq (by rw [ev4]; exact fz_neg hr9) (by rw [hsg] at hres; exact hres)⟩, ht⟩) (fun q hq => absurd hq List.not_mem_nil) dX7_fromBits_119
      · exact absurd hcv c77
    · exact absurd hcv c51
  refine lv_lconst (v := 1) hx hb dX7_fromBits_0 (by decide) ?_
  refine lv_iload_n hx hb dX7_fromBits_1 rfl (lv_at hl 0 rfl) ?_
  refine lv_if_eq (tgt := 10) hx hb dX7_fromBits_2 (by decide) (fun c2 => ?_) (fun c2 => ?_)
  · refine lv_bipush (v := 23) hx hb dX7_fromBits_10 (by decide) ?_
    refine lv_lshl hx hb dX7_fromBits_12 rfl ?_
    refine lv_topl (fun v1 ev1 => ?_)
    refine lv_lstore_n (lv' := [(3, .long v1), (0, .int cv), (1, .long (lN n))]) hx hb dX7_fromBits_13 rfl hl (by decide) rfl (fun ls hl => ?_)
    refine lv_lload_n hx hb dX7_fromBits_14 rfl (lv_at hl 2 rfl) ?_
    refine lv_lload_n hx hb dX7_fromBits_15 rfl (lv_at hl 0 rfl) ?_
    refine lv_lconst (v := 1) hx hb dX7_fromBits_16 (by decide) ?_
    refine lv_lsub hx hb dX7_fromBits_17 ?_
    refine lv_topl (fun v2 ev2 => ?_)
    refine lv_land hx hb dX7_fromBits_18 ?_
    refine lv_topl (fun v3 ev3 => ?_)
    refine lv_lstore (lv' := [(5, .long v3), (3, .long v1), (0, .int cv), (1, .long (lN n))]) hx hb dX7_fromBits_19 hl (by decide) rfl (fun ls hl => ?_)
    refine lv_iload_n hx hb dX7_fromBits_21 rfl (lv_at hl 2 rfl) ?_
    refine lv_lload_n hx hb dX7_fromBits_22 rfl (lv_at hl 3 rfl) ?_
    refine pu_call (va_runS (As := [.int cv, .long (lN n)]) (rest := []) ⟨hx, hb, hml, hown, hts⟩ (c_X7_exponentField_n l cv n hcv hn) (va_cwS 2 hts gX7_fromBits_X7_exponentField rfl rfl rfl (by decide +kernel) ⟨Nat.le_of_ble_eq_true rfl, Nat.le_of_ble_eq_true rfl⟩) ⟨pu_blind _, fun U hU hW => ⟨rfl, trivial⟩⟩ rfl rfl hl.1 rfl (lv_room (Nat.le_of_ble_eq_true rfl)) dX7_fromBits_23 ⟨Nat.zero_le _, Nat.zero_le _⟩) (fun w hw => ?_)
    obtain ⟨r1, rfl, hr1⟩ := hw
    rw [← hfe] at hr1
    subst hr1
    refine lv_istore (lv' := [(7, .int (nI f)), (5, .long v3), (3, .long v1), (0, .int cv), (1, .long (lN n))]) hx hb dX7_fromBits_26 hl (by decide) rfl (fun ls hl => ?_)
    refine lv_iload hx hb dX7_fromBits_28 (lv_at hl 0 rfl) ?_
    refine lv_if_ne (tgt := 38) hx hb dX7_fromBits_30 (by decide) (fun c30 => ?_) (fun c30 => ?_)
    · have hc30 : ¬ f = 0 := fun q => c30 (by rw [q]; rfl)
      refine lv_lload hx hb dX7_fromBits_38 (lv_at hl 1 rfl) ?_
      refine lv_lload_n hx hb dX7_fromBits_40 rfl (lv_at hl 2 rfl) ?_
      refine lv_lor hx hb dX7_fromBits_41 ?_
      refine lv_topl (fun v4 ev4 => ?_)
      refine tail42 v4 ?_ ls (lv_sub hl [0, 3, 4] rfl)
      have q1 : v1 = lN (2 ^ 23) := by rw [ev1]; decide
      have q2 : v2 = lN (2 ^ 23 - 1) := by rw [ev2, q1]; decide
      have q3 : v3 = lN (n % 2 ^ 23) := by rw [ev3, q2]; exact wb_mask hn (by decide)
      rw [ev4, q3, q1]
      unfold fb_W
      rw [if_neg hc30]
      have q4 := g_or' (k := 23) (p := 2 ^ 23) (a := n % 2 ^ 23) (b := 1) rfl (Nat.mod_lt _ (by decide)) (by omega)
      rw [Nat.one_mul] at q4
      exact q4
    · have hc30 : f = 0 := (nI_eq (by omega) (by decide)).mp (Decidable.not_not.mp c30)
      refine lv_lload hx hb dX7_fromBits_33 (lv_at hl 1 rfl) ?_
      refine lv_goto (tgt := 42) hx hb dX7_fromBits_35 (by decide) ?_
      refine tail42 v3 ?_ ls (lv_sub hl [0, 3, 4] rfl)
      have q1 : v1 = lN (2 ^ 23) := by rw [ev1]; decide
      have q2 : v2 = lN (2 ^ 23 - 1) := by rw [ev2, q1]; decide
      have q3 : v3 = lN (n % 2 ^ 23) := by rw [ev3, q2]; exact wb_mask hn (by decide)
      rw [q3]
      unfold fb_W
      rw [if_pos hc30]
  · exact absurd hcv c2
/-- a double as a float, held -/
def hd_f (x : UInt64) : UInt32 := if FP.dcmp x (FP.f2d 2139095039) = some .gt then 2139095039 else if FP.dcmp x (FP.f2d (FP.fneg 2139095039)) = some .lt then FP.fneg 2139095039 else FP.d2f x
theorem hd_le (o : Option Ordering) : Op.cmpValue o .l ≤ 0 ↔ ¬ o = some .gt := by
  cases o with
  | none => decide
  | some o => cases o <;> decide
theorem hd_ge (o : Option Ordering) : 0 ≤ Op.cmpValue o .g ↔ ¬ o = some .lt := by
  cases o with
  | none => decide
  | some o => cases o <;> decide
theorem hd_n32 {x : UInt64} (h : FP.Core.val64 x ≠ .nan) : vf_n32 (FP.d2f x) := by
  have h1 : FP.Core.fIsNaN (FP.d2f x) = false := by
    rw [FP.d2f_nan]
    exact (FP.Core.notNaN_iff x).mpr h
  have h2 := (FP.Core.notNaN_iff32 _).mp h1
  unfold vf_n32
  rw [UInt32.le_iff_toNat_le, FP.Core.mask_toNat32]
  exact (FP.Core.ne_nan32 _).mp h2
set_option maxHeartbeats 4000000 in
set_option maxRecDepth 100000 in
/-- a double as a float, held -/
theorem c_X7_held (l : Launch) (x : UInt64) (h : FP.Core.val64 x ≠ .nan) : pu_M l yX7_held wsX7_held 0 0 [.double x] (fun _ => True) (fun w => ∃ r : UInt32, w = .float r ∧ r = hd_f x) := by
  refine pu_ofW (cc := cX7_held) (maxL := 3) (ret := (some .float)) (by decide) rfl (fun p e s m below meth c hx hb hr hml hts hown hlocks hpre ls hl => ?_) (Nat.le_of_ble_eq_true rfl)
  have hl : lv_has ls 3 [(0, .double x)] := hl
  refine lv_ldcf (v := (2139095039)) hx hb hown (hts (.constantFloat RX7 35 (2139095039)) (by decide +kernel)) dX7_held_0 ?_
  refine lv_fstore_n (lv' := [(2, .float (2139095039)), (0, .double x)]) hx hb dX7_held_2 rfl hl (by decide) rfl (fun ls hl => ?_)
  refine lv_dload_n hx hb dX7_held_3 rfl (lv_at hl 1 rfl) ?_
  refine lv_fload_n hx hb dX7_held_4 rfl (lv_at hl 0 rfl) ?_
  refine lv_f2d hx hb dX7_held_5 (by unfold vf_n64; decide +kernel) ?_
  refine lv_topd (fun v1 ev1 => ?_)
  refine lv_dcmp hx hb dX7_held_6 ?_
  refine lv_topi (fun v2 ev2 => ?_)
  refine lv_if_le (tgt := 12) hx hb dX7_held_7 (by decide) (fun c7 => ?_) (fun c7 => ?_)
  · rw [ev2, hd_le, ev1] at c7
    refine lv_dload_n hx hb dX7_held_12 rfl (lv_at hl 1 rfl) ?_
    refine lv_fload_n hx hb dX7_held_13 rfl (lv_at hl 0 rfl) ?_
    refine lv_fneg hx hb dX7_held_14 ?_
    refine lv_topf (fun v3 ev3 => ?_)
    refine lv_f2d hx hb dX7_held_15 (by rw [ev3]; unfold vf_n64; decide +kernel) ?_
    refine lv_topd (fun v4 ev4 => ?_)
    refine lv_dcmp hx hb dX7_held_16 ?_
    refine lv_topi (fun v5 ev5 => ?_)
    refine lv_if_ge (tgt := 25) hx hb dX7_held_17 (by decide) (fun c17 => ?_) (fun c17 => ?_)
    · rw [ev5, hd_ge, ev4, ev3] at c17
      refine lv_dload_n hx hb dX7_held_25 rfl (lv_at hl 1 rfl) ?_
      refine lv_d2f hx hb dX7_held_26 (hd_n32 h) ?_
      refine lv_topf (fun v6 ev6 => ?_)
      exact W.fret (v := v6) hx hb hr (fun t ht hW => ⟨_, rfl, ⟨_, rfl, by unfold hd_f; rw [if_neg c7, if_pos (Decidable.not_not.mp c17)]; exact ev6⟩, ht⟩) (fun q hq => absurd hq List.not_mem_nil) dX7_held_27
    · rw [ev5, hd_ge, ev4, ev3] at c17
      refine lv_fload_n hx hb dX7_held_20 rfl (lv_at hl 0 rfl) ?_
      refine lv_fneg hx hb dX7_held_21 ?_
      refine lv_topf (fun v7 ev7 => ?_)
      refine lv_goto (tgt := 27) hx hb dX7_held_22 (by decide) ?_
      exact W.fret (v := v7) hx hb hr (fun t ht hW => ⟨_, rfl, ⟨_, rfl, by unfold hd_f; rw [if_neg c7, if_neg c17]; exact ev7⟩, ht⟩) (fun q hq => absurd hq List.not_mem_nil) dX7_held_27
  · rw [ev2, hd_le, ev1] at c7
    refine lv_fload_n hx hb dX7_held_10 rfl (lv_at hl 0 rfl) ?_
    exact W.fret (v := (2139095039)) hx hb hr (fun t ht hW => ⟨_, rfl, ⟨_, rfl, by unfold hd_f; rw [if_pos (Decidable.not_not.mp c7)]⟩, ht⟩) (fun q hq => absurd hq List.not_mem_nil) dX7_held_11
