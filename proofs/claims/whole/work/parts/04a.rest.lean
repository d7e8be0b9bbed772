theorem sz_pos {x : UInt64} {t : Bool} {n : Nat} (h : fz_is x t n) (hc : 0 ≤ FP.Core.signed t n) : fz_is x (t && n == 0) n := by
  have : (t && n == 0) = t := by
    cases t with
    | false => rfl
    | true =>
      rw [fz_st] at hc
      have : n = 0 := by omega
      subst this
      rfl
  rw [this]
  exact h
theorem sz_neg {x : UInt64} {t : Bool} {n : Nat} (h : fz_is x t n) (hc : ¬ 0 ≤ FP.Core.signed t n) : fz_is (FP.dneg x) (t && n == 0) n := by
  cases t with
  | false =>
    rw [fz_sf] at hc
    omega
  | true =>
    rw [fz_st] at hc
    have h1 : (n == 0) = false := beq_eq_false_iff_ne.mpr (by omega)
    rw [h1]
    exact fz_neg h
set_option maxHeartbeats 4000000 in
set_option maxRecDepth 100000 in
/-- the size of a number; a zero keeps its sign -/
theorem c_X7_sizeOf (l : Launch) (x : UInt64) (t : Bool) (n : Nat) (h : fz_is x t n) : pu_M l yX7_sizeOf wsX7_sizeOf 0 0 [.double x] (fun _ => True) (fun w => ∃ r : UInt64, w = .double r ∧ fz_is r (t && n == 0) n) := by
  refine pu_ofW (cc := cX7_sizeOf) (maxL := 2) (ret := (some .double)) (by decide) rfl (fun p e s m below meth c hx hb hr hml hts hown hlocks hpre ls hl => ?_) (Nat.le_of_ble_eq_true rfl)
  have hl : lv_has ls 2 [(0, .double x)] := hl
  refine lv_dload_n hx hb dX7_sizeOf_0 rfl (lv_at hl 0 rfl) ?_
  refine lv_dconst0 hx hb dX7_sizeOf_1 ?_
  refine lv_dcmp hx hb dX7_sizeOf_2 ?_
  refine lv_topi (fun v1 ev1 => ?_)
  refine lv_if_ge (tgt := 11) hx hb dX7_sizeOf_3 (by decide) (fun c3 => ?_) (fun c3 => ?_)
  · have hc := (fz_c h fz_zero ev1).2.2.1.mp c3
    rw [fz_s0] at hc
    refine lv_dload_n hx hb dX7_sizeOf_11 rfl (lv_at hl 0 rfl) ?_
    exact W.dret (v := x) hx hb hr (fun t ht hW => ⟨_, rfl, ⟨_, rfl, sz_pos h hc⟩, ht⟩) (fun q hq => absurd hq List.not_mem_nil) dX7_sizeOf_12
  · have hc := (not_congr (fz_c h fz_zero ev1).2.2.1).mp c3
    rw [fz_s0] at hc
    refine lv_dload_n hx hb dX7_sizeOf_6 rfl (lv_at hl 0 rfl) ?_
    refine lv_dneg hx hb dX7_sizeOf_7 ?_
    refine lv_topd (fun v2 ev2 => ?_)
    refine lv_goto (tgt := 12) hx hb dX7_sizeOf_8 (by decide) ?_
    exact W.dret (v := v2) hx hb hr (fun t ht hW => ⟨_, rfl, ⟨_, rfl, by rw [ev2]; exact sz_neg h hc⟩, ht⟩) (fun q hq => absurd hq List.not_mem_nil) dX7_sizeOf_12
theorem ng_zero {x : UInt64} {t : Bool} (h : fz_is x t 0) : vf_n64 (FP.ddiv FP.dconst1 x) ∧ ∀ (v : Int32) (op : CmpOp), v = Op.cmpValue (FP.dcmp (FP.ddiv FP.dconst1 x) FP.dconst0) op → (0 ≤ v ↔ t = false) := by
  cases t with
  | false =>
    have hx : x = 0 := fz_uniq h fz_zero
    subst hx
    refine ⟨by unfold vf_n64; decide +kernel, fun v op ev => ?_⟩
    have h1 : FP.dcmp (FP.ddiv FP.dconst1 0) FP.dconst0 = some .gt := by decide +kernel
    rw [h1] at ev
    have h2 : v = 1 := by rw [ev]; cases op <;> rfl
    subst h2
    exact iff_of_true (by decide) rfl
  | true =>
    have hx : x = 9223372036854775808 := fz_uniq h ⟨⟨true, 0, _, FP.Core.val64_dzeroNeg⟩, by rw [show (9223372036854775808 : UInt64) = FP.Core.dzeroNeg from rfl, FP.Core.val64_dzeroNeg]; rfl, by rw [show (9223372036854775808 : UInt64) = FP.Core.dzeroNeg from rfl, FP.Core.val64_dzeroNeg]; exact Nat.zero_mul _⟩
    subst hx
    refine ⟨by unfold vf_n64; decide +kernel, fun v op ev => ?_⟩
    have h1 : FP.dcmp (FP.ddiv FP.dconst1 9223372036854775808) FP.dconst0 = some .lt := by decide +kernel
    rw [h1] at ev
    have h2 : v = -1 := by rw [ev]; cases op <;> rfl
    subst h2
    exact iff_of_false (by decide) (by decide)
set_option maxHeartbeats 4000000 in
set_option maxRecDepth 100000 in
/-- whether a number has the sign - -/
theorem c_X7_isNegative (l : Launch) (x : UInt64) (t : Bool) (n : Nat) (h : fz_is x t n) : pu_M l yX7_isNegative wsX7_isNegative 0 0 [.double x] (fun _ => True) (fun w => ∃ r : Int32, w = .int r ∧ r = if t then 1 else 0) := by
  refine pu_ofW (cc := cX7_isNegative) (maxL := 2) (ret := (some .boolean)) (by decide) rfl (fun p e s m below meth c hx hb hr hml hts hown hlocks hpre ls hl => ?_) (Nat.le_of_ble_eq_true rfl)
  have hl : lv_has ls 2 [(0, .double x)] := hl
  refine lv_dload_n hx hb dX7_isNegative_0 rfl (lv_at hl 0 rfl) ?_
  refine lv_dconst0 hx hb dX7_isNegative_1 ?_
  refine lv_dcmp hx hb dX7_isNegative_2 ?_
  refine lv_topi (fun v1 ev1 => ?_)
  refine lv_if_ne (tgt := 22) hx hb dX7_isNegative_3 (by decide) (fun c3 => ?_) (fun c3 => ?_)
  · have hn : ¬ n = 0 := fun q => c3 ((fz_c h fz_zero ev1).2.2.2.2.mpr (by rw [q, fz_s0, fz_s0]))
    refine lv_dload_n hx hb dX7_isNegative_22 rfl (lv_at hl 0 rfl) ?_
    refine lv_dconst0 hx hb dX7_isNegative_23 ?_
    refine lv_dcmp hx hb dX7_isNegative_24 ?_
    refine lv_topi (fun v2 ev2 => ?_)
    refine lv_if_ge (tgt := 32) hx hb dX7_isNegative_25 (by decide) (fun c25 => ?_) (fun c25 => ?_)
    · have ht : t = false := by
        have q := (fz_c h fz_zero ev2).2.2.1.mp c25
        cases t <;> simp only [fz_st, fz_sf] at q ⊢ <;> omega
      refine lv_iconst (v := 0) hx hb dX7_isNegative_32 (by decide) ?_
      exact W.zret (v := 0) hx hb hr (by decide) (fun t ht hW => ⟨_, rfl, ⟨_, rfl, by rw [ht]; rfl⟩, ht⟩) (fun q hq => absurd hq List.not_mem_nil) dX7_isNegative_33
    · have ht : ¬ t = false := by
        have q := (not_congr (fz_c h fz_zero ev2).2.2.1).mp c25
        cases t <;> simp only [fz_st, fz_sf] at q ⊢ <;> omega
      refine lv_iconst (v := 1) hx hb dX7_isNegative_28 (by decide) ?_
      refine lv_goto (tgt := 33) hx hb dX7_isNegative_29 (by decide) ?_
      exact W.zret (v := 1) hx hb hr (by decide) (fun t ht hW => ⟨_, rfl, ⟨_, rfl, by rw [Bool.not_eq_false _ |>.mp ht]; rfl⟩, ht⟩) (fun q hq => absurd hq List.not_mem_nil) dX7_isNegative_33
  · have hn : n = 0 := by
      have q := (fz_c h fz_zero ev1).2.2.2.2.mp (Decidable.not_not.mp c3)
      cases t <;> simp only [fz_st, fz_sf] at q <;> omega
    rw [hn] at h
    refine lv_dconst1 hx hb dX7_isNegative_6 ?_
    refine lv_dload_n hx hb dX7_isNegative_7 rfl (lv_at hl 0 rfl) ?_
    refine lv_ddiv hx hb dX7_isNegative_8 (ng_zero h).1 ?_
    refine lv_topd (fun v3 ev3 => ?_)
    refine lv_dconst0 hx hb dX7_isNegative_9 ?_
    refine lv_dcmp hx hb dX7_isNegative_10 ?_
    refine lv_topi (fun v4 ev4 => ?_)
    refine lv_if_ge (tgt := 18) hx hb dX7_isNegative_11 (by decide) (fun c11 => ?_) (fun c11 => ?_)
    · have ht := ((ng_zero h).2 _ _ ev3).mp c11
      refine lv_iconst (v := 0) hx hb dX7_isNegative_18 (by decide) ?_
      refine lv_goto (tgt := 33) hx hb dX7_isNegative_19 (by decide) ?_
      exact W.zret (v := 0) hx hb hr (by decide) (fun t ht hW => ⟨_, rfl, ⟨_, rfl, by rw [ht]; rfl⟩, ht⟩) (fun q hq => absurd hq List.not_mem_nil) dX7_isNegative_33
    · have ht := (not_congr ((ng_zero h).2 _ _ ev3)).mp c11
      refine lv_iconst (v := 1) hx hb dX7_isNegative_14 (by decide) ?_
      refine lv_goto (tgt := 33) hx hb dX7_isNegative_15 (by decide) ?_
      exact W.zret (v := 1) hx hb hr (by decide) (fun t ht hW => ⟨_, rfl, ⟨_, rfl, by rw [Bool.not_eq_false _ |>.mp ht]; rfl⟩, ht⟩) (fun q hq => absurd hq List.not_mem_nil) dX7_isNegative_33
set_option maxHeartbeats 4000000 in
set_option maxRecDepth 100000 in
/-- the least times the greatest power of two that is not above the whole -/
theorem c_X7_greatestPart (l : Launch) (b a : UInt64) (n m0 : Nat) (t : Bool) (h : fz_is b false n) (hn0 : n ≠ 0) (h2 : fz_is a t m0) (ht : FP.Core.signed t m0 = (m0 : Int)) : pu_M l yX7_greatestPart wsX7_greatestPart 0 0 [.double b, .double a] (fun _ => True) (fun w => ∃ (r : UInt64) (j : Nat), w = .double r ∧ fz_is r false (n * 2 ^ j) ∧ m0 < n * 2 ^ (j + 1) ∧ (j = 0 ∨ n * 2 ^ j ≤ m0)) := by
  refine pu_ofW (cc := cX7_greatestPart) (maxL := 10) (ret := (some .double)) (by decide) rfl (fun p e s m below meth c hx hb hr hml hts hown hlocks hpre ls hl => ?_) (Nat.le_of_ble_eq_true rfl)
  have hl : lv_has ls 10 [(0, .double b), (2, .double a)] := hl
  have hm := (fz_is_R h2).1
  have outer : ∀ (i : Nat), i < 7 → ∀ (part : UInt64) (j : Nat), fz_is part false (n * 2 ^ j) → (j = 0 ∨ n * 2 ^ j ≤ m0) → (i = 0 → m0 < n * 2 ^ (j + 1)) → ∀ ls : Array Slot, lv_has ls 10 [(6, .int (nI (2 ^ i / 2))), (4, .double part), (0, .double b), (2, .double a)] → pu_W p l e 0 0 s m [.double b, .double a].toArray below meth c (fun w => ∃ (r : UInt64) (j : Nat), w = .double r ∧ fz_is r false (n * 2 ^ j) ∧ m0 < n * 2 ^ (j + 1) ∧ (j = 0 ∨ n * 2 ^ j ≤ m0)) (F0 m 7 ls []) := by
    intro i
    induction i with
    | zero =>
      intro hi part j hp hj h0 ls hl
      refine lv_iload hx hb dX7_greatestPart_7 (lv_at hl 0 rfl) ?_
      refine lv_if_le (tgt := 62) hx hb dX7_greatestPart_9 (by decide) (fun c9 => ?_) (fun c9 => ?_)
      · refine lv_dload hx hb dX7_greatestPart_62 (lv_at hl 1 rfl) ?_
        exact W.dret (v := part) hx hb hr (fun t ht hW => ⟨_, rfl, ⟨_, _, rfl, hp, h0 rfl, hj⟩, ht⟩) (fun q hq => absurd hq List.not_mem_nil) dX7_greatestPart_64
      · exact absurd (by decide) c9
    | succ i ih =>
      intro hi part j hp hj h0 ls hl
      refine lv_iload hx hb dX7_greatestPart_7 (lv_at hl 0 rfl) ?_
      refine lv_if_le (tgt := 62) hx hb dX7_greatestPart_9 (by decide) (fun c9 => ?_) (fun c9 => ?_)
      · exact absurd c9 (sd_pos i (by omega))
      · refine lv_lconst (v := 1) hx hb dX7_greatestPart_12 (by decide) ?_
        refine lv_iload hx hb dX7_greatestPart_13 (lv_at hl 0 rfl) ?_
        refine lv_lshl hx hb dX7_greatestPart_15 rfl ?_
        refine lv_topl (fun v1 ev1 => ?_)
        refine lv_l2d hx hb dX7_greatestPart_16 ?_
        refine lv_topd (fun v2 ev2 => ?_)
        refine lv_dstore (lv' := [(7, .double v2), (6, .int (nI (2 ^ (i + 1) / 2))), (4, .double part), (0, .double b), (2, .double a)]) hx hb dX7_greatestPart_17 hl (by decide) rfl (fun ls hl => ?_)
        refine lv_iconst (v := 0) hx hb dX7_greatestPart_19 (by decide) ?_
        refine lv_istore (lv' := [(9, .int 0), (7, .double v2), (6, .int (nI (2 ^ (i + 1) / 2))), (4, .double part), (0, .double b), (2, .double a)]) hx hb dX7_greatestPart_20 hl (by decide) rfl (fun ls hl => ?_)
        have hpw : fz_is v2 false (2 ^ (1074 + 2 ^ (i + 1) / 2)) := by
          rw [ev2, ev1, sd_shl (i + 1) hi]
          exact sd_pow (by have := (sd_one i (by omega)).2; omega)
        have hsd := (sd_one i (by omega)).1
        obtain ⟨pw, hpwe⟩ : ∃ pw, pw = v2 := ⟨_, rfl⟩
        rw [← hpwe] at hpw hl
        have inner : ∀ (q k : Nat), k + q = 2100 → ∀ (part : UInt64) (j : Nat), fz_is part false (n * 2 ^ j) → (j = 0 ∨ n * 2 ^ j ≤ m0) → k ≤ j → ∀ ls : Array Slot, lv_has ls 10 [(9, .int (nI k)), (7, .double pw), (6, .int (nI (2 ^ (i + 1) / 2))), (4, .double part), (0, .double b), (2, .double a)] → pu_W p l e 0 0 s m [.double b, .double a].toArray below meth c (fun w => ∃ (r : UInt64) (j : Nat), w = .double r ∧ fz_is r false (n * 2 ^ j) ∧ m0 < n * 2 ^ (j + 1) ∧ (j = 0 ∨ n * 2 ^ j ≤ m0)) (F0 m 22 ls []) := by
          intro q
          induction q with
          | zero =>
            intro k hk part j hp hj hkj ls hl
            exfalso
            rcases hj with hj | hj
            · omega
            · have h5 : 2 ^ 2098 ≤ 2 ^ j := fz_pow_le (by omega)
              have h6 : 1 * 2 ^ j ≤ n * 2 ^ j := Nat.mul_le_mul_right _ (by omega)
              omega
          | succ q iq =>
            intro k hk part j hp hj hkj ls hl
            refine lv_iload hx hb dX7_greatestPart_22 (lv_at hl 0 rfl) ?_
            refine lv_sipush (v := 2100) hx hb dX7_greatestPart_24 (by decide) ?_
            refine lv_icmp_ge (tgt := 53) hx hb dX7_greatestPart_27 (by decide) (fun c27 => ?_) (fun c27 => ?_)
            · exact absurd c27 (nI_ge (by omega) (by decide))
            · refine lv_dload hx hb dX7_greatestPart_30 (lv_at hl 3 rfl) ?_
              refine lv_dload hx hb dX7_greatestPart_32 (lv_at hl 1 rfl) ?_
              refine lv_dmul hx hb dX7_greatestPart_34 (fz_mulcmp (op := .g) hp hpw h2 ht).1 ?_
              refine lv_topd (fun v101 ev101 => ?_)
              refine lv_dload_n hx hb dX7_greatestPart_35 rfl (lv_at hl 5 rfl) ?_
              refine lv_dcmp hx hb dX7_greatestPart_36 ?_
              refine lv_topi (fun v102 ev102 => ?_)
              refine lv_if_gt (tgt := 53) hx hb dX7_greatestPart_37 (by decide) (fun c37 => ?_) (fun c37 => ?_)
              · have hc := ((fz_mulcmp (op := .g) hp hpw h2 ht).2 _ (by rw [ev102, ev101])).mp c37
                rw [Nat.mul_assoc, ← Nat.pow_add] at hc
                refine lv_iload hx hb dX7_greatestPart_53 (lv_at hl 2 rfl) ?_
                refine lv_iconst (v := 2) hx hb dX7_greatestPart_55 (by decide) ?_
                refine lv_idiv hx hb dX7_greatestPart_56 (by decide) ?_
                refine lv_topi (fun v103 ev103 => ?_)
                refine lv_istore (lv' := [(6, .int v103), (9, .int (nI k)), (7, .double pw), (4, .double part), (0, .double b), (2, .double a)]) hx hb dX7_greatestPart_57 hl (by decide) rfl (fun ls hl => ?_)
                refine lv_goto (tgt := 7) hx hb dX7_greatestPart_59 (by decide) ?_
                have e7 : v103 = nI (2 ^ i / 2) := by rw [ev103]; exact sd_div i (by omega)
                rw [e7] at hl
                exact ih (by omega) part j hp hj (fun q => by subst q; exact hc) ls (lv_sub hl [0, 3, 4, 5] rfl)
              · have hc := (not_congr ((fz_mulcmp (op := .g) hp hpw h2 ht).2 _ (by rw [ev102, ev101]))).mp c37
                rw [Nat.mul_assoc, ← Nat.pow_add] at hc
                have hle : n * 2 ^ (j + 2 ^ (i + 1) / 2) ≤ m0 := Nat.le_of_not_lt hc
                have hR : fz_R (n * 2 ^ j * 2 ^ (2 ^ (i + 1) / 2)) := ⟨by rw [Nat.mul_assoc, ← Nat.pow_add]; omega, fz_C_mul _ (fz_is_R hp).2⟩
                have hp2 := fz_mul hp hpw hR
                rw [Nat.mul_assoc, ← Nat.pow_add] at hp2
                refine lv_dload hx hb dX7_greatestPart_40 (lv_at hl 3 rfl) ?_
                refine lv_dload hx hb dX7_greatestPart_42 (lv_at hl 1 rfl) ?_
                refine lv_dmul hx hb dX7_greatestPart_44 (fz_n hp2) ?_
                refine lv_topd (fun v104 ev104 => ?_)
                refine lv_dstore (lv' := [(4, .double v104), (9, .int (nI k)), (7, .double pw), (6, .int (nI (2 ^ (i + 1) / 2))), (0, .double b), (2, .double a)]) hx hb dX7_greatestPart_45 hl (by decide) rfl (fun ls hl => ?_)
                refine lv_iinc (v := (nI (k + 1))) (lv' := [(9, .int (nI (k + 1))), (4, .double v104), (7, .double pw), (6, .int (nI (2 ^ (i + 1) / 2))), (0, .double b), (2, .double a)]) hx hb dX7_greatestPart_47 hl (k := 1) rfl (nI_1 _) (by decide) rfl (fun ls hl => ?_)
                refine lv_goto (tgt := 22) hx hb dX7_greatestPart_50 (by decide) ?_
                exact iq (k + 1) (by omega) _ (j + 2 ^ (i + 1) / 2) (by rw [ev103]; exact hp2) (Or.inr hle) (by omega) ls (lv_sub hl [0, 2, 3, 1, 4, 5] rfl)
        exact inner 2100 0 rfl part j hp hj (Nat.zero_le _) ls (lv_sub hl [0, 1, 2, 3, 4, 5] rfl)
  refine lv_dload_n hx hb dX7_greatestPart_0 rfl (lv_at hl 0 rfl) ?_
  refine lv_dstore (lv' := [(4, .double b), (0, .double b), (2, .double a)]) hx hb dX7_greatestPart_1 hl (by decide) rfl (fun ls hl => ?_)
  refine lv_bipush (v := 32) hx hb dX7_greatestPart_3 (by decide) ?_
  refine lv_istore (lv' := [(6, .int 32), (4, .double b), (0, .double b), (2, .double a)]) hx hb dX7_greatestPart_5 hl (by decide) rfl (fun ls hl => ?_)
  exact outer 6 (by decide) b 0 (by rw [Nat.pow_zero, Nat.mul_one]; exact h) (Or.inl rfl) (fun q => absurd q (by decide)) ls (lv_sub hl [0, 1, 2, 3] rfl)
theorem fz_two : fz_is 4611686018427387904 false (2 ^ (1074 + 1)) := by
  have h := sd_pow (k := 1) (by decide)
  have h2 : FP.l2d (lN (2 ^ 1)) = 4611686018427387904 := by decide +kernel
  rw [h2] at h
  exact h
theorem fz_two_ok {a : UInt64} (h : FP.Core.val64 a ≠ .nan) : FP.Core.val64 (FP.ddiv a 4611686018427387904) ≠ .nan := by
  refine (FP.Core.notNaN_iff _).mp (FP.Core.ddiv_out ((FP.Core.notNaN_iff _).mpr h) fz_two.1 ?_)
  intro hz
  have h1 := (FP.Core.zero_bits2 _).mp hz
  exact absurd h1 (by decide)
theorem rs_end {x r : UInt64} {t : Bool} {n m a : Nat} (hr : fz_is r (t && n == 0) a) (ha : a < m) (he : a % m = n % m) : (0 ≤ FP.Core.signed t n → fz_is r t (n % m)) ∧ (¬ 0 ≤ FP.Core.signed t n → fz_is (FP.dneg r) t (n % m)) := by
  rw [Nat.mod_eq_of_lt ha] at he
  rw [← he]
  constructor
  · intro hc
    have : (t && n == 0) = t := by
      cases t with
      | false => rfl
      | true =>
        rw [fz_st] at hc
        have : n = 0 := by omega
        subst this
        rfl
    rw [this] at hr
    exact hr
  · intro hc
    cases t with
    | false =>
      rw [fz_sf] at hc
      omega
    | true =>
      rw [fz_st] at hc
      have h1 : (n == 0) = false := beq_eq_false_iff_ne.mpr (by omega)
      rw [h1] at hr
      exact fz_neg hr
set_option maxHeartbeats 4000000 in
set_option maxRecDepth 100000 in
/-- the exact rest, with the sign of the number -/
theorem c_X7_rest (l : Launch) (x y : UInt64) (t u : Bool) (n m0 : Nat) (h : fz_is x t n) (h2 : fz_is y u m0) (hm0 : m0 ≠ 0) : pu_M l yX7_rest wsX7_rest 1 29 [.double x, .double y] (fun _ => True) (fun w => ∃ r : UInt64, w = .double r ∧ fz_is r t (n % m0)) := by
  refine pu_ofW (cc := cX7_rest) (maxL := 11) (ret := (some .double)) (by decide) rfl (fun p e s m below meth c hx hb hr hml hts hown hlocks hpre ls hl => ?_) (Nat.le_of_ble_eq_true rfl)
  have hl : lv_has ls 11 [(0, .double x), (2, .double y)] := hl
  have exit69 : ∀ (left : UInt64) (a : Nat), fz_is left (t && n == 0) a → a < m0 → a % m0 = n % m0 → ∀ ls : Array Slot, lv_has ls 11 [(6, .double left), (0, .double x)] → pu_W p l e 1 29 s m [.double x, .double y].toArray below meth c (fun w => ∃ r : UInt64, w = .double r ∧ fz_is r t (n % m0)) (F0 m 69 ls []) := by
    intro left a ha halt hae ls hl
    refine lv_dload_n hx hb dX7_rest_69 rfl (lv_at hl 1 rfl) ?_
    refine lv_dconst0 hx hb dX7_rest_70 ?_
    refine lv_dcmp hx hb dX7_rest_71 ?_
    refine lv_topi (fun v1 ev1 => ?_)
    refine lv_if_ge (tgt := 81) hx hb dX7_rest_72 (by decide) (fun c72 => ?_) (fun c72 => ?_)
    · have hc := (fz_c h fz_zero ev1).2.2.1.mp c72
      rw [fz_s0] at hc
      refine lv_dload hx hb dX7_rest_81 (lv_at hl 0 rfl) ?_
      exact W.dret (v := left) hx hb hr (fun t ht hW => ⟨_, rfl, ⟨_, rfl, (rs_end (x := x) ha halt hae).1 hc⟩, ht⟩) (fun q hq => absurd hq List.not_mem_nil) dX7_rest_83
    · have hc := (not_congr (fz_c h fz_zero ev1).2.2.1).mp c72
      rw [fz_s0] at hc
      refine lv_dload hx hb dX7_rest_75 (lv_at hl 0 rfl) ?_
      refine lv_dneg hx hb dX7_rest_77 ?_
      refine lv_topd (fun v2 ev2 => ?_)
      refine lv_goto (tgt := 83) hx hb dX7_rest_78 (by decide) ?_
      exact W.dret (v := v2) hx hb hr (fun t ht hW => ⟨_, rfl, ⟨_, rfl, by rw [ev2]; exact (rs_end (x := x) ha halt hae).2 hc⟩, ht⟩) (fun q hq => absurd hq List.not_mem_nil) dX7_rest_83
  have loop : ∀ (least : UInt64), fz_is least false m0 → ∀ (q k : Nat), k + q = 2100 → ∀ (left part : UInt64) (a : Nat), fz_is left (t && n == 0) a → a % m0 = n % m0 → FP.Core.val64 part ≠ .nan → (m0 ≤ a → n ≠ 0 ∧ ∃ i : Nat, fz_is part false (m0 * 2 ^ i) ∧ a < m0 * 2 ^ (i + 1) ∧ k + i ≤ 2098) → ∀ ls : Array Slot, lv_has ls 11 [(10, .int (nI k)), (8, .double part), (6, .double left), (4, .double least), (0, .double x), (2, .double y)] → pu_W p l e 1 29 s m [.double x, .double y].toArray below meth c (fun w => ∃ r : UInt64, w = .double r ∧ fz_is r t (n % m0)) (F0 m 24 ls []) := by
    intro least hleast q
    induction q with
    | zero =>
      intro k hk left part a ha hae hnn hi ls hl
      have hk2 : k = 2100 := by omega
      subst hk2
      have halt : a < m0 := by
        rcases Nat.lt_or_ge a m0 with q | q
        · exact q
        · obtain ⟨_, i, _, _, h9⟩ := hi q
          omega
      refine lv_iload hx hb dX7_rest_24 (lv_at hl 0 rfl) ?_
      refine lv_sipush (v := 2100) hx hb dX7_rest_26 (by decide) ?_
      refine lv_icmp_ge (tgt := 69) hx hb dX7_rest_29 (by decide) (fun c29 => ?_) (fun c29 => ?_)
      · exact exit69 _ a ha halt hae ls (lv_sub hl [2, 4] rfl)
      · exact absurd (by decide) c29
    | succ q iq =>
      intro k hk left part a ha hae hnn hi ls hl
      refine lv_iload hx hb dX7_rest_24 (lv_at hl 0 rfl) ?_
      refine lv_sipush (v := 2100) hx hb dX7_rest_26 (by decide) ?_
      refine lv_icmp_ge (tgt := 69) hx hb dX7_rest_29 (by decide) (fun c29 => ?_) (fun c29 => ?_)
      · exact absurd c29 (nI_ge (by omega) (by decide))
      · refine lv_dload hx hb dX7_rest_32 (lv_at hl 2 rfl) ?_
        refine lv_dload hx hb dX7_rest_34 (lv_at hl 3 rfl) ?_
        refine lv_dcmp hx hb dX7_rest_36 ?_
        refine lv_topi (fun v101 ev101 => ?_)
        refine lv_if_lt (tgt := 69) hx hb dX7_rest_37 (by decide) (fun c37 => ?_) (fun c37 => ?_)
        · have hc := (fz_c ha hleast ev101).1.mp c37
          have halt : a < m0 := by
            rcases Nat.lt_or_ge a m0 with q | q
            · exact q
            · have hn0 := (hi q).1
              rw [beq_eq_false_iff_ne.mpr hn0, Bool.and_false, fz_sf, fz_sf] at hc
              omega
          exact exit69 _ a ha halt hae ls (lv_sub hl [2, 4] rfl)
        · have hc := (not_congr (fz_c ha hleast ev101).1).mp c37
          have hge : m0 ≤ a := by
            rw [fz_sf] at hc
            cases hb0 : (t && n == 0) with
            | false =>
              rw [hb0, fz_sf] at hc
              omega
            | true =>
              rw [hb0, fz_st] at hc
              omega
          obtain ⟨hn0, i, hpt, hai, hki⟩ := hi hge
          have hsg : (t && n == 0) = false := by rw [beq_eq_false_iff_ne.mpr hn0, Bool.and_false]
          have ha2 := ha
          rw [hsg] at ha2
          have hRp := fz_is_R hpt
          have half : ∀ a2 : Nat, a2 < m0 * 2 ^ i → m0 ≤ a2 → n ≠ 0 ∧ ∃ i2 : Nat, fz_is (FP.ddiv part 4611686018427387904) false (m0 * 2 ^ i2) ∧ a2 < m0 * 2 ^ (i2 + 1) ∧ k + 1 + i2 ≤ 2098 := by
            intro a2 h5 h6
            refine ⟨hn0, ?_⟩
            cases i with
            | zero =>
              rw [Nat.pow_zero, Nat.mul_one] at h5
              omega
            | succ i2 =>
              have e5 : m0 * 2 ^ (i2 + 1) = m0 * 2 ^ i2 * 2 ^ 1 := by rw [Nat.mul_assoc, ← Nat.pow_add]
              refine ⟨i2, ?_, h5, by omega⟩
              rw [e5] at hpt
              refine fz_div hpt fz_two ⟨?_, fz_C_mul _ (fz_is_R h2).2⟩
              have h7 := hRp.1
              have h8 : m0 * 2 ^ i2 ≤ m0 * 2 ^ (i2 + 1) := Nat.mul_le_mul_left _ (fz_pow_le (by omega))
              omega
          refine lv_dload hx hb dX7_rest_40 (lv_at hl 2 rfl) ?_
          refine lv_dload hx hb dX7_rest_42 (lv_at hl 1 rfl) ?_
          refine lv_dcmp hx hb dX7_rest_44 ?_
          refine lv_topi (fun v102 ev102 => ?_)
          refine lv_if_lt (tgt := 55) hx hb dX7_rest_45 (by decide) (fun c45 => ?_) (fun c45 => ?_)
          · have hd := (fz_c ha2 hpt ev102).1.mp c45
            rw [fz_sf, fz_sf] at hd
            refine lv_dload hx hb dX7_rest_55 (lv_at hl 1 rfl) ?_
            refine lv_ldc2d (v := (4611686018427387904)) hx hb hown (hts (.constantDouble RX7 27 (4611686018427387904)) (by decide +kernel)) dX7_rest_57 ?_
            refine lv_ddiv hx hb dX7_rest_60 (fz_nn (fz_two_ok hnn)) ?_
            refine lv_topd (fun v103 ev103 => ?_)
            refine lv_dstore (lv' := [(8, .double v103), (10, .int (nI k)), (6, .double left), (4, .double least), (0, .double x), (2, .double y)]) hx hb dX7_rest_61 hl (by decide) rfl (fun ls hl => ?_)
            refine lv_iinc (v := (nI (k + 1))) (lv' := [(10, .int (nI (k + 1))), (8, .double v103), (6, .double left), (4, .double least), (0, .double x), (2, .double y)]) hx hb dX7_rest_63 hl (k := 1) rfl (nI_1 _) (by decide) rfl (fun ls hl => ?_)
            refine lv_goto (tgt := 24) hx hb dX7_rest_66 (by decide) ?_
            exact iq (k + 1) (by omega) _ _ a ha hae (by rw [ev103]; exact fz_two_ok hnn) (by rw [ev103]; exact half a (by omega)) ls (lv_sub hl [0, 1, 2, 3, 4, 5] rfl)
          · have hd := (not_congr (fz_c ha2 hpt ev102).1).mp c45
            rw [fz_sf, fz_sf] at hd
            have hle : m0 * 2 ^ i ≤ a := by omega
            have hlt : a - m0 * 2 ^ i < m0 * 2 ^ i := by rw [Nat.pow_succ, ← Nat.mul_assoc] at hai; omega
            have hR5 : fz_R (a - m0 * 2 ^ i) := ⟨by have := (fz_is_R ha).1; omega, fz_C_sub (fz_is_R ha).2 hRp.2 hle (by omega)⟩
            have hsub := fz_sub ha2 hpt hle hR5
            rw [← hsg] at hsub
            refine lv_dload hx hb dX7_rest_48 (lv_at hl 2 rfl) ?_
            refine lv_dload hx hb dX7_rest_50 (lv_at hl 1 rfl) ?_
            refine lv_dsub hx hb dX7_rest_52 (fz_n hsub) ?_
            refine lv_topd (fun v104 ev104 => ?_)
            refine lv_dstore (lv' := [(6, .double v104), (10, .int (nI k)), (8, .double part), (4, .double least), (0, .double x), (2, .double y)]) hx hb dX7_rest_53 hl (by decide) rfl (fun ls hl => ?_)
            refine lv_dload hx hb dX7_rest_55 (lv_at hl 2 rfl) ?_
            refine lv_ldc2d (v := (4611686018427387904)) hx hb hown (hts (.constantDouble RX7 27 (4611686018427387904)) (by decide +kernel)) dX7_rest_57 ?_
            refine lv_ddiv hx hb dX7_rest_60 (fz_nn (fz_two_ok hnn)) ?_
            refine lv_topd (fun v105 ev105 => ?_)
            refine lv_dstore (lv' := [(8, .double v105), (6, .double v104), (10, .int (nI k)), (4, .double least), (0, .double x), (2, .double y)]) hx hb dX7_rest_61 hl (by decide) rfl (fun ls hl => ?_)
            refine lv_iinc (v := (nI (k + 1))) (lv' := [(10, .int (nI (k + 1))), (8, .double v105), (6, .double v104), (4, .double least), (0, .double x), (2, .double y)]) hx hb dX7_rest_63 hl (k := 2) rfl (nI_1 _) (by decide) rfl (fun ls hl => ?_)
            refine lv_goto (tgt := 24) hx hb dX7_rest_66 (by decide) ?_
            exact iq (k + 1) (by omega) _ _ (a - m0 * 2 ^ i) (by rw [ev104]; exact hsub) (by rw [Nat.sub_mul_mod hle]; exact hae) (by rw [ev105]; exact fz_two_ok hnn) (by rw [ev105]; exact half _ hlt) ls (lv_sub hl [0, 1, 2, 3, 4, 5] rfl)
  refine lv_dload_n hx hb dX7_rest_0 rfl (lv_at hl 1 rfl) ?_
  refine pu_call (va_runS (As := [.double y]) (rest := []) ⟨hx, hb, hml, hown, hts⟩ (c_X7_sizeOf l y u m0 h2) (va_cwS 1 hts gX7_rest_X7_sizeOf rfl rfl rfl (by decide +kernel) ⟨Nat.le_of_ble_eq_true rfl, Nat.le_of_ble_eq_true rfl⟩) ⟨pu_blind _, fun U hU hW => ⟨rfl, trivial⟩⟩ rfl rfl hl.1 rfl (lv_room (Nat.le_of_ble_eq_true rfl)) dX7_rest_1 ⟨Nat.zero_le _, Nat.zero_le _⟩) (fun w hw => ?_)
  obtain ⟨r1, rfl, hr1⟩ := hw
  have hr1 : fz_is r1 false m0 := by
    rw [beq_eq_false_iff_ne.mpr hm0, Bool.and_false] at hr1
    exact hr1
  refine lv_dstore (lv' := [(4, .double r1), (0, .double x), (2, .double y)]) hx hb dX7_rest_4 hl (by decide) rfl (fun ls hl => ?_)
  refine lv_dload_n hx hb dX7_rest_6 rfl (lv_at hl 1 rfl) ?_
  refine pu_call (va_runS (As := [.double x]) (rest := []) ⟨hx, hb, hml, hown, hts⟩ (c_X7_sizeOf l x t n h) (va_cwS 1 hts gX7_rest_X7_sizeOf rfl rfl rfl (by decide +kernel) ⟨Nat.le_of_ble_eq_true rfl, Nat.le_of_ble_eq_true rfl⟩) ⟨pu_blind _, fun U hU hW => ⟨rfl, trivial⟩⟩ rfl rfl hl.1 rfl (lv_room (Nat.le_of_ble_eq_true rfl)) dX7_rest_7 ⟨Nat.zero_le _, Nat.zero_le _⟩) (fun w hw => ?_)
  obtain ⟨r2, rfl, hr2⟩ := hw
  have hs2 : FP.Core.signed (t && n == 0) n = (n : Int) := by
    cases t with
    | false => rfl
    | true =>
      by_cases q : n = 0
      · subst q
        rfl
      · rw [beq_eq_false_iff_ne.mpr q]
        rfl
  refine lv_dstore (lv' := [(6, .double r2), (4, .double r1), (0, .double x), (2, .double y)]) hx hb dX7_rest_10 hl (by decide) rfl (fun ls hl => ?_)
  refine lv_dload hx hb dX7_rest_12 (lv_at hl 1 rfl) ?_
  refine lv_dload hx hb dX7_rest_14 (lv_at hl 0 rfl) ?_
  refine pu_call (va_runS (As := [.double r1, .double r2]) (rest := []) ⟨hx, hb, hml, hown, hts⟩ (c_X7_greatestPart l r1 r2 m0 n _ hr1 hm0 hr2 hs2) (va_cwS 2 hts gX7_rest_X7_greatestPart rfl rfl rfl (by decide +kernel) ⟨Nat.le_of_ble_eq_true rfl, Nat.le_of_ble_eq_true rfl⟩) ⟨pu_blind _, fun U hU hW => ⟨rfl, trivial⟩⟩ rfl rfl hl.1 rfl (lv_room (Nat.le_of_ble_eq_true rfl)) dX7_rest_16 ⟨Nat.zero_le _, Nat.zero_le _⟩) (fun w hw => ?_)
  obtain ⟨r3, j3, rfl, hr3, hr4, hr5⟩ := hw
  refine lv_dstore (lv' := [(8, .double r3), (6, .double r2), (4, .double r1), (0, .double x), (2, .double y)]) hx hb dX7_rest_19 hl (by decide) rfl (fun ls hl => ?_)
  refine lv_iconst (v := 0) hx hb dX7_rest_21 (by decide) ?_
  refine lv_istore (lv' := [(10, .int 0), (8, .double r3), (6, .double r2), (4, .double r1), (0, .double x), (2, .double y)]) hx hb dX7_rest_22 hl (by decide) rfl (fun ls hl => ?_)
  exact loop r1 hr1 2100 0 rfl r2 r3 n hr2 rfl hr3.1.ne_nan (fun hge => ⟨by omega, j3, hr3, hr4, by
    rcases hr5 with q | q
    · omega
    · have h7 := (fz_is_R h).1
      have h8 : 1 * 2 ^ j3 ≤ m0 * 2 ^ j3 := Nat.mul_le_mul_right _ (by omega)
      have h9 : 2 ^ j3 < 2 ^ 2098 := by omega
      have h10 := (Nat.pow_lt_pow_iff_right (by decide : 1 < 2)).mp h9
      omega⟩) ls (lv_sub hl [0, 1, 2, 3, 4, 5] rfl)
