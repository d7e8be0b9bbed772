theorem eb_field {n k q : Nat} {mk : Int32} (hn : n < 2 ^ 64) (hk : k < 64) (hm : mk.toBitVec.toNat = 2 ^ q - 1) (hq : q ≤ 32) : ((lN n).toUInt64 >>> ((nI k).toInt64.toUInt64 &&& Int64.toUInt64 63)).toInt64.toInt32 &&& mk = nI (n / 2 ^ k % 2 ^ q) := by
  rw [wb_shr hn hk, lN_i, ib_mask hm hq]
set_option maxHeartbeats 4000000 in
set_option maxRecDepth 100000 in
theorem c_X7_exponentField_w (l : Launch) (cv : Int32) (n : Nat) (hcv : ¬ cv = 0) (hn : n < 2 ^ 64) : pu_M l yX7_exponentField wsX7_exponentField 0 0 [.int cv, .long (lN n)] (fun _ => True) (fun w => ∃ r : Int32, w = .int r ∧ r = nI (n / 2 ^ 52 % 2 ^ 11)) := by
  refine pu_ofW (cc := cX7_exponentField) (maxL := 3) (ret := (some .int)) (by decide) rfl (fun p e s m below meth c hx hb hr hml hts hown hlocks hpre ls hl => ?_) (Nat.le_of_ble_eq_true rfl)
  have hl : lv_has ls 3 [(0, .int cv), (1, .long (lN n))] := hl
  refine lv_iload_n hx hb dX7_exponentField_0 rfl (lv_at hl 0 rfl) ?_
  refine lv_if_eq (tgt := 16) hx hb dX7_exponentField_1 (by decide) (fun c1 => ?_) (fun c1 => ?_)
  · exact absurd c1 hcv
  · refine lv_lload_n hx hb dX7_exponentField_4 rfl (lv_at hl 1 rfl) ?_
    refine lv_bipush (v := 52) hx hb dX7_exponentField_5 (by decide) ?_
    refine lv_lushr hx hb dX7_exponentField_7 rfl ?_
    refine lv_topl (fun v1 ev1 => ?_)
    refine lv_l2i hx hb dX7_exponentField_8 rfl ?_
    refine lv_topi (fun v2 ev2 => ?_)
    refine lv_sipush (v := 2047) hx hb dX7_exponentField_9 (by decide) ?_
    refine lv_iand hx hb dX7_exponentField_12 ?_
    refine lv_topi (fun v3 ev3 => ?_)
    refine lv_goto (tgt := 25) hx hb dX7_exponentField_13 (by decide) ?_
    exact W.iret (v := v3) hx hb hr (fun t ht hW => ⟨_, rfl, ⟨_, rfl, by rw [ev3, ev2, ev1]; exact eb_field (k := 52) (q := 11) hn (by decide) (by decide) (by decide)⟩, ht⟩) (fun q hq => absurd hq List.not_mem_nil) dX7_exponentField_25
set_option maxHeartbeats 4000000 in
set_option maxRecDepth 100000 in
theorem c_X7_isNumber_w (l : Launch) (cv : Int32) (n : Nat) (hcv : ¬ cv = 0) (hn : n < 2 ^ 64) : pu_M l yX7_isNumber wsX7_isNumber 1 22 [.int cv, .long (lN n)] (fun _ => True) (fun w => ∃ r : Int32, w = .int r ∧ r = if n / 2 ^ 52 % 2 ^ 11 = 2047 then 0 else 1) := by
  refine pu_ofW (cc := cX7_isNumber) (maxL := 3) (ret := (some .boolean)) (by decide) rfl (fun p e s m below meth c hx hb hr hml hts hown hlocks hpre ls hl => ?_) (Nat.le_of_ble_eq_true rfl)
  have hl : lv_has ls 3 [(0, .int cv), (1, .long (lN n))] := hl
  refine lv_iload_n hx hb dX7_isNumber_0 rfl (lv_at hl 0 rfl) ?_
  refine lv_lload_n hx hb dX7_isNumber_1 rfl (lv_at hl 1 rfl) ?_
  refine pu_call (va_runS (As := [.int cv, .long (lN n)]) (rest := []) ⟨hx, hb, hml, hown, hts⟩ (c_X7_exponentField_w l cv n hcv hn) (va_cwS 2 hts gX7_isNumber_X7_exponentField rfl rfl rfl (by decide +kernel) ⟨Nat.le_of_ble_eq_true rfl, Nat.le_of_ble_eq_true rfl⟩) ⟨pu_blind _, fun U hU hW => ⟨rfl, trivial⟩⟩ rfl rfl hl.1 rfl (lv_room (Nat.le_of_ble_eq_true rfl)) dX7_isNumber_2 ⟨Nat.zero_le _, Nat.zero_le _⟩) (fun w hw => ?_)
  obtain ⟨r1, rfl, hr1⟩ := hw
  refine lv_iload_n hx hb dX7_isNumber_5 rfl (lv_at hl 0 rfl) ?_
  refine lv_if_eq (tgt := 15) hx hb dX7_isNumber_6 (by decide) (fun c6 => ?_) (fun c6 => ?_)
  · exact absurd c6 hcv
  · refine lv_sipush (v := 2047) hx hb dX7_isNumber_9 (by decide) ?_
    refine lv_goto (tgt := 18) hx hb dX7_isNumber_12 (by decide) ?_
    refine lv_icmp_eq (tgt := 25) hx hb dX7_isNumber_18 (by decide) (fun c18 => ?_) (fun c18 => ?_)
    · have hq : n / 2 ^ 52 % 2 ^ 11 = 2047 := (nI_eq (Nat.lt_trans (Nat.mod_lt _ (by decide)) (by decide)) (by decide)).mp (hr1.symm.trans c18)
      refine lv_iconst (v := 0) hx hb dX7_isNumber_25 (by decide) ?_
      exact W.zret (v := 0) hx hb hr (by decide) (fun t ht hW => ⟨_, rfl, ⟨_, rfl, by rw [if_pos hq]⟩, ht⟩) (fun q hq => absurd hq List.not_mem_nil) dX7_isNumber_26
    · have hq : ¬ n / 2 ^ 52 % 2 ^ 11 = 2047 := fun q => c18 (by rw [hr1, q]; rfl)
      refine lv_iconst (v := 1) hx hb dX7_isNumber_21 (by decide) ?_
      refine lv_goto (tgt := 26) hx hb dX7_isNumber_22 (by decide) ?_
      exact W.zret (v := 1) hx hb hr (by decide) (fun t ht hW => ⟨_, rfl, ⟨_, rfl, by rw [if_neg hq]⟩, ht⟩) (fun q hq => absurd hq List.not_mem_nil) dX7_isNumber_26
set_option maxHeartbeats 4000000 in
set_option maxRecDepth 100000 in
theorem c_X7_exponentField_n (l : Launch) (cv : Int32) (n : Nat) (hcv : cv = 0) (hn : n < 2 ^ 64) : pu_M l yX7_exponentField wsX7_exponentField 0 0 [.int cv, .long (lN n)] (fun _ => True) (fun w => ∃ r : Int32, w = .int r ∧ r = nI (n / 2 ^ 23 % 2 ^ 8)) := by
  refine pu_ofW (cc := cX7_exponentField) (maxL := 3) (ret := (some .int)) (by decide) rfl (fun p e s m below meth c hx hb hr hml hts hown hlocks hpre ls hl => ?_) (Nat.le_of_ble_eq_true rfl)
  have hl : lv_has ls 3 [(0, .int cv), (1, .long (lN n))] := hl
  refine lv_iload_n hx hb dX7_exponentField_0 rfl (lv_at hl 0 rfl) ?_
  refine lv_if_eq (tgt := 16) hx hb dX7_exponentField_1 (by decide) (fun c1 => ?_) (fun c1 => ?_)
  · refine lv_lload_n hx hb dX7_exponentField_16 rfl (lv_at hl 1 rfl) ?_
    refine lv_bipush (v := 23) hx hb dX7_exponentField_17 (by decide) ?_
    refine lv_lushr hx hb dX7_exponentField_19 rfl ?_
    refine lv_topl (fun v1 ev1 => ?_)
    refine lv_l2i hx hb dX7_exponentField_20 rfl ?_
    refine lv_topi (fun v2 ev2 => ?_)
    refine lv_sipush (v := 255) hx hb dX7_exponentField_21 (by decide) ?_
    refine lv_iand hx hb dX7_exponentField_24 ?_
    refine lv_topi (fun v3 ev3 => ?_)
    exact W.iret (v := v3) hx hb hr (fun t ht hW => ⟨_, rfl, ⟨_, rfl, by rw [ev3, ev2, ev1]; exact eb_field (k := 23) (q := 8) hn (by decide) (by decide) (by decide)⟩, ht⟩) (fun q hq => absurd hq List.not_mem_nil) dX7_exponentField_25
  · exact absurd hcv c1
set_option maxHeartbeats 4000000 in
set_option maxRecDepth 100000 in
theorem c_X7_isNumber_n (l : Launch) (cv : Int32) (n : Nat) (hcv : cv = 0) (hn : n < 2 ^ 64) : pu_M l yX7_isNumber wsX7_isNumber 1 22 [.int cv, .long (lN n)] (fun _ => True) (fun w => ∃ r : Int32, w = .int r ∧ r = if n / 2 ^ 23 % 2 ^ 8 = 255 then 0 else 1) := by
  refine pu_ofW (cc := cX7_isNumber) (maxL := 3) (ret := (some .boolean)) (by decide) rfl (fun p e s m below meth c hx hb hr hml hts hown hlocks hpre ls hl => ?_) (Nat.le_of_ble_eq_true rfl)
  have hl : lv_has ls 3 [(0, .int cv), (1, .long (lN n))] := hl
  refine lv_iload_n hx hb dX7_isNumber_0 rfl (lv_at hl 0 rfl) ?_
  refine lv_lload_n hx hb dX7_isNumber_1 rfl (lv_at hl 1 rfl) ?_
  refine pu_call (va_runS (As := [.int cv, .long (lN n)]) (rest := []) ⟨hx, hb, hml, hown, hts⟩ (c_X7_exponentField_n l cv n hcv hn) (va_cwS 2 hts gX7_isNumber_X7_exponentField rfl rfl rfl (by decide +kernel) ⟨Nat.le_of_ble_eq_true rfl, Nat.le_of_ble_eq_true rfl⟩) ⟨pu_blind _, fun U hU hW => ⟨rfl, trivial⟩⟩ rfl rfl hl.1 rfl (lv_room (Nat.le_of_ble_eq_true rfl)) dX7_isNumber_2 ⟨Nat.zero_le _, Nat.zero_le _⟩) (fun w hw => ?_)
  obtain ⟨r1, rfl, hr1⟩ := hw
  refine lv_iload_n hx hb dX7_isNumber_5 rfl (lv_at hl 0 rfl) ?_
  refine lv_if_eq (tgt := 15) hx hb dX7_isNumber_6 (by decide) (fun c6 => ?_) (fun c6 => ?_)
  · refine lv_sipush (v := 255) hx hb dX7_isNumber_15 (by decide) ?_
    refine lv_icmp_eq (tgt := 25) hx hb dX7_isNumber_18 (by decide) (fun c18 => ?_) (fun c18 => ?_)
    · have hq : n / 2 ^ 23 % 2 ^ 8 = 255 := (nI_eq (Nat.lt_trans (Nat.mod_lt _ (by decide)) (by decide)) (by decide)).mp (hr1.symm.trans c18)
      refine lv_iconst (v := 0) hx hb dX7_isNumber_25 (by decide) ?_
      exact W.zret (v := 0) hx hb hr (by decide) (fun t ht hW => ⟨_, rfl, ⟨_, rfl, by rw [if_pos hq]⟩, ht⟩) (fun q hq => absurd hq List.not_mem_nil) dX7_isNumber_26
    · have hq : ¬ n / 2 ^ 23 % 2 ^ 8 = 255 := fun q => c18 (by rw [hr1, q]; rfl)
      refine lv_iconst (v := 1) hx hb dX7_isNumber_21 (by decide) ?_
      refine lv_goto (tgt := 26) hx hb dX7_isNumber_22 (by decide) ?_
      exact W.zret (v := 1) hx hb hr (by decide) (fun t ht hW => ⟨_, rfl, ⟨_, rfl, by rw [if_neg hq]⟩, ht⟩) (fun q hq => absurd hq List.not_mem_nil) dX7_isNumber_26
  · exact absurd hcv c6
/-- the magnitude that a field f and a fraction tell -/
def fb_W (P f q : Nat) : Nat := if f = 0 then q else q + 2 ^ P
def fb_m (f : Nat) : Nat := if f = 0 then 1 else f
theorem fb_W_lt {P f q : Nat} (hq : q < 2 ^ P) : fb_W P f q < 2 ^ (P + 1) := by
  unfold fb_W
  rw [Nat.pow_succ]
  split <;> omega
theorem fb_m_in {f E : Nat} (h : f < E) (hE : 1 < E) : 1 ≤ fb_m f ∧ fb_m f < E := by
  unfold fb_m
  split <;> omega
theorem fb_units {f : FP.Core.Fmt} {P m : Nat} (hP : f.tails = 2 ^ P) : FP.Core.unitsOf f m = fb_W P (m / 2 ^ P) (m % 2 ^ P) * 2 ^ (fb_m (m / 2 ^ P) - 1) := by
  unfold FP.Core.unitsOf fb_W fb_m
  rw [hP]
  have hp := Nat.two_pow_pos P
  by_cases h : m < 2 ^ P
  · have h0 : m / 2 ^ P = 0 := Nat.div_eq_of_lt h
    rw [if_pos h, if_pos h0, if_pos h0, Nat.mod_eq_of_lt h]
    simp
  · have h0 : ¬ m / 2 ^ P = 0 := by
      intro q
      rw [Nat.div_eq_zero_iff] at q
      omega
    rw [if_neg h, if_neg h0, if_neg h0, Nat.add_comm]
theorem fb_tp {W F mf : Nat} (h1 : 1 ≤ mf) (hF : F ≤ 1075) : tp_at (W * 2 ^ 1074) (W * 2 ^ (mf + 1074 - F)) ((mf : Int) - (F : Int)) := by
  constructor
  · intro hz
    rw [Nat.mul_assoc, ← Nat.pow_add]
    congr 2
    omega
  · intro hz
    rw [Nat.mul_assoc, ← Nat.pow_add]
    congr 2
    omega
theorem fb_R {W e : Nat} (hW : W < 2 ^ 53) (he : e ≤ 2045) : fz_R (W * 2 ^ e) := by
  refine ⟨?_, W, e, hW, rfl⟩
  calc W * 2 ^ e < 2 ^ 53 * 2 ^ e := Nat.mul_lt_mul_of_pos_right hW (Nat.two_pow_pos _)
    _ = 2 ^ (53 + e) := (Nat.pow_add 2 53 e).symm
    _ ≤ 2 ^ 2098 := fz_pow_le (by omega)
theorem fb_max {f : Nat} (h : f < 2048) : (if (1 : Int32) < nI f then nI f else 1) = nI (fb_m f) := by
  unfold fb_m
  by_cases h0 : f = 0
  · subst h0
    decide
  · rw [if_neg h0]
    by_cases h1 : f = 1
    · subst h1
      decide
    · rw [if_pos ((nI_ltI (a := 1) (by decide) (by omega)).mpr (by omega))]
theorem fb_wide {n : Nat} (hn : n < 2 ^ 64) (hf : ¬ n / 2 ^ 52 % 2 ^ 11 = 2047) : fz_is (UInt64.ofNat n) (decide (2 ^ 63 ≤ n)) (fb_W 52 (n / 2 ^ 52 % 2 ^ 11) (n % 2 ^ 52) * 2 ^ (fb_m (n / 2 ^ 52 % 2 ^ 11) - 1)) := by
  have ht : (UInt64.ofNat n).toNat = n := Nat.mod_eq_of_lt hn
  have hfin : FP.Core.DFin (UInt64.ofNat n) := (FP.Core.fin_bits _).mpr (by rw [ht]; omega)
  have h1 := FP.Core.sgn_bits hfin.ne_nan
  have h2 := FP.Core.zmag_bits hfin.ne_nan
  rw [ht] at h1 h2
  refine ⟨hfin, h1, ?_⟩
  rw [h2, fb_units (P := 52) FP.Core.tails_b64, show n % 2 ^ 63 / 2 ^ 52 = n / 2 ^ 52 % 2 ^ 11 by omega, show n % 2 ^ 63 % 2 ^ 52 = n % 2 ^ 52 by omega]
theorem fz_f2d {u : UInt32} (h : FP.Core.FFin u) : fz_is (FP.f2d u) (FP.Core.sgn (FP.Core.val32 u)) (FP.Core.zmag FP.Core.b32 (FP.Core.val32 u) * 2 ^ 925) := by
  rw [FP.f2d_core h.notNaN]
  obtain ⟨s, c, q, hv⟩ := h
  have hf := FP.Core.val32_fits u
  rw [hv] at hf ⊢
  obtain ⟨hc, hq1, hq2, -⟩ := hf
  rw [FP.Core.qmin_b32] at hq1
  rw [show FP.Core.b32.qmax = 104 by decide] at hq2
  have hc2 : c < 2 ^ 24 := hc
  have he : FP.Core.zmag FP.Core.b32 (.fin s c q) * 2 ^ 925 = c * 2 ^ (q + 1074).toNat := by
    show c * 2 ^ (q - FP.Core.b32.qmin).toNat * 2 ^ 925 = _
    rw [FP.Core.qmin_b32, Nat.mul_assoc, ← Nat.pow_add]
    congr 2
    omega
  rw [he]
  refine fz_of (fb_R (by omega) (by omega)) ?_
  rw [FP.Core.val64_f2d, hv]
  exact (fz_round s _ c q (q + 1074).toNat (by omega) rfl).symm
theorem fb_narrow {n : Nat} (hf : ¬ n / 2 ^ 23 % 2 ^ 8 = 255) : FP.Core.FFin (UInt32.ofNat n) ∧ fz_is (FP.f2d (UInt32.ofNat n)) (decide (2 ^ 31 ≤ n % 2 ^ 32)) (fb_W 23 (n / 2 ^ 23 % 2 ^ 8) (n % 2 ^ 23) * 2 ^ (fb_m (n / 2 ^ 23 % 2 ^ 8) + 924)) := by
  have ht : (UInt32.ofNat n).toNat = n % 2 ^ 32 := rfl
  have hfin : FP.Core.FFin (UInt32.ofNat n) := (FP.Core.fin_bits32 _).mpr (by rw [ht]; omega)
  have h1 := FP.Core.sgn_bits32 hfin.ne_nan
  have h2 := FP.Core.zmag_bits32 hfin.ne_nan
  rw [ht] at h1 h2
  refine ⟨hfin, ?_⟩
  have h3 := fz_f2d hfin
  rw [h1, h2, fb_units (P := 23) FP.Core.tails_b32, show n % 2 ^ 32 % 2 ^ 31 / 2 ^ 23 = n / 2 ^ 23 % 2 ^ 8 by omega, show n % 2 ^ 32 % 2 ^ 31 % 2 ^ 23 = n % 2 ^ 23 by omega, Nat.mul_assoc, ← Nat.pow_add] at h3
  have h4 := (fb_m_in (f := n / 2 ^ 23 % 2 ^ 8) (E := 256) (by omega) (by decide)).1
  rw [show fb_m (n / 2 ^ 23 % 2 ^ 8) - 1 + 925 = fb_m (n / 2 ^ 23 % 2 ^ 8) + 924 by omega] at h3
  exact h3
set_option maxHeartbeats 4000000 in
set_option maxRecDepth 100000 in
/-- the number that bits tell -/
theorem c_X7_fromBits_w (l : Launch) (cv : Int32) (n : Nat) (hcv : ¬ cv = 0) (hn : n < 2 ^ 64) (hfin : ¬ n / 2 ^ 52 % 2 ^ 11 = 2047) : pu_M l yX7_fromBits wsX7_fromBits 1 28 [.int cv, .long (lN n)] (fun _ => True) (fun w => ∃ r : UInt64, w = .double r ∧ r = UInt64.ofNat n) := by
  refine pu_ofW (cc := cX7_fromBits) (maxL := 14) (ret := (some .double)) (by decide) rfl (fun p e s m below meth c hx hb hr hml hts hown hlocks hpre ls hl => ?_) (Nat.le_of_ble_eq_true rfl)
  have hl : lv_has ls 14 [(0, .int cv), (1, .long (lN n))] := hl
  have hf : n / 2 ^ 52 % 2 ^ 11 < 2047 := by omega
  have hres := fb_wide hn hfin
  obtain ⟨f, hfe⟩ : ∃ f, f = n / 2 ^ 52 % 2 ^ 11 := ⟨_, rfl⟩
  rw [← hfe] at hf hres
  have hmf := fb_m_in hf (by decide)
  have hWl : fb_W 52 f (n % 2 ^ 52) < 2 ^ 53 := fb_W_lt (Nat.mod_lt _ (by decide))
  have tail42 : ∀ wv : Int64, wv = lN (fb_W 52 f (n % 2 ^ 52)) → ∀ ls : Array Slot, lv_has ls 14 [(7, .int (nI f)), (0, .int cv), (1, .long (lN n))] → pu_W p l e 1 28 s m [.int cv, .long (lN n)].toArray below meth c (fun w => ∃ r : UInt64, w = .double r ∧ r = UInt64.ofNat n) (F0 m 42 ls [.long wv]) := by
    intro wv hwv ls hl
    refine lv_lstore (lv' := [(8, .long wv), (7, .int (nI f)), (0, .int cv), (1, .long (lN n))]) hx hb dX7_fromBits_42 hl (by decide) rfl (fun ls hl => ?_)
    refine lv_iconst (v := 1) hx hb dX7_fromBits_44 (by decide) ?_
    refine lv_iload hx hb dX7_fromBits_45 (lv_at hl 1 rfl) ?_
    refine va_mmax hx hb (hml.trans hl.1.symm) hown (hts (.methodLink RX7 13 Lib.Math.max.name) (by decide +kernel)) (hts (.static Lib.Math.max.name) (by decide +kernel)) (hts (.initialized "java/lang/Math") (by decide +kernel)) (hts _ (List.mem_of_getElem? (i := 4) rfl)) (Nat.le_of_ble_eq_true rfl) (Nat.le_of_ble_eq_true rfl) (Nat.le_refl _) (Nat.le_refl _) dX7_fromBits_47 ?_
    rw [fb_max (f := f) (by omega)]
    refine lv_iload_n hx hb dX7_fromBits_50 rfl (lv_at hl 2 rfl) ?_
    refine lv_if_eq (tgt := 60) hx hb dX7_fromBits_51 (by decide) (fun c51 => ?_) (fun c51 => ?_)
    · exact absurd c51 hcv
    · refine lv_sipush (v := 1075) hx hb dX7_fromBits_54 (by decide) ?_
      refine lv_goto (tgt := 63) hx hb dX7_fromBits_57 (by decide) ?_
      refine lv_isub hx hb dX7_fromBits_63 ?_
      refine lv_topi (fun v1 ev1 => ?_)
      refine lv_istore (lv' := [(10, .int v1), (8, .long wv), (7, .int (nI f)), (0, .int cv), (1, .long (lN n))]) hx hb dX7_fromBits_64 hl (by decide) rfl (fun ls hl => ?_)
      refine lv_lload hx hb dX7_fromBits_66 (lv_at hl 1 rfl) ?_
      refine lv_l2d hx hb dX7_fromBits_68 ?_
      refine lv_topd (fun v2 ev2 => ?_)
      refine lv_iload hx hb dX7_fromBits_69 (lv_at hl 0 rfl) ?_
      have hE : v1.toInt = (fb_m f : Int) - 1075 := by
        have q1 : (nI (fb_m f)).toInt = (fb_m f : Int) := nI_toInt (by omega)
        rw [ev1, ib_sub (by rw [q1]; show -2 ^ 31 ≤ (fb_m f : Int) - 1075; omega) (by rw [q1]; show (fb_m f : Int) - 1075 < 2 ^ 31; omega), q1]
        rfl
      have hd : fz_is v2 false (fb_W 52 f (n % 2 ^ 52) * 2 ^ 1074) := by
        rw [ev2, hwv]
        exact fz_l2d (by omega)
      have htp := fb_tp (W := fb_W 52 f (n % 2 ^ 52)) (F := 1075) hmf.1 (by decide)
      have hg := fb_R (W := fb_W 52 f (n % 2 ^ 52)) (e := fb_m f + 1074 - 1075) (by omega) (by omega)
      refine pu_call (va_runS (As := [.double v2, .int v1]) (rest := []) ⟨hx, hb, hml, hown, hts⟩ (c_X7_timesPowerOfTwo l v2 false _ _ v1 hd (by rw [hE]; exact htp) (by omega) (by omega) hg) (va_cwS 2 hts gX7_fromBits_X7_timesPowerOfTwo rfl rfl rfl (by decide +kernel) ⟨Nat.le_of_ble_eq_true rfl, Nat.le_of_ble_eq_true rfl⟩) ⟨pu_blind _, fun U hU hW => ⟨rfl, trivial⟩⟩ rfl rfl hl.1 rfl (lv_room (Nat.le_of_ble_eq_true rfl)) dX7_fromBits_71 ⟨Nat.zero_le _, Nat.zero_le _⟩) (fun w hw => ?_)
      obtain ⟨r9, rfl, hr9⟩ := hw
      refine lv_dstore (lv' := [(11, .double r9), (10, .int v1), (8, .long wv), (7, .int (nI f)), (0, .int cv), (1, .long (lN n))]) hx hb dX7_fromBits_74 hl (by decide) rfl (fun ls hl => ?_)
      refine lv_iload_n hx hb dX7_fromBits_76 rfl (lv_at hl 4 rfl) ?_
      refine lv_if_eq (tgt := 94) hx hb dX7_fromBits_77 (by decide) (fun c77 => ?_) (fun c77 => ?_)
      · exact absurd c77 hcv
      · refine lv_lload_n hx hb dX7_fromBits_80 rfl (lv_at hl 5 rfl) ?_
        refine lv_lconst (v := 0) hx hb dX7_fromBits_81 (by decide) ?_
        refine W.lcmp hx hb dX7_fromBits_82 ?_
        refine lv_topi (fun v3 ev3 => ?_)
        refine lv_if_ge (tgt := 90) hx hb dX7_fromBits_83 (by decide) (fun c83 => ?_) (fun c83 => ?_)
        · have hsg : decide (2 ^ 63 ≤ n) = false := by
            rw [ev3 , lg_cmp_ge, Int64.le_iff_toInt_le, pk_ti hn] at c83
            exact decide_eq_false (by by_cases q : n < 2 ^ 63 <;> simp only [q, if_true, if_false] at c83 <;> first | omega | (have h0 : (0 : Int64).toInt = 0 := rfl; omega))
          refine lv_iconst (v := 0) hx hb dX7_fromBits_90 (by decide) ?_
          refine lv_goto (tgt := 104) hx hb dX7_fromBits_91 (by decide) ?_
          refine lv_istore (lv' := [(13, .int 0), (11, .double r9), (10, .int v1), (8, .long wv), (7, .int (nI f)), (0, .int cv), (1, .long (lN n))]) hx hb dX7_fromBits_104 hl (by decide) rfl (fun ls hl => ?_)
          refine lv_iload hx hb dX7_fromBits_106 (lv_at hl 0 rfl) ?_
          refine lv_if_eq (tgt := 117) hx hb dX7_fromBits_108 (by decide) (fun c108 => ?_) (fun c108 => ?_)
          · refine lv_dload hx hb dX7_fromBits_117 (lv_at hl 1 rfl) ?_
            exact W.dret (v := r9) hx hb hr (fun t ht hW => ⟨_, rfl, ⟨_, rfl, fz_uniq hr9 (by rw [hsg] at hres; exact hres)⟩, ht⟩) (fun q hq => absurd hq List.not_mem_nil) dX7_fromBits_119
          · exact absurd rfl c108
        · have hsg : decide (2 ^ 63 ≤ n) = true := by
            rw [ev3 , lg_cmp_ge, Int64.le_iff_toInt_le, pk_ti hn] at c83
            exact decide_eq_true (by by_cases q : n < 2 ^ 63 <;> simp only [q, if_true, if_false] at c83 <;> first | omega | (have h0 : (0 : Int64).toInt = 0 := rfl; omega))
          refine lv_iconst (v := 1) hx hb dX7_fromBits_86 (by decide) ?_
          refine lv_goto (tgt := 104) hx hb dX7_fromBits_87 (by decide) ?_
          refine lv_istore (lv' := [(13, .int 1), (11, .double r9), (10, .int v1), (8, .long wv), (7, .int (nI f)), (0, .int cv), (1, .long (lN n))]) hx hb dX7_fromBits_104 hl (by decide) rfl (fun ls hl => ?_)
          refine lv_iload hx hb dX7_fromBits_106 (lv_at hl 0 rfl) ?_
          refine lv_if_eq (tgt := 117) hx hb dX7_fromBits_108 (by decide) (fun c108 => ?_) (fun c108 => ?_)
          · exact absurd c108 (by decide)
          · refine lv_dload hx hb dX7_fromBits_111 (lv_at hl 1 rfl) ?_
            refine lv_dneg hx hb dX7_fromBits_113 ?_
            refine lv_topd (fun v4 ev4 => ?_)
            refine lv_goto (tgt := 119) hx hb dX7_fromBits_114 (by decide) ?_
            exact W.dret (v := v4) hx hb hr (fun t ht hW => ⟨_, rfl, ⟨_, rfl, fz_uniq (by rw [ev4]; exact fz_neg hr9) (by rw [hsg] at hres; exact hres)⟩, ht⟩) (fun q hq => absurd hq List.not_mem_nil) dX7_fromBits_119
  refine lv_lconst (v := 1) hx hb dX7_fromBits_0 (by decide) ?_
  refine lv_iload_n hx hb dX7_fromBits_1 rfl (lv_at hl 0 rfl) ?_
  refine lv_if_eq (tgt := 10) hx hb dX7_fromBits_2 (by decide) (fun c2 => ?_) (fun c2 => ?_)
  · exact absurd c2 hcv
  · refine lv_bipush (v := 52) hx hb dX7_fromBits_5 (by decide) ?_
    refine lv_goto (tgt := 12) hx hb dX7_fromBits_7 (by decide) ?_
    refine lv_lshl hx hb dX7_fromBits_12 rfl ?_
    refine lv_topl (fun v1 ev1 => ?_)
    refine lv_lstore_n (lv' := [(3, .long v1), (0, .int cv), (1, .long (lN n))]) hx hb dX7_fromBits_13 rfl hl (by decide) rfl (fun ls hl => ?_)
    refine lv_lload_n hx hb dX7_fromBits_14 rfl (lv_at hl 2 rfl) ?_
    refine lv_lload_n hx hb dX7_fromBits_15 rfl (lv_at hl 0 rfl) ?_
    refine lv_lconst (v := 1) hx hb dX7_fromBits_16 (by decide) ?_
    refine lv_lsub hx hb dX7_fromBits_17 ?_
    refine lv_topl (fun v2 ev2 => ?_)
    refine lv_land hx hb dX7_fromBits_18 ?_
    refine lv_topl (fun v3 ev3 => ?_)
    refine lv_lstore (lv' := [(5, .long v3), (3, .long v1), (0, .int cv), (1, .long (lN n))]) hx hb dX7_fromBits_19 hl (by decide) rfl (fun ls hl => ?_)
    refine lv_iload_n hx hb dX7_fromBits_21 rfl (lv_at hl 2 rfl) ?_
    refine lv_lload_n hx hb dX7_fromBits_22 rfl (lv_at hl 3 rfl) ?_
    refine pu_call (va_runS (As := [.int cv, .long (lN n)]) (rest := []) ⟨hx, hb, hml, hown, hts⟩ (c_X7_exponentField_w l cv n hcv hn) (va_cwS 2 hts gX7_fromBits_X7_exponentField rfl rfl rfl (by decide +kernel) ⟨Nat.le_of_ble_eq_true rfl, Nat.le_of_ble_eq_true rfl⟩) ⟨pu_blind _, fun U hU hW => ⟨rfl, trivial⟩⟩ rfl rfl hl.1 rfl (lv_room (Nat.le_of_ble_eq_true rfl)) dX7_fromBits_23 ⟨Nat.zero_le _, Nat.zero_le _⟩) (fun w hw => ?_)
    obtain ⟨r1, rfl, hr1⟩ := hw
    rw [← hfe] at hr1
    subst hr1
    refine lv_istore (lv' := [(7, .int (nI f)), (5, .long v3), (3, .long v1), (0, .int cv), (1, .long (lN n))]) hx hb dX7_fromBits_26 hl (by decide) rfl (fun ls hl => ?_)
    refine lv_iload hx hb dX7_fromBits_28 (lv_at hl 0 rfl) ?_
    refine lv_if_ne (tgt := 38) hx hb dX7_fromBits_30 (by decide) (fun c30 => ?_) (fun c30 => ?_)
    · have hc30 : ¬ f = 0 := fun q => c30 (by rw [q]; rfl)
      refine lv_lload hx hb dX7_fromBits_38 (lv_at hl 1 rfl) ?_
      refine lv_lload_n hx hb dX7_fromBits_40 rfl (lv_at hl 2 rfl) ?_
      refine lv_lor hx hb dX7_fromBits_41 ?_
      refine lv_topl (fun v4 ev4 => ?_)
      refine tail42 v4 ?_ ls (lv_sub hl [0, 3, 4] rfl)
      have q1 : v1 = lN (2 ^ 52) := by rw [ev1]; decide
      have q2 : v2 = lN (2 ^ 52 - 1) := by rw [ev2, q1]; decide
      have q3 : v3 = lN (n % 2 ^ 52) := by rw [ev3, q2]; exact wb_mask hn (by decide)
      rw [ev4, q3, q1]
      unfold fb_W
      rw [if_neg hc30]
      have q4 := g_or' (k := 52) (p := 2 ^ 52) (a := n % 2 ^ 52) (b := 1) rfl (Nat.mod_lt _ (by decide)) (by omega)
      rw [Nat.one_mul] at q4
      exact q4
    · have hc30 : f = 0 := (nI_eq (by omega) (by decide)).mp (Decidable.not_not.mp c30)
      refine lv_lload hx hb dX7_fromBits_33 (lv_at hl 1 rfl) ?_
      refine lv_goto (tgt := 42) hx hb dX7_fromBits_35 (by decide) ?_
      refine tail42 v3 ?_ ls (lv_sub hl [0, 3, 4] rfl)
      have q1 : v1 = lN (2 ^ 52) := by rw [ev1]; decide
      have q2 : v2 = lN (2 ^ 52 - 1) := by rw [ev2, q1]; decide
      have q3 : v3 = lN (n % 2 ^ 52) := by rw [ev3, q2]; exact wb_mask hn (by decide)
      rw [q3]
      unfold fb_W
      rw [if_pos hc30]
set_option maxHeartbeats 4000000 in
set_option maxRecDepth 100000 in
/-- the number that bits tell -/
theorem c_X7_fromBits_n (l : Launch) (cv : Int32) (n : Nat) (hcv : cv = 0) (hn : n < 2 ^ 64) (hfin : ¬ n / 2 ^ 23 % 2 ^ 8 = 255) : pu_M l yX7_fromBits wsX7_fromBits 1 28 [.int cv, .long (lN n)] (fun _ => True) (fun w => ∃ r : UInt64, w = .double r ∧ r = FP.f2d (UInt32.ofNat n)) := by
  refine pu_ofW (cc := cX7_fromBits) (maxL := 14) (ret := (some .double)) (by decide) rfl (fun p e s m below meth c hx hb hr hml hts hown hlocks hpre ls hl => ?_) (Nat.le_of_ble_eq_true rfl)
  have hl : lv_has ls 14 [(0, .int cv), (1, .long (lN n))] := hl
  have hf : n / 2 ^ 23 % 2 ^ 8 < 255 := by omega
  have hres := (fb_narrow hfin).2
  obtain ⟨f, hfe⟩ : ∃ f, f = n / 2 ^ 23 % 2 ^ 8 := ⟨_, rfl⟩
  rw [← hfe] at hf hres
  have hmf := fb_m_in hf (by decide)
  have hWl : fb_W 23 f (n % 2 ^ 23) < 2 ^ 24 := fb_W_lt (Nat.mod_lt _ (by decide))
  have tail42 : ∀ wv : Int64, wv = lN (fb_W 23 f (n % 2 ^ 23)) → ∀ ls : Array Slot, lv_has ls 14 [(7, .int (nI f)), (0, .int cv), (1, .long (lN n))] → pu_W p l e 1 28 s m [.int cv, .long (lN n)].toArray below meth c (fun w => ∃ r : UInt64, w = .double r ∧ r = FP.f2d (UInt32.ofNat n)) (F0 m 42 ls [.long wv]) := by
    intro wv hwv ls hl
    refine lv_lstore (lv' := [(8, .long wv), (7, .int (nI f)), (0, .int cv), (1, .long (lN n))]) hx hb dX7_fromBits_42 hl (by decide) rfl (fun ls hl => ?_)
    refine lv_iconst (v := 1) hx hb dX7_fromBits_44 (by decide) ?_
    refine lv_iload hx hb dX7_fromBits_45 (lv_at hl 1 rfl) ?_
    refine va_mmax hx hb (hml.trans hl.1.symm) hown (hts (.methodLink RX7 13 Lib.Math.max.name) (by decide +kernel)) (hts (.static Lib.Math.max.name) (by decide +kernel)) (hts (.initialized "java/lang/Math") (by decide +kernel)) (hts _ (List.mem_of_getElem? (i := 4) rfl)) (Nat.le_of_ble_eq_true rfl) (Nat.le_of_ble_eq_true rfl) (Nat.le_refl _) (Nat.le_refl _) dX7_fromBits_47 ?_
    rw [fb_max (f := f) (by omega)]
    refine lv_iload_n hx hb dX7_fromBits_50 rfl (lv_at hl 2 rfl) ?_
    refine lv_if_eq (tgt := 60) hx hb dX7_fromBits_51 (by decide) (fun c51 => ?_) (fun c51 => ?_)
    · refine lv_sipush (v := 150) hx hb dX7_fromBits_60 (by decide) ?_
      refine lv_isub hx hb dX7_fromBits_63 ?_
      refine lv_topi (fun v1 ev1 => ?_)
      refine lv_istore (lv' := [(10, .int v1), (8, .long wv), (7, .int (nI f)), (0, .int cv), (1, .long (lN n))]) hx hb dX7_fromBits_64 hl (by decide) rfl (fun ls hl => ?_)
      refine lv_lload hx hb dX7_fromBits_66 (lv_at hl 1 rfl) ?_
      refine lv_l2d hx hb dX7_fromBits_68 ?_
      refine lv_topd (fun v2 ev2 => ?_)
      refine lv_iload hx hb dX7_fromBits_69 (lv_at hl 0 rfl) ?_
      have hE : v1.toInt = (fb_m f : Int) - 150 := by
        have q1 : (nI (fb_m f)).toInt = (fb_m f : Int) := nI_toInt (by omega)
        rw [ev1, ib_sub (by rw [q1]; show -2 ^ 31 ≤ (fb_m f : Int) - 150; omega) (by rw [q1]; show (fb_m f : Int) - 150 < 2 ^ 31; omega), q1]
        rfl
      have hd : fz_is v2 false (fb_W 23 f (n % 2 ^ 23) * 2 ^ 1074) := by
        rw [ev2, hwv]
        exact fz_l2d (by omega)
      have htp := fb_tp (W := fb_W 23 f (n % 2 ^ 23)) (F := 150) hmf.1 (by decide)
      have hg := fb_R (W := fb_W 23 f (n % 2 ^ 23)) (e := fb_m f + 1074 - 150) (by omega) (by omega)
      refine pu_call (va_runS (As := [.double v2, .int v1]) (rest := []) ⟨hx, hb, hml, hown, hts⟩ (c_X7_timesPowerOfTwo l v2 false _ _ v1 hd (by rw [hE]; exact htp) (by omega) (by omega) hg) (va_cwS 2 hts gX7_fromBits_X7_timesPowerOfTwo rfl rfl rfl (by decide +kernel) ⟨Nat.le_of_ble_eq_true rfl, Nat.le_of_ble_eq_true rfl⟩) ⟨pu_blind _, fun U hU hW => ⟨rfl, trivial⟩⟩ rfl rfl hl.1 rfl (lv_room (Nat.le_of_ble_eq_true rfl)) dX7_fromBits_71 ⟨Nat.zero_le _, Nat.zero_le _⟩) (fun w hw => ?_)
      obtain ⟨r9, rfl, hr9⟩ := hw
      refine lv_dstore (lv' := [(11, .double r9), (10, .int v1), (8, .long wv), (7, .int (nI f)), (0, .int cv), (1, .long (lN n))]) hx hb dX7_fromBits_74 hl (by decide) rfl (fun ls hl => ?_)
      refine lv_iload_n hx hb dX7_fromBits_76 rfl (lv_at hl 4 rfl) ?_
      refine lv_if_eq (tgt := 94) hx hb dX7_fromBits_77 (by decide) (fun c77 => ?_) (fun c77 => ?_)
      · refine lv_lload_n hx hb dX7_fromBits_94 rfl (lv_at hl 5 rfl) ?_
        refine lv_l2i hx hb dX7_fromBits_95 rfl ?_
        refine lv_topi (fun v3 ev3 => ?_)
        refine lv_if_ge (tgt := 103) hx hb dX7_fromBits_96 (by decide) (fun c96 => ?_) (fun c96 => ?_)
        · have hsg : decide (2 ^ 31 ≤ n % 2 ^ 32) = false := by
            rw [ev3, lN_i, ib_le, pk_ti32] at c96
            exact decide_eq_false (by by_cases q : n % 2 ^ 32 < 2 ^ 31 <;> simp only [q, if_true, if_false] at c96 <;> first | omega | (have h0 : (0 : Int32).toInt = 0 := rfl; omega))
          refine lv_iconst (v := 0) hx hb dX7_fromBits_103 (by decide) ?_
          refine lv_istore (lv' := [(13, .int 0), (11, .double r9), (10, .int v1), (8, .long wv), (7, .int (nI f)), (0, .int cv), (1, .long (lN n))]) hx hb dX7_fromBits_104 hl (by decide) rfl (fun ls hl => ?_)
          refine lv_iload hx hb dX7_fromBits_106 (lv_at hl 0 rfl) ?_
          refine lv_if_eq (tgt := 117) hx hb dX7_fromBits_108 (by decide) (fun c108 => ?_) (fun c108 => ?_)
          · refine lv_dload hx hb dX7_fromBits_117 (lv_at hl 1 rfl) ?_
            exact W.dret (v := r9) hx hb hr (fun t ht hW => ⟨_, rfl, ⟨_, rfl, fz_uniq hr9 (by rw [hsg] at hres; exact hres)⟩, ht⟩) (fun q hq => absurd hq List.not_mem_nil) dX7_fromBits_119
          · exact absurd rfl c108
        · have hsg : decide (2 ^ 31 ≤ n % 2 ^ 32) = true := by
            rw [ev3, lN_i, ib_le, pk_ti32] at c96
            exact decide_eq_true (by by_cases q : n % 2 ^ 32 < 2 ^ 31 <;> simp only [q, if_true, if_false] at c96 <;> first | omega | (have h0 : (0 : Int32).toInt = 0 := rfl; omega))
          refine lv_iconst (v := 1) hx hb dX7_fromBits_99 (by decide) ?_
          refine lv_goto (tgt := 104) hx hb dX7_fromBits_100 (by decide) ?_
          refine lv_istore (lv' := [(13, .int 1), (11, .double r9), (10, .int v1), (8, .long wv), (7, .int (nI f)), (0, .int cv), (1, .long (lN n))]) hx hb dX7_fromBits_104 hl (by decide) rfl (fun ls hl => ?_)
          refine lv_iload hx hb dX7_fromBits_106 (lv_at hl 0 rfl) ?_
          refine lv_if_eq (tgt := 117) hx hb dX7_fromBits_108 (by decide) (fun c108 => ?_) (fun c108 => ?_)
          · exact absurd c108 (by decide)
          · refine lv_dload hx hb dX7_fromBits_111 (lv_at hl 1 rfl) ?_
            refine lv_dneg hx hb dX7_fromBits_113 ?_
            refine lv_topd (fun v4 ev4 => ?_)
            refine lv_goto (tgt := 119) hx hb dX7_fromBits_114 (by decide) ?_
            exact W.dret (v := v4) hx hb hr (fun t ht hW => ⟨_, rfl, ⟨_, rfl, fz_uniq (by rw [ev4]; exact fz_neg hr9) (by rw [hsg] at hres; exact hres)⟩, ht⟩) (fun q hq => absurd hq List.not_mem_nil) dX7_fromBits_119
      · exact absurd hcv c77
    · exact absurd hcv c51
  refine lv_lconst (v := 1) hx hb dX7_fromBits_0 (by decide) ?_
  refine lv_iload_n hx hb dX7_fromBits_1 rfl (lv_at hl 0 rfl) ?_
  refine lv_if_eq (tgt := 10) hx hb dX7_fromBits_2 (by decide) (fun c2 => ?_) (fun c2 => ?_)
  · refine lv_bipush (v := 23) hx hb dX7_fromBits_10 (by decide) ?_
    refine lv_lshl hx hb dX7_fromBits_12 rfl ?_
    refine lv_topl (fun v1 ev1 => ?_)
    refine lv_lstore_n (lv' := [(3, .long v1), (0, .int cv), (1, .long (lN n))]) hx hb dX7_fromBits_13 rfl hl (by decide) rfl (fun ls hl => ?_)
    refine lv_lload_n hx hb dX7_fromBits_14 rfl (lv_at hl 2 rfl) ?_
    refine lv_lload_n hx hb dX7_fromBits_15 rfl (lv_at hl 0 rfl) ?_
    refine lv_lconst (v := 1) hx hb dX7_fromBits_16 (by decide) ?_
    refine lv_lsub hx hb dX7_fromBits_17 ?_
    refine lv_topl (fun v2 ev2 => ?_)
    refine lv_land hx hb dX7_fromBits_18 ?_
    refine lv_topl (fun v3 ev3 => ?_)
    refine lv_lstore (lv' := [(5, .long v3), (3, .long v1), (0, .int cv), (1, .long (lN n))]) hx hb dX7_fromBits_19 hl (by decide) rfl (fun ls hl => ?_)
    refine lv_iload_n hx hb dX7_fromBits_21 rfl (lv_at hl 2 rfl) ?_
    refine lv_lload_n hx hb dX7_fromBits_22 rfl (lv_at hl 3 rfl) ?_
    refine pu_call (va_runS (As := [.int cv, .long (lN n)]) (rest := []) ⟨hx, hb, hml, hown, hts⟩ (c_X7_exponentField_n l cv n hcv hn) (va_cwS 2 hts gX7_fromBits_X7_exponentField rfl rfl rfl (by decide +kernel) ⟨Nat.le_of_ble_eq_true rfl, Nat.le_of_ble_eq_true rfl⟩) ⟨pu_blind _, fun U hU hW => ⟨rfl, trivial⟩⟩ rfl rfl hl.1 rfl (lv_room (Nat.le_of_ble_eq_true rfl)) dX7_fromBits_23 ⟨Nat.zero_le _, Nat.zero_le _⟩) (fun w hw => ?_)
    obtain ⟨r1, rfl, hr1⟩ := hw
    rw [← hfe] at hr1
    subst hr1
    refine lv_istore (lv' := [(7, .int (nI f)), (5, .long v3), (3, .long v1), (0, .int cv), (1, .long (lN n))]) hx hb dX7_fromBits_26 hl (by decide) rfl (fun ls hl => ?_)
    refine lv_iload hx hb dX7_fromBits_28 (lv_at hl 0 rfl) ?_
    refine lv_if_ne (tgt := 38) hx hb dX7_fromBits_30 (by decide) (fun c30 => ?_) (fun c30 => ?_)
    · have hc30 : ¬ f = 0 := fun q => c30 (by rw [q]; rfl)
      refine lv_lload hx hb dX7_fromBits_38 (lv_at hl 1 rfl) ?_
      refine lv_lload_n hx hb dX7_fromBits_40 rfl (lv_at hl 2 rfl) ?_
      refine lv_lor hx hb dX7_fromBits_41 ?_
      refine lv_topl (fun v4 ev4 => ?_)
      refine tail42 v4 ?_ ls (lv_sub hl [0, 3, 4] rfl)
      have q1 : v1 = lN (2 ^ 23) := by rw [ev1]; decide
      have q2 : v2 = lN (2 ^ 23 - 1) := by rw [ev2, q1]; decide
      have q3 : v3 = lN (n % 2 ^ 23) := by rw [ev3, q2]; exact wb_mask hn (by decide)
      rw [ev4, q3, q1]
      unfold fb_W
      rw [if_neg hc30]
      have q4 := g_or' (k := 23) (p := 2 ^ 23) (a := n % 2 ^ 23) (b := 1) rfl (Nat.mod_lt _ (by decide)) (by omega)
      rw [Nat.one_mul] at q4
      exact q4
    · have hc30 : f = 0 := (nI_eq (by omega) (by decide)).mp (Decidable.not_not.mp c30)
      refine lv_lload hx hb dX7_fromBits_33 (lv_at hl 1 rfl) ?_
      refine lv_goto (tgt := 42) hx hb dX7_fromBits_35 (by decide) ?_
      refine tail42 v3 ?_ ls (lv_sub hl [0, 3, 4] rfl)
      have q1 : v1 = lN (2 ^ 23) := by rw [ev1]; decide
      have q2 : v2 = lN (2 ^ 23 - 1) := by rw [ev2, q1]; decide
      have q3 : v3 = lN (n % 2 ^ 23) := by rw [ev3, q2]; exact wb_mask hn (by decide)
      rw [q3]
      unfold fb_W
      rw [if_pos hc30]
  · exact absurd hcv c2
