/-! DOUBLES BY SIGN AND MAGNITUDE. fz_is a s n: the double a is finite, of sign s, and n times 2^-1074 in size -/
def fz_is (a : UInt64) (s : Bool) (n : Nat) : Prop := FP.Core.DFin a ∧ FP.Core.sgn (FP.Core.val64 a) = s ∧ FP.Core.zmag FP.Core.b64 (FP.Core.val64 a) = n
/-- the double of a sign and a magnitude, rounded -/
def fz_mk (s : Bool) (n : Nat) : UInt64 := FP.Core.of64 (FP.Core.round FP.Core.b64 (.fin s n (-1074)))
/-- a magnitude that has at most 53 digits beside zeros behind them -/
def fz_C (n : Nat) : Prop := ∃ c j : Nat, c < 2 ^ 53 ∧ n = c * 2 ^ j
def fz_R (n : Nat) : Prop := n < 2 ^ 2098 ∧ fz_C n
theorem fz_uniq {a b : UInt64} {s : Bool} {n : Nat} (ha : fz_is a s n) (hb : fz_is b s n) : a = b := by
  obtain ⟨fa, sa, na⟩ := ha
  obtain ⟨fb, sb, nb⟩ := hb
  have ma := FP.Core.zmag_bits fa.ne_nan
  have mb := FP.Core.zmag_bits fb.ne_nan
  have sa' := FP.Core.sgn_bits fa.ne_nan
  have sb' := FP.Core.sgn_bits fb.ne_nan
  have hm : FP.Core.unitsOf FP.Core.b64 (a.toNat % 2 ^ 63) = FP.Core.unitsOf FP.Core.b64 (b.toNat % 2 ^ 63) := by rw [← ma, ← mb, na, nb]
  have h1 : a.toNat % 2 ^ 63 = b.toNat % 2 ^ 63 := by
    have l1 := (FP.Core.unitsOf_le_iff (f := FP.Core.b64)).mp (Nat.le_of_eq hm)
    have l2 := (FP.Core.unitsOf_le_iff (f := FP.Core.b64)).mp (Nat.le_of_eq hm.symm)
    omega
  have h2 : (2 ^ 63 ≤ a.toNat) ↔ (2 ^ 63 ≤ b.toNat) := by
    rw [sa] at sa'
    rw [sb] at sb'
    exact decide_eq_decide.mp (sa'.symm.trans sb')
  have h3 := a.toNat_lt
  have h4 := b.toNat_lt
  exact UInt64.toNat_inj.mp (by omega)
theorem fz_top : FP.Core.b64.tails * 2 ^ (FP.Core.b64.exps - 2) = 2 ^ 2098 := by decide +kernel
theorem fz_round (s : Bool) (n c : Nat) (e : Int) (j : Nat) (he : e = -1074 + (j : Int)) (h : n = c * 2 ^ j) : FP.Core.round FP.Core.b64 (.fin s n (-1074)) = FP.Core.round FP.Core.b64 (.fin s c e) := by
  refine FP.Core.roundRatio_congr (by decide) (by decide) ?_
  rw [show (-1074 - e).toNat = 0 by omega, show (e - -1074).toNat = j by omega]
  rw [h]
  simp
theorem fz_fit (s : Bool) (n : Nat) : FP.Core.val64 (fz_mk s n) = FP.Core.round FP.Core.b64 (.fin s n (-1074)) := FP.Core.val64_of64 (FP.Core.round_fits FP.Core.good_b64 _)
theorem fz_norm {n : Nat} (h : fz_R n) : ∃ c j : Nat, c < 2 ^ 53 ∧ j ≤ 2045 ∧ n = c * 2 ^ j := by
  obtain ⟨hn, c, j, hc, he⟩ := h
  rcases Nat.lt_or_ge 2045 j with hj | hj
  · have h2 : n = c * 2 ^ (j - 2045) * 2 ^ 2045 := by rw [Nat.mul_assoc, ← Nat.pow_add, he]; congr 2; omega
    refine ⟨c * 2 ^ (j - 2045), 2045, ?_, Nat.le_refl _, h2⟩
    refine Nat.lt_of_mul_lt_mul_right (a := 2 ^ 2045) ?_
    rw [← h2, ← Nat.pow_add]
    exact hn
  · exact ⟨c, j, hc, hj, he⟩
theorem fz_mk_is {s : Bool} {n : Nat} (h : fz_R n) : fz_is (fz_mk s n) s n := by
  obtain ⟨c, j, hc, hj, he⟩ := fz_norm h
  obtain ⟨c', q', h1, h2⟩ := FP.Core.round_exact FP.Core.good_b64 s (c := c) (q := -1074 + (j : Int)) hc (by rw [FP.Core.qmin_b64]; omega) (by rw [show FP.Core.b64.qmax = 971 by decide]; omega)
  have hv : FP.Core.val64 (fz_mk s n) = .fin s c' q' := by rw [fz_fit, fz_round s n c _ j rfl he, h1]
  refine ⟨⟨s, c', q', hv⟩, by rw [hv]; rfl, ?_⟩
  rw [hv]
  show FP.Core.inUnits c' q' FP.Core.b64.qmin = n
  rw [h2, FP.Core.qmin_b64, he]
  unfold FP.Core.inUnits
  congr 2
  omega
theorem fz_is_R {a : UInt64} {s : Bool} {n : Nat} (h : fz_is a s n) : fz_R n := by
  obtain ⟨fa, sa, na⟩ := h
  have hl := fa.zval_lt
  rw [fz_top, na] at hl
  obtain ⟨t, c, q, hv⟩ := fa
  have hf := FP.Core.val64_fits a
  rw [hv] at hf
  refine ⟨hl, c, (q - FP.Core.b64.qmin).toNat, hf.1, ?_⟩
  rw [← na, hv]
  rfl
theorem fz_eta {a : UInt64} {s : Bool} {n : Nat} (h : fz_is a s n) : a = fz_mk s n := fz_uniq h (fz_mk_is (fz_is_R h))
/-- what an operation's exact value makes, where that value is n -/
theorem fz_of {a : UInt64} {s : Bool} {n : Nat} (hn : fz_R n) (h : FP.Core.val64 a = FP.Core.round FP.Core.b64 (.fin s n (-1074))) : fz_is a s n := by
  have h1 := fz_mk_is (s := s) hn
  rw [fz_fit s n |>.symm] at h
  obtain ⟨f1, s1, n1⟩ := h1
  obtain ⟨t, c, q, hv⟩ := f1
  exact ⟨⟨t, c, q, h.trans hv⟩, by rw [h]; exact s1, by rw [h]; exact n1⟩
theorem fz_val {a : UInt64} {s : Bool} {n : Nat} (h : fz_is a s n) : ∃ (c : Nat) (q : Int), FP.Core.val64 a = .fin s c q ∧ -1074 ≤ q ∧ c * 2 ^ (q + 1074).toNat = n := by
  obtain ⟨⟨t, c, q, hv⟩, sa, na⟩ := h
  rw [hv] at sa na
  have hf := FP.Core.val64_fits a
  rw [hv] at hf
  have h2 := hf.2.1
  rw [FP.Core.qmin_b64] at h2
  have hs : t = s := sa
  subst hs
  refine ⟨c, q, hv, h2, ?_⟩
  rw [← na]
  show _ = c * 2 ^ (q - FP.Core.b64.qmin).toNat
  rw [FP.Core.qmin_b64]
  congr 2
/-- times a power of two -/
theorem fz_mulr {a b : UInt64} {s : Bool} {n k : Nat} (ha : fz_is a s n) (hb : fz_is b false (2 ^ (1074 + k))) : FP.Core.val64 (FP.dmul a b) = FP.Core.round FP.Core.b64 (.fin s (n * 2 ^ k) (-1074)) := by
  obtain ⟨c, q, ha, hq, hn⟩ := fz_val ha
  obtain ⟨d, r, hb, hr, hm⟩ := fz_val hb
  show FP.Core.val64 (FP.Core.dmul a b) = _
  rw [FP.Core.val64_dmul, ha, hb]
  show FP.Core.roundRatio FP.Core.b64 (s != false) (c * d) 1 (q + r) = FP.Core.roundRatio FP.Core.b64 s (n * 2 ^ k) 1 (-1074)
  rw [Bool.bne_false]
  refine FP.Core.roundRatio_congr (by decide) (by decide) ?_
  rw [Nat.mul_one, Nat.mul_one]
  have p1 : (q + r - -1074).toNat + 1074 = (-1074 - (q + r)).toNat + ((q + 1074).toNat + (r + 1074).toNat) := by omega
  refine Nat.eq_of_mul_eq_mul_right (Nat.two_pow_pos 1074) ?_
  calc c * d * 2 ^ (q + r - -1074).toNat * 2 ^ 1074 = c * d * (2 ^ ((-1074 - (q + r)).toNat + ((q + 1074).toNat + (r + 1074).toNat))) := by rw [← p1, Nat.pow_add]; ac_rfl
    _ = (c * 2 ^ (q + 1074).toNat) * (d * 2 ^ (r + 1074).toNat) * 2 ^ (-1074 - (q + r)).toNat := by simp only [Nat.pow_add]; ac_rfl
    _ = n * 2 ^ k * 2 ^ (-1074 - (q + r)).toNat * 2 ^ 1074 := by rw [hn, hm, Nat.pow_add]; ac_rfl
theorem fz_mul {a b : UInt64} {s : Bool} {n k : Nat} (ha : fz_is a s n) (hb : fz_is b false (2 ^ (1074 + k))) (hR : fz_R (n * 2 ^ k)) : fz_is (FP.dmul a b) s (n * 2 ^ k) := fz_of hR (fz_mulr ha hb)
/-- by a power of two that divides it -/
theorem fz_div {a b : UInt64} {s : Bool} {n k : Nat} (ha : fz_is a s (n * 2 ^ k)) (hb : fz_is b false (2 ^ (1074 + k))) (hR : fz_R n) : fz_is (FP.ddiv a b) s n := by
  refine fz_of hR ?_
  obtain ⟨c, q, ha, hq, hn⟩ := fz_val ha
  obtain ⟨d, r, hb, hr, hm⟩ := fz_val hb
  show FP.Core.val64 (FP.Core.ddiv a b) = _
  have hd : d ≠ 0 := by
    rintro rfl
    rw [Nat.zero_mul] at hm
    exact absurd hm.symm (Nat.ne_of_gt (Nat.two_pow_pos _))
  rw [FP.Core.val64_ddiv, ha, hb]
  show (if d = 0 then (if c = 0 then FP.Core.Datum.nan else .inf (s != false)) else FP.Core.roundRatio FP.Core.b64 (s != false) c d (q - r)) = FP.Core.roundRatio FP.Core.b64 s n 1 (-1074)
  rw [if_neg hd, Bool.bne_false]
  refine FP.Core.roundRatio_congr (by omega) (by decide) ?_
  rw [Nat.mul_one]
  have p1 : (q - r - -1074).toNat + (r + 1074).toNat = (-1074 - (q - r)).toNat + ((q + 1074).toNat + 1074) := by omega
  refine Nat.eq_of_mul_eq_mul_right (Nat.two_pow_pos (r + 1074).toNat) ?_
  calc c * 2 ^ (q - r - -1074).toNat * 2 ^ (r + 1074).toNat = c * (2 ^ ((-1074 - (q - r)).toNat + ((q + 1074).toNat + 1074))) := by rw [← p1, Nat.pow_add]; ac_rfl
    _ = (c * 2 ^ (q + 1074).toNat) * 2 ^ 1074 * 2 ^ (-1074 - (q - r)).toNat := by simp only [Nat.pow_add]; ac_rfl
    _ = n * (d * 2 ^ (r + 1074).toNat) * 2 ^ (-1074 - (q - r)).toNat := by rw [hn, hm, Nat.pow_add]; ac_rfl
    _ = n * d * 2 ^ (-1074 - (q - r)).toNat * 2 ^ (r + 1074).toNat := by ac_rfl
/-- the difference of two that are not below 0 -/
theorem fz_sub {a b : UInt64} {n m : Nat} (ha : fz_is a false n) (hb : fz_is b false m) (hle : m ≤ n) (hR : fz_R (n - m)) : fz_is (FP.dsub a b) false (n - m) := by
  refine fz_of hR ?_
  obtain ⟨c, q, ha, hq, hn⟩ := fz_val ha
  obtain ⟨d, r, hb, hr, hm⟩ := fz_val hb
  show FP.Core.val64 (FP.Core.dsub a b) = _
  rw [FP.Core.val64_dsub, ha, hb]
  obtain ⟨e, he⟩ : ∃ e, e = min q r := ⟨_, rfl⟩
  obtain ⟨x, hx⟩ : ∃ x, x = FP.Core.inUnits c q e := ⟨_, rfl⟩
  obtain ⟨y, hy⟩ : ∃ y, y = FP.Core.inUnits d r e := ⟨_, rfl⟩
  have hx2 : x * 2 ^ (e + 1074).toNat = n := by
    rw [hx, ← hn]
    show c * 2 ^ (q - e).toNat * 2 ^ (e + 1074).toNat = _
    rw [Nat.mul_assoc, ← Nat.pow_add]
    congr 2
    omega
  have hy2 : y * 2 ^ (e + 1074).toNat = m := by
    rw [hy, ← hm]
    show d * 2 ^ (r - e).toNat * 2 ^ (e + 1074).toNat = _
    rw [Nat.mul_assoc, ← Nat.pow_add]
    congr 2
    omega
  have hyx : y ≤ x := by
    refine Nat.le_of_mul_le_mul_right (a := 2 ^ (e + 1074).toNat) ?_ (Nat.two_pow_pos _)
    rw [hx2, hy2]
    exact hle
  have hV : FP.Core.sumUnits false c q true d r e = ((x - y : Nat) : Int) := by
    show FP.Core.signed false (FP.Core.inUnits c q e) + FP.Core.signed true (FP.Core.inUnits d r e) = _
    rw [← hx, ← hy]
    simp only [FP.Core.signed]
    simp
    omega
  have hE : FP.Core.exactSum (.fin false c q) (FP.Core.negate (.fin false d r)) = .fin false (x - y) e := by
    show FP.Core.Datum.fin (FP.Core.sumSign false true (FP.Core.sumUnits false c q true d r (min q r))) (FP.Core.sumUnits false c q true d r (min q r)).natAbs (min q r) = _
    rw [← he, hV]
    have h1 : FP.Core.sumSign false true ((x - y : Nat) : Int) = false := by
      unfold FP.Core.sumSign
      split
      · rfl
      · exact decide_eq_false (by omega)
    rw [h1, Int.natAbs_natCast]
  rw [hE]
  refine (fz_round false (n - m) (x - y) e (e + 1074).toNat (by omega) ?_).symm
  rw [Nat.sub_mul, hx2, hy2]
theorem fz_cmp {a b : UInt64} {s t : Bool} {n m : Nat} (ha : fz_is a s n) (hb : fz_is b t m) : FP.dcmp a b = some (compare (FP.Core.signed s n) (FP.Core.signed t m)) := by
  have h := FP.Core.dcmp_zval ha.1.ne_nan hb.1.ne_nan
  unfold FP.Core.zval at h
  rw [ha.2.1, ha.2.2, hb.2.1, hb.2.2] at h
  exact h
theorem fz_neg {a : UInt64} {s : Bool} {n : Nat} (ha : fz_is a s n) : fz_is (FP.dneg a) (!s) n := by
  obtain ⟨⟨t, c, q, hv⟩, sa, na⟩ := ha
  have h := FP.val64_dneg a
  rw [hv] at h sa na
  have hs : t = s := sa
  subst hs
  refine ⟨⟨!t, c, q, h⟩, by rw [h]; rfl, by rw [h]; exact na⟩
theorem fz_pow_le {a b : Nat} (h : a ≤ b) : 2 ^ a ≤ 2 ^ b := Nat.pow_le_pow_right (by decide) h
theorem fz_pow_lt {a b : Nat} (h : a < b) : 2 ^ a < 2 ^ b := Nat.pow_lt_pow_right (by decide) h
theorem fz_R_nat {w : Nat} (hw : w < 2 ^ 53) : fz_R (w * 2 ^ 1074) := by
  refine ⟨?_, w, 1074, hw, rfl⟩
  calc w * 2 ^ 1074 < 2 ^ 53 * 2 ^ 1074 := Nat.mul_lt_mul_of_pos_right hw (Nat.two_pow_pos _)
    _ = 2 ^ 1127 := (Nat.pow_add 2 53 1074).symm
    _ < 2 ^ 2098 := fz_pow_lt (by omega)
theorem fz_l2d {w : Nat} (hw : w < 2 ^ 53) : fz_is (FP.l2d (lN w)) false (w * 2 ^ 1074) := by
  refine fz_of (fz_R_nat hw) ?_
  show FP.Core.val64 (FP.Core.l2d (lN w)) = _
  rw [FP.Core.val64_l2d, pk_lT (n := w) (by omega)]
  show FP.Core.round FP.Core.b64 (.fin (decide ((w : Int) < 0)) (w : Int).natAbs 0) = _
  rw [decide_eq_false (by omega), Int.natAbs_natCast]
  exact (fz_round false (w * 2 ^ 1074) w 0 1074 (by omega) rfl).symm
theorem fz_d2l {a : UInt64} {w : Nat} (h : fz_is a false (w * 2 ^ 1074)) (hw : w < 2 ^ 63) : FP.d2l a = lN w := by
  have h1 := FP.Core.d2l_val h.1.ne_nan
  rw [h.2.1, h.2.2] at h1
  have h2 : w * 2 ^ 1074 / FP.Core.one64 = w := Nat.mul_div_cancel _ (Nat.two_pow_pos _)
  rw [h2] at h1
  refine Int64.toInt_inj.mp ?_
  rw [pk_lT hw]
  refine h1.trans ?_
  simp only [FP.Core.signed]
  simp
  omega
theorem fz_nn {a : UInt64} (h : FP.Core.val64 a ≠ .nan) : vf_n64 a := by
  unfold vf_n64
  rw [UInt64.le_iff_toNat_le, FP.Core.mask_toNat]
  exact (FP.Core.ne_nan a).mp h
theorem fz_n {a : UInt64} {s : Bool} {n : Nat} (h : fz_is a s n) : vf_n64 a := fz_nn h.1.ne_nan
/-- what a comparison pushes -/
theorem fz_cv {o : Ordering} {op : CmpOp} {a b : UInt64} {i j : Int} (h : FP.dcmp a b = some o) (ho : o = compare i j) {v : Int32} (ev : v = Op.cmpValue (FP.dcmp a b) op) : (v < 0 ↔ i < j) ∧ (v ≤ 0 ↔ i ≤ j) ∧ (0 ≤ v ↔ j ≤ i) ∧ (0 < v ↔ j < i) ∧ (v = 0 ↔ i = j) := by
  rw [h] at ev
  have h1 : (o = .lt ∧ i < j) ∨ (o = .eq ∧ i = j) ∨ (o = .gt ∧ j < i) := by
    rw [ho]
    rcases Int.lt_trichotomy i j with q | q | q
    · exact Or.inl ⟨(FP.Core.compare_lt_iff i j).mpr q, q⟩
    · exact Or.inr (Or.inl ⟨(FP.Core.compare_eq_iff i j).mpr q, q⟩)
    · exact Or.inr (Or.inr ⟨(FP.Core.compare_gt_iff i j).mpr q, q⟩)
  rcases h1 with ⟨q, r⟩ | ⟨q, r⟩ | ⟨q, r⟩
  · have e2 : v = -1 := by rw [ev, q]; cases op <;> rfl
    subst e2
    exact ⟨iff_of_true (by decide) r, iff_of_true (by decide) (by omega), iff_of_false (by decide) (by omega), iff_of_false (by decide) (by omega), iff_of_false (by decide) (by omega)⟩
  · have e2 : v = 0 := by rw [ev, q]; cases op <;> rfl
    subst e2
    exact ⟨iff_of_false (by decide) (by omega), iff_of_true (by decide) (by omega), iff_of_true (by decide) (by omega), iff_of_false (by decide) (by omega), iff_of_true rfl r⟩
  · have e2 : v = 1 := by rw [ev, q]; cases op <;> rfl
    subst e2
    exact ⟨iff_of_false (by decide) (by omega), iff_of_false (by decide) (by omega), iff_of_true (by decide) (by omega), iff_of_true (by decide) r, iff_of_false (by decide) (by omega)⟩
theorem fz_c {op : CmpOp} {a b : UInt64} {s t : Bool} {n m : Nat} (ha : fz_is a s n) (hb : fz_is b t m) {v : Int32} (ev : v = Op.cmpValue (FP.dcmp a b) op) : (v < 0 ↔ FP.Core.signed s n < FP.Core.signed t m) ∧ (v ≤ 0 ↔ FP.Core.signed s n ≤ FP.Core.signed t m) ∧ (0 ≤ v ↔ FP.Core.signed t m ≤ FP.Core.signed s n) ∧ (0 < v ↔ FP.Core.signed t m < FP.Core.signed s n) ∧ (v = 0 ↔ FP.Core.signed s n = FP.Core.signed t m) := fz_cv (fz_cmp ha hb) rfl ev
theorem fz_sf (n : Nat) : FP.Core.signed false n = (n : Int) := rfl
theorem fz_st (n : Nat) : FP.Core.signed true n = -(n : Int) := rfl
theorem fz_s0 (s : Bool) : FP.Core.signed s 0 = 0 := by cases s <;> rfl
theorem fz_zero : fz_is FP.dconst0 false 0 := ⟨⟨false, 0, _, FP.Core.val64_zero⟩, by rw [show FP.dconst0 = 0 from rfl, FP.Core.val64_zero]; rfl, by rw [show FP.dconst0 = 0 from rfl, FP.Core.val64_zero]; exact Nat.zero_mul _⟩
/-- the product with a power of two against a number: also where it runs over -/
theorem fz_mulcmp {op : CmpOp} {a b w : UInt64} {n m k : Nat} {t : Bool} (ha : fz_is a false n) (hb : fz_is b false (2 ^ (1074 + k))) (hw : fz_is w t m) (ht : FP.Core.signed t m = (m : Int)) : vf_n64 (FP.dmul a b) ∧ ∀ v : Int32, v = Op.cmpValue (FP.dcmp (FP.dmul a b) w) op → (0 < v ↔ m < n * 2 ^ k) := by
  have hv := fz_mulr ha hb
  have hnn : FP.Core.val64 (FP.dmul a b) ≠ .nan := by
    rw [hv]
    exact FP.Core.roundRatio_ne_nan _ _ _ _ _
  refine ⟨fz_nn hnn, fun v ev => ?_⟩
  rcases Nat.lt_or_ge (n * 2 ^ k) (2 ^ 2098) with hlt | hge
  · have hR : fz_R (n * 2 ^ k) := by
      obtain ⟨_, c, j, hc, hj⟩ := fz_is_R ha
      exact ⟨hlt, c, j + k, hc, by rw [hj, Nat.pow_add, Nat.mul_assoc]⟩
    have h := (fz_c (fz_mul ha hb hR) hw ev).2.2.2.1
    rw [h, ht, fz_sf]
    omega
  · have hc := FP.Core.dcmp_zval hnn hw.1.ne_nan
    have hm : m < 2 ^ 2098 := (fz_is_R hw).1
    have hz : 2 ^ 2098 ≤ FP.Core.zmag FP.Core.b64 (FP.Core.val64 (FP.dmul a b)) := by
      rw [hv]
      have h := FP.Core.zmag_roundRatio_ge (f := FP.Core.b64) FP.Core.good_b64 (s := false) (A := n * 2 ^ k) (B := 1) (e := -1074) (e0 := -1074) (V := .inf false) (by decide) trivial (by decide) (by decide) (by
        show FP.Core.b64.tails * 2 ^ (FP.Core.b64.exps - 2) * _ * 1 ≤ _
        rw [fz_top, show (FP.Core.b64.qmin - -1074).toNat = 0 by decide]
        unfold FP.Core.inUnits
        simpa using hge)
      rw [← fz_top]
      exact h
    have hs : FP.Core.sgn (FP.Core.val64 (FP.dmul a b)) = false := by
      rw [hv]
      exact FP.Core.sgn_roundRatio _ _ _ _ _
    have h := (fz_cv hc rfl ev).2.2.2.1
    unfold FP.Core.zval at h
    rw [hs, hw.2.1, hw.2.2, ht, fz_sf] at h
    rw [h]
    constructor
    · intro _
      omega
    · intro _
      omega
theorem fz_C_mul {n : Nat} (k : Nat) (h : fz_C n) : fz_C (n * 2 ^ k) := by
  obtain ⟨c, j, hc, hj⟩ := h
  exact ⟨c, j + k, hc, by rw [hj, Nat.pow_add, Nat.mul_assoc]⟩
/-- Sterbenz: what is left above a part is written with no more digits -/
theorem fz_C_sub {n m : Nat} (hn : fz_C n) (hm : fz_C m) (h1 : m ≤ n) (h2 : n < 2 * m) : fz_C (n - m) := by
  obtain ⟨c, j, hc, hj⟩ := hn
  obtain ⟨d, i, hd, hi⟩ := hm
  rcases Nat.le_total i j with hij | hij
  · refine ⟨c * 2 ^ (j - i) - d, i, ?_, ?_⟩
    · have e1 : n = c * 2 ^ (j - i) * 2 ^ i := by rw [hj, Nat.mul_assoc, ← Nat.pow_add]; congr 2; omega
      have p1 := Nat.two_pow_pos i
      have : c * 2 ^ (j - i) < 2 * d := by
        refine Nat.lt_of_mul_lt_mul_right (a := 2 ^ i) ?_
        rw [← e1, Nat.mul_assoc, ← hi]
        exact h2
      omega
    · rw [Nat.sub_mul, ← hi, Nat.mul_assoc, ← Nat.pow_add, show j - i + i = j by omega, ← hj]
  · refine ⟨c - d * 2 ^ (i - j), j, by omega, ?_⟩
    rw [Nat.sub_mul, ← hj, Nat.mul_assoc, ← Nat.pow_add, show i - j + j = i by omega, ← hi]
