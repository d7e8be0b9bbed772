theorem tb_d2l {a : UInt64} {s : Bool} {w : Nat} (h : fz_is a s (w * 2 ^ 1074)) (hs : s = false ∨ w = 0) (hw : w < 2 ^ 63) : FP.d2l a = lN w := by
  rcases hs with hs | hs
  · subst hs
    exact fz_d2l h hw
  · subst hs
    have h1 := FP.Core.d2l_val h.1.ne_nan
    rw [h.2.1, h.2.2, Nat.zero_mul, Nat.zero_div, fz_s0] at h1
    refine Int64.toInt_inj.mp ?_
    rw [pk_lT hw]
    exact h1
/-- what holds where the strides are gone through -/
theorem tb_end {P F E NB n c j j1 f : Nat} (hcj : n = c * 2 ^ j) (hc : c < 2 ^ (P + 1)) (hj : 1075 ≤ j + F) (hn : n < 2 ^ NB) (hNB : NB + F = P + 1 + 1074 + (E - 1)) (hjf : j1 + f = j + F) (h1 : 1 ≤ f) (hE : f < E) (ha : f ≤ 1 ∨ 2 ^ (1074 + P) ≤ c * 2 ^ j1) (hb : E ≤ f + 1 ∨ c * 2 ^ j1 < 2 ^ (1074 + P + 1)) : ∃ w : Nat, c * 2 ^ j1 = w * 2 ^ 1074 ∧ w < 2 ^ (P + 1) ∧ (f = 1 ∨ 2 ^ P ≤ w) ∧ n * 2 ^ F = w * 2 ^ (1074 + f) := by
  have hmul : n * 2 ^ F = c * 2 ^ j1 * 2 ^ f := by rw [hcj, Nat.mul_assoc, ← Nat.pow_add, Nat.mul_assoc, ← Nat.pow_add, hjf]
  have hj1 : 1074 ≤ j1 := by
    rcases ha with ha | ha
    · omega
    · rcases Nat.lt_or_ge j1 1074 with q | q
      · exfalso
        have q1 : c * 2 ^ j1 ≤ c * 2 ^ 1073 := Nat.mul_le_mul_left _ (fz_pow_le (by omega))
        have q2 : c * 2 ^ 1073 < 2 ^ (P + 1) * 2 ^ 1073 := Nat.mul_lt_mul_of_pos_right hc (Nat.two_pow_pos _)
        rw [← Nat.pow_add, show P + 1 + 1073 = 1074 + P by omega] at q2
        omega
      · exact q
  have hw : c * 2 ^ j1 = c * 2 ^ (j1 - 1074) * 2 ^ 1074 := by
    rw [Nat.mul_assoc, ← Nat.pow_add]
    congr 2
    omega
  refine ⟨c * 2 ^ (j1 - 1074), hw, ?_, ?_, ?_⟩
  · have hlt : c * 2 ^ j1 < 2 ^ (1074 + P + 1) := by
      rcases hb with hb | hb
      · have hf : f = E - 1 := by omega
        refine Nat.lt_of_mul_lt_mul_right (a := 2 ^ f) ?_
        rw [← hmul, ← Nat.pow_add]
        calc n * 2 ^ F < 2 ^ NB * 2 ^ F := Nat.mul_lt_mul_of_pos_right hn (Nat.two_pow_pos _)
          _ = 2 ^ (NB + F) := (Nat.pow_add 2 NB F).symm
          _ = 2 ^ (1074 + P + 1 + f) := by congr 1; omega
      · exact hb
    refine Nat.lt_of_mul_lt_mul_right (a := 2 ^ 1074) ?_
    rw [← hw, ← Nat.pow_add, show P + 1 + 1074 = 1074 + P + 1 by omega]
    exact hlt
  · rcases ha with ha | ha
    · exact Or.inl (by omega)
    · refine Or.inr (Nat.le_of_mul_le_mul_right (a := 2 ^ 1074) ?_ (Nat.two_pow_pos _))
      rw [← hw, ← Nat.pow_add, Nat.add_comm]
      exact ha
  · rw [hmul, hw, Nat.mul_assoc, ← Nat.pow_add]
theorem tb_units {f : FP.Core.Fmt} {P w e : Nat} (hP : f.tails = 2 ^ P) (h1 : 1 ≤ e) (hw : w < 2 ^ (P + 1)) (hn : e = 1 ∨ 2 ^ P ≤ w) : FP.Core.unitsOf f ((e - 1) * 2 ^ P + w) = w * 2 ^ (e - 1) := by
  rw [fb_units hP]
  have hp := Nat.two_pow_pos P
  rw [Nat.pow_succ] at hw
  rcases Nat.lt_or_ge w (2 ^ P) with q | q
  · have he : e = 1 := by
      rcases hn with h | h
      · exact h
      · omega
    subst he
    rw [Nat.sub_self, Nat.zero_mul, Nat.zero_add, Nat.div_eq_of_lt q, Nat.mod_eq_of_lt q]
    unfold fb_W fb_m
    simp
  · have e2 : (e - 1) * 2 ^ P + w = (w - 2 ^ P) + 2 ^ P * e := by
      obtain ⟨e3, rfl⟩ : ∃ e3, e = e3 + 1 := ⟨e - 1, by omega⟩
      rw [Nat.add_sub_cancel, Nat.mul_add, Nat.mul_one, Nat.mul_comm]
      omega
    have h3 : w - 2 ^ P < 2 ^ P := by omega
    rw [e2, Nat.add_mul_div_left _ _ hp, Nat.add_mul_mod_self_left, Nat.div_eq_of_lt h3, Nat.mod_eq_of_lt h3, Nat.zero_add]
    unfold fb_W fb_m
    rw [if_neg (by omega), if_neg (by omega), Nat.sub_add_cancel q]
theorem tb_64 (x : UInt64) : x.toInt64 = lN x.toNat := by
  refine wb_inj ?_
  rw [wb_tb]
  show x.toBitVec = BitVec.ofNat 64 x.toBitVec.toNat
  simp
theorem tb_32 (u : UInt32) : u.toInt32 = nI u.toNat := by
  refine Int32.toBitVec_inj.mp ?_
  show u.toBitVec = BitVec.ofNat 32 u.toBitVec.toNat
  simp
theorem tb_up {c j1 k : Nat} : c * 2 ^ j1 * 2 ^ k = c * 2 ^ (j1 + k) := by rw [Nat.mul_assoc, ← Nat.pow_add]
/-- what the end of toBits makes of them -/
theorem tb_wide {x : UInt64} {t : Bool} {n f w : Nat} (h : fz_is x t n) (hw : w < 2 ^ 53) (h1 : 1 ≤ f) (hf : f < 2047) (hn : f = 1 ∨ 2 ^ 52 ≤ w) (he : n * 2 ^ 1075 = w * 2 ^ (1074 + f)) : (t = false → lN ((f - 1) * 2 ^ 52 + w) = x.toInt64) ∧ (t = true → lN ((f - 1) * 2 ^ 52 + w) ||| lN (2 ^ 63) = x.toInt64) := by
  have hu := tb_units (f := FP.Core.b64) FP.Core.tails_b64 h1 hw hn
  have hn2 : n = w * 2 ^ (f - 1) := by
    refine Nat.eq_of_mul_eq_mul_right (Nat.two_pow_pos 1075) ?_
    rw [he, Nat.mul_assoc, ← Nat.pow_add]
    congr 2
    omega
  have h3 := FP.Core.zmag_bits h.1.ne_nan
  have h4 := FP.Core.sgn_bits h.1.ne_nan
  rw [h.2.2, hn2, ← hu] at h3
  have h5 : (f - 1) * 2 ^ 52 + w = x.toNat % 2 ^ 63 := by
    have l1 := (FP.Core.unitsOf_le_iff (f := FP.Core.b64)).mp (Nat.le_of_eq h3)
    have l2 := (FP.Core.unitsOf_le_iff (f := FP.Core.b64)).mp (Nat.le_of_eq h3.symm)
    omega
  rw [h.2.1] at h4
  have hx := x.toNat_lt
  rw [tb_64, h5]
  constructor
  · intro ht
    rw [ht] at h4
    have := of_decide_eq_false h4.symm
    congr 1
    omega
  · intro ht
    rw [ht] at h4
    have := of_decide_eq_true h4.symm
    have q := g_or' (k := 63) (p := 2 ^ 63) (a := x.toNat % 2 ^ 63) (b := 1) rfl (Nat.mod_lt _ (by decide)) (by omega)
    rw [Nat.one_mul] at q
    rw [q]
    congr 1
    omega
theorem tb_narrow {u : UInt32} (hu0 : FP.Core.FFin u) {t : Bool} {n f w : Nat} (h : fz_is (FP.f2d u) t n) (hw : w < 2 ^ 24) (h1 : 1 ≤ f) (hf : f < 255) (hn : f = 1 ∨ 2 ^ 23 ≤ w) (he : n * 2 ^ 150 = w * 2 ^ (1074 + f)) : (t = false → lN ((f - 1) * 2 ^ 23 + w) = u.toInt32.toInt64) ∧ (t = true → lN ((f - 1) * 2 ^ 23 + w) ||| lN ((2 ^ 33 - 1) * 2 ^ 31) = u.toInt32.toInt64) := by
  have hu := tb_units (f := FP.Core.b32) FP.Core.tails_b32 h1 hw hn
  have hq := fz_f2d hu0
  have hn1 : n = FP.Core.zmag FP.Core.b32 (FP.Core.val32 u) * 2 ^ 925 := h.2.2.symm.trans hq.2.2
  have ht1 : t = FP.Core.sgn (FP.Core.val32 u) := h.2.1.symm.trans hq.2.1
  have hn2 : FP.Core.zmag FP.Core.b32 (FP.Core.val32 u) = w * 2 ^ (f - 1) := by
    refine Nat.eq_of_mul_eq_mul_right (Nat.two_pow_pos (925 + 150)) ?_
    rw [Nat.pow_add, ← Nat.mul_assoc, ← hn1, he, ← Nat.pow_add, Nat.mul_assoc, ← Nat.pow_add]
    congr 2
    omega
  have h3 := FP.Core.zmag_bits32 hu0.ne_nan
  have h4 := FP.Core.sgn_bits32 hu0.ne_nan
  rw [hn2, ← hu] at h3
  have h5 : (f - 1) * 2 ^ 23 + w = u.toNat % 2 ^ 31 := by
    have l1 := (FP.Core.unitsOf_le_iff (f := FP.Core.b32)).mp (Nat.le_of_eq h3)
    have l2 := (FP.Core.unitsOf_le_iff (f := FP.Core.b32)).mp (Nat.le_of_eq h3.symm)
    omega
  rw [← ht1] at h4
  have hx := u.toNat_lt
  rw [tb_32, h5]
  constructor
  · intro ht
    rw [ht] at h4
    have := of_decide_eq_false h4.symm
    rw [nI_l (n := u.toNat) (by omega)]
    congr 1
    omega
  · intro ht
    rw [ht] at h4
    have := of_decide_eq_true h4.symm
    rw [g_or' (k := 31) (p := 2 ^ 31) (a := u.toNat % 2 ^ 31) (b := 2 ^ 33 - 1) rfl (Nat.mod_lt _ (by decide)) (by omega)]
    refine Int64.toInt_inj.mp ?_
    rw [Int32.toInt_toInt64, pk_ti (by omega), pk_ti32, Nat.mod_eq_of_lt (show u.toNat < 2 ^ 32 by omega), if_neg (by omega), if_neg (by omega)]
    omega
set_option maxHeartbeats 4000000 in
set_option maxRecDepth 100000 in
/-- the bits of a number -/
theorem c_X7_toBits_w (l : Launch) (cv : Int32) (hcv : ¬ cv = 0) (x : UInt64) (hf : FP.Core.DFin x) : pu_M l yX7_toBits wsX7_toBits 1 21 [.int cv, .double x] (fun _ => True) (fun w => ∃ r : Int64, w = .long r ∧ r = x.toInt64) := by
  refine pu_ofW (cc := cX7_toBits) (maxL := 13) (ret := (some .long)) (by decide) rfl (fun p e s m below meth c hx hb hr hml hts hown hlocks hpre ls hl => ?_) (Nat.le_of_ble_eq_true rfl)
  have hl : lv_has ls 13 [(0, .int cv), (1, .double x)] := hl
  obtain ⟨t, n, h⟩ : ∃ (t : Bool) (n : Nat), fz_is x t n := ⟨_, _, hf, rfl, rfl⟩
  obtain ⟨hn, c0, j, hc, hcj⟩ := fz_is_R h
  have hj : 1075 ≤ j + 1075 := by omega
  obtain ⟨tz, htz⟩ : ∃ tz, tz = (t && n == 0) := ⟨_, rfl⟩
  have hsg : ∀ j1 : Nat, FP.Core.signed tz (c0 * 2 ^ j1) = ((c0 * 2 ^ j1 : Nat) : Int) := by
    intro j1
    cases hq : tz with
    | false => rfl
    | true =>
      rw [hq] at htz
      have hz : (n == 0) = true := (Bool.and_eq_true_iff.mp htz.symm).2
      have hz2 : n = 0 := eq_of_beq hz
      have hc0 : c0 = 0 := by
        rw [hz2] at hcj
        rcases Nat.mul_eq_zero.mp hcj.symm with g | g
        · exact g
        · exact absurd g (Nat.ne_of_gt (Nat.two_pow_pos _))
      rw [hc0, Nat.zero_mul]
      rfl
  have htz0 : ∀ w j1 : Nat, c0 * 2 ^ j1 = w * 2 ^ 1074 → tz = false ∨ w = 0 := by
    intro w j1 hw
    cases hq : tz with
    | false => exact Or.inl rfl
    | true =>
      refine Or.inr ?_
      have := hsg j1
      rw [hq, fz_st, hw] at this
      have h0 : w * 2 ^ 1074 = 0 := by omega
      rcases Nat.mul_eq_zero.mp h0 with g | g
      · exact g
      · exact absurd g (Nat.ne_of_gt (Nat.two_pow_pos _))
  have hRc : ∀ q : Nat, c0 * 2 ^ q < 2 ^ 2098 → fz_R (c0 * 2 ^ q) := fun q hq => ⟨hq, c0, q, by omega, rfl⟩
  have tail156 : ∀ (hid wh : UInt64) (f j1 : Nat), fz_is wh tz (c0 * 2 ^ j1) → j1 + f = j + 1075 → 1 ≤ f → f < 2047 → (f ≤ 1 ∨ 2 ^ (1074 + 52) ≤ c0 * 2 ^ j1) → (2047 ≤ f + 1 ∨ c0 * 2 ^ j1 < 2 ^ (1074 + 52 + 1)) → ∀ ls : Array Slot, lv_has ls 13 [(10, .int (nI (2 ^ 0 / 2))), (9, .int (nI f)), (7, .double wh), (5, .double hid), (4, .int 2047), (3, .int 52), (0, .int cv), (1, .double x)] → pu_W p l e 1 21 s m [.int cv, .double x].toArray below meth c (fun w => ∃ r : Int64, w = .long r ∧ r = x.toInt64) (F0 m 156 ls []) := by
    intro hid wh f j1 hwh hjf hf1 hf2 ha hb5 ls hl
    obtain ⟨w5, hw5, hw6, hw7, hw8⟩ := tb_end (P := 52) (F := 1075) (E := 2047) (NB := 2098) hcj hc hj hn (by decide) hjf hf1 hf2 ha hb5
    have hd2 : FP.d2l wh = lN w5 := tb_d2l (by rw [← hw5]; exact hwh) (htz0 _ _ hw5) (by omega)
    have hfin := tb_wide h hw6 hf1 hf2 hw7 hw8
    refine lv_iload hx hb dX7_toBits_156 (lv_at hl 1 rfl) ?_
    refine lv_iconst (v := 1) hx hb dX7_toBits_158 (by decide) ?_
    refine lv_isub hx hb dX7_toBits_159 ?_
    refine lv_topi (fun v1 ev1 => ?_)
    refine lv_i2l hx hb dX7_toBits_160 rfl ?_
    refine lv_topl (fun v2 ev2 => ?_)
    refine lv_iload_n hx hb dX7_toBits_161 rfl (lv_at hl 5 rfl) ?_
    refine lv_lshl hx hb dX7_toBits_162 rfl ?_
    refine lv_topl (fun v3 ev3 => ?_)
    refine lv_dload hx hb dX7_toBits_163 (lv_at hl 2 rfl) ?_
    refine lv_d2l hx hb dX7_toBits_165 ?_
    refine lv_topl (fun v4 ev4 => ?_)
    refine lv_ladd hx hb dX7_toBits_166 ?_
    refine lv_topl (fun v5 ev5 => ?_)
    refine lv_lstore (lv' := [(10, .long v5), (9, .int (nI f)), (7, .double wh), (5, .double hid), (4, .int 2047), (3, .int 52), (0, .int cv), (1, .double x)]) hx hb dX7_toBits_167 hl (by decide) rfl (fun ls hl => ?_)
    refine lv_dload_n hx hb dX7_toBits_169 rfl (lv_at hl 7 rfl) ?_
    refine pu_call (va_runS (As := [.double x]) (rest := []) ⟨hx, hb, hml, hown, hts⟩ (c_X7_isNegative l _ t n h) (va_cwS 1 hts gX7_toBits_X7_isNegative rfl rfl rfl (by decide +kernel) ⟨Nat.le_of_ble_eq_true rfl, Nat.le_of_ble_eq_true rfl⟩) ⟨pu_blind _, fun U hU hW => ⟨rfl, trivial⟩⟩ rfl rfl hl.1 rfl (lv_room (Nat.le_of_ble_eq_true rfl)) dX7_toBits_170 ⟨Nat.zero_le _, Nat.zero_le _⟩) (fun w hw => ?_)
    obtain ⟨r1, rfl, hr1⟩ := hw
    refine lv_if_ne (tgt := 179) hx hb dX7_toBits_173 (by decide) (fun c173 => ?_) (fun c173 => ?_)
    · have ht : t = true := by
        rw [hr1] at c173
        cases t with
        | false => exact absurd rfl c173
        | true => rfl
      have hM : v5 = lN ((f - 1) * 2 ^ 52 + w5) := by
        have q1 : v1 = nI (f - 1) := by
          obtain ⟨f2, hf3⟩ : ∃ f2, f = f2 + 1 := ⟨f - 1, by omega⟩
          rw [ev1, hf3, nI_pred]
          rfl
        have q2 : v2 = lN (f - 1) := by rw [ev2, q1]; exact nI_l (by omega)
        have q3 : v3 = lN ((f - 1) * 2 ^ 52) := by rw [ev3, q2]; exact wb_shl (f - 1) (k := 52) (by decide)
        rw [ev5, q3, ev4, hd2, lN_add]
      refine lv_lload hx hb dX7_toBits_179 (lv_at hl 0 rfl) ?_
      refine lv_ldc2 (v := (-1)) hx hb hown (hts (.constantLong RX7 33 (-1)) (by decide +kernel)) dX7_toBits_181 ?_
      refine lv_iload_n hx hb dX7_toBits_184 rfl (lv_at hl 6 rfl) ?_
      refine lv_if_eq (tgt := 193) hx hb dX7_toBits_185 (by decide) (fun c185 => ?_) (fun c185 => ?_)
      · exact absurd c185 hcv
      · refine lv_bipush (v := 63) hx hb dX7_toBits_188 (by decide) ?_
        refine lv_goto (tgt := 195) hx hb dX7_toBits_190 (by decide) ?_
        refine lv_lshl hx hb dX7_toBits_195 rfl ?_
        refine lv_topl (fun v6 ev6 => ?_)
        refine lv_lor hx hb dX7_toBits_196 ?_
        refine lv_topl (fun v7 ev7 => ?_)
        exact W.lret (v := v7) hx hb hr (fun t ht hW => ⟨_, rfl, ⟨_, rfl, by rw [ev7, ev6, hM]; exact hfin.2 ht⟩, ht⟩) (fun q hq => absurd hq List.not_mem_nil) dX7_toBits_197
    · have ht : t = false := by
        rw [hr1] at c173
        cases t with
        | false => rfl
        | true => exact absurd (by decide) c173
      have hM : v5 = lN ((f - 1) * 2 ^ 52 + w5) := by
        have q1 : v1 = nI (f - 1) := by
          obtain ⟨f2, hf3⟩ : ∃ f2, f = f2 + 1 := ⟨f - 1, by omega⟩
          rw [ev1, hf3, nI_pred]
          rfl
        have q2 : v2 = lN (f - 1) := by rw [ev2, q1]; exact nI_l (by omega)
        have q3 : v3 = lN ((f - 1) * 2 ^ 52) := by rw [ev3, q2]; exact wb_shl (f - 1) (k := 52) (by decide)
        rw [ev5, q3, ev4, hd2, lN_add]
      refine lv_lload hx hb dX7_toBits_176 (lv_at hl 0 rfl) ?_
      exact W.lret (v := v5) hx hb hr (fun t ht hW => ⟨_, rfl, ⟨_, rfl, by rw [hM]; exact hfin.1 ht⟩, ht⟩) (fun q hq => absurd hq List.not_mem_nil) dX7_toBits_178
  have outer : ∀ (hid : UInt64), fz_is hid false (2 ^ (1074 + 52)) → ∀ (i : Nat), i < 7 → ∀ (wh : UInt64) (f j1 : Nat), fz_is wh tz (c0 * 2 ^ j1) → j1 + f = j + 1075 → 1 ≤ f → f < 2047 → (i = 0 → (f ≤ 1 ∨ 2 ^ (1074 + 52) ≤ c0 * 2 ^ j1) ∧ (2047 ≤ f + 1 ∨ c0 * 2 ^ j1 < 2 ^ (1074 + 52 + 1))) → ∀ ls : Array Slot, lv_has ls 13 [(10, .int (nI (2 ^ i / 2))), (9, .int (nI f)), (7, .double wh), (5, .double hid), (4, .int 2047), (3, .int 52), (0, .int cv), (1, .double x)] → pu_W p l e 1 21 s m [.int cv, .double x].toArray below meth c (fun w => ∃ r : Int64, w = .long r ∧ r = x.toInt64) (F0 m 58 ls []) := by
    intro hid hhid i
    induction i with
    | zero =>
      intro hi wh f j1 hwh hjf hf1 hf2 h0 ls hl
      refine lv_iload hx hb dX7_toBits_58 (lv_at hl 0 rfl) ?_
      refine lv_if_le (tgt := 156) hx hb dX7_toBits_60 (by decide) (fun c60 => ?_) (fun c60 => ?_)
      · exact tail156 hid wh f j1 hwh hjf hf1 hf2 (h0 rfl).1 (h0 rfl).2 ls (lv_sub hl [0, 1, 2, 3, 4, 5, 6, 7] rfl)
      · exact absurd (by decide) c60
    | succ i ih =>
      intro hi wh f j1 hwh hjf hf1 hf2 h0 ls hl
      have hsd := sd_one i (by omega)
      obtain ⟨sd, hsde⟩ : ∃ sd, sd = 2 ^ (i + 1) / 2 := ⟨_, rfl⟩
      rw [← hsde] at hsd
      refine lv_iload hx hb dX7_toBits_58 (lv_at hl 0 rfl) ?_
      refine lv_if_le (tgt := 156) hx hb dX7_toBits_60 (by decide) (fun c60 => ?_) (fun c60 => ?_)
      · exact absurd c60 (sd_pos i (by omega))
      · refine lv_lconst (v := 1) hx hb dX7_toBits_63 (by decide) ?_
        refine lv_iload hx hb dX7_toBits_64 (lv_at hl 0 rfl) ?_
        refine lv_lshl hx hb dX7_toBits_66 rfl ?_
        refine lv_topl (fun v1 ev1 => ?_)
        refine lv_l2d hx hb dX7_toBits_67 ?_
        refine lv_topd (fun v2 ev2 => ?_)
        refine lv_dstore (lv' := [(11, .double v2), (10, .int (nI (2 ^ (i + 1) / 2))), (9, .int (nI f)), (7, .double wh), (5, .double hid), (4, .int 2047), (3, .int 52), (0, .int cv), (1, .double x)]) hx hb dX7_toBits_68 hl (by decide) rfl (fun ls hl => ?_)
        have hpw : fz_is v2 false (2 ^ (1074 + sd)) := by
          rw [ev2, ev1, sd_shl (i + 1) hi, hsde]
          exact sd_pow (by omega)
        obtain ⟨pw, hpwe⟩ : ∃ pw, pw = v2 := ⟨_, rfl⟩
        rw [← hpwe] at hpw hl
        have hB1 : fz_is (FP.dmul hid 4611686018427387904) false (2 ^ (1074 + 52 + 1)) := by
          have q := fz_mul hhid fz_two ⟨by rw [← Nat.pow_add]; exact fz_pow_lt (by decide), 1, 1074 + 52 + 1, by decide, by rw [Nat.one_mul, ← Nat.pow_add]⟩
          rw [← Nat.pow_add] at q
          exact q
        have hB2 : fz_is (FP.ddiv (FP.dmul hid 4611686018427387904) pw) false (2 ^ (1074 + 52 + 1 - sd)) := by
          refine fz_div (k := sd) ?_ hpw ⟨fz_pow_lt (by omega), 1, 1074 + 52 + 1 - sd, by decide, (Nat.one_mul _).symm⟩
          rw [← Nat.pow_add, show 1074 + 52 + 1 - sd + sd = 1074 + 52 + 1 by omega]
          exact hB1
        have hB3 : fz_is (FP.dmul hid pw) false (2 ^ (1074 + 52 + sd)) := by
          have q := fz_mul hhid hpw ⟨by rw [← Nat.pow_add]; exact fz_pow_lt (by omega), 1, 1074 + 52 + sd, by decide, by rw [Nat.one_mul, ← Nat.pow_add]⟩
          rw [← Nat.pow_add] at q
          exact q
        have hsdI : nI (2 ^ (i + 1) / 2) = nI sd := by rw [hsde]
        have down : ∀ (q : Nat), ∀ (wh : UInt64) (f j1 : Nat), fz_is wh tz (c0 * 2 ^ j1) → j1 + f = j + 1075 → 1 ≤ f → f < 2047 → (f ≤ sd ∨ 2 ^ (1074 + 52 + 1 - sd) ≤ c0 * 2 ^ j1) → 2047 - f ≤ q → ∀ ls : Array Slot, lv_has ls 13 [(11, .double pw), (10, .int (nI (2 ^ (i + 1) / 2))), (9, .int (nI f)), (7, .double wh), (5, .double hid), (4, .int 2047), (3, .int 52), (0, .int cv), (1, .double x)] → pu_W p l e 1 21 s m [.int cv, .double x].toArray below meth c (fun w => ∃ r : Int64, w = .long r ∧ r = x.toInt64) (F0 m 109 ls []) := by
          intro q
          induction q with
          | zero =>
            intro wh f j1 hwh hjf hf1 hf2 hup hq ls hl
            refine lv_iload hx hb dX7_toBits_109 (lv_at hl 2 rfl) ?_
            refine lv_iload hx hb dX7_toBits_111 (lv_at hl 1 rfl) ?_
            refine lv_iadd hx hb dX7_toBits_113 ?_
            refine lv_topi (fun v101 ev101 => ?_)
            refine lv_iload hx hb dX7_toBits_114 (lv_at hl 5 rfl) ?_
            refine lv_icmp_ge (tgt := 147) hx hb dX7_toBits_116 (by decide) (fun c116 => ?_) (fun c116 => ?_)
            · rw [ev101, hsdI, nI_add] at c116
              have hc1 : 2047 ≤ f + sd := (nI_leI (a := 2047) (by decide) (by omega)).mp c116
              refine lv_iload hx hb dX7_toBits_147 (lv_at hl 1 rfl) ?_
              refine lv_iconst (v := 2) hx hb dX7_toBits_149 (by decide) ?_
              refine lv_idiv hx hb dX7_toBits_150 (by decide) ?_
              refine lv_topi (fun v102 ev102 => ?_)
              refine lv_istore (lv' := [(10, .int v102), (11, .double pw), (9, .int (nI f)), (7, .double wh), (5, .double hid), (4, .int 2047), (3, .int 52), (0, .int cv), (1, .double x)]) hx hb dX7_toBits_151 hl (by decide) rfl (fun ls hl => ?_)
              refine lv_goto (tgt := 58) hx hb dX7_toBits_153 (by decide) ?_
              have e7 : v102 = nI (2 ^ i / 2) := by rw [ev102]; exact sd_div i (by omega)
              rw [e7] at hl
              exact ih (by omega) wh f j1 hwh hjf hf1 hf2 (fun q => by
                subst q
                have hsd1 : sd = 1 := hsde
                subst hsd1
                exact ⟨hup, Or.inl (by omega)⟩) ls (lv_sub hl [0, 2, 3, 4, 5, 6, 7, 8] rfl)
            · rw [ev101, hsdI, nI_add] at c116
              have hc1 : f + sd < 2047 := Nat.lt_of_not_le (fun g => c116 ((nI_leI (a := 2047) (by decide) (by omega)).mpr g))
              omega
          | succ q iq =>
            intro wh f j1 hwh hjf hf1 hf2 hup hq ls hl
            refine lv_iload hx hb dX7_toBits_109 (lv_at hl 2 rfl) ?_
            refine lv_iload hx hb dX7_toBits_111 (lv_at hl 1 rfl) ?_
            refine lv_iadd hx hb dX7_toBits_113 ?_
            refine lv_topi (fun v101 ev101 => ?_)
            refine lv_iload hx hb dX7_toBits_114 (lv_at hl 5 rfl) ?_
            refine lv_icmp_ge (tgt := 147) hx hb dX7_toBits_116 (by decide) (fun c116 => ?_) (fun c116 => ?_)
            · rw [ev101, hsdI, nI_add] at c116
              have hc1 : 2047 ≤ f + sd := (nI_leI (a := 2047) (by decide) (by omega)).mp c116
              refine lv_iload hx hb dX7_toBits_147 (lv_at hl 1 rfl) ?_
              refine lv_iconst (v := 2) hx hb dX7_toBits_149 (by decide) ?_
              refine lv_idiv hx hb dX7_toBits_150 (by decide) ?_
              refine lv_topi (fun v102 ev102 => ?_)
              refine lv_istore (lv' := [(10, .int v102), (11, .double pw), (9, .int (nI f)), (7, .double wh), (5, .double hid), (4, .int 2047), (3, .int 52), (0, .int cv), (1, .double x)]) hx hb dX7_toBits_151 hl (by decide) rfl (fun ls hl => ?_)
              refine lv_goto (tgt := 58) hx hb dX7_toBits_153 (by decide) ?_
              have e7 : v102 = nI (2 ^ i / 2) := by rw [ev102]; exact sd_div i (by omega)
              rw [e7] at hl
              exact ih (by omega) wh f j1 hwh hjf hf1 hf2 (fun q => by
                subst q
                have hsd1 : sd = 1 := hsde
                subst hsd1
                exact ⟨hup, Or.inl (by omega)⟩) ls (lv_sub hl [0, 2, 3, 4, 5, 6, 7, 8] rfl)
            · rw [ev101, hsdI, nI_add] at c116
              have hc1 : f + sd < 2047 := Nat.lt_of_not_le (fun g => c116 ((nI_leI (a := 2047) (by decide) (by omega)).mpr g))
              refine lv_dload hx hb dX7_toBits_119 (lv_at hl 3 rfl) ?_
              refine lv_dload hx hb dX7_toBits_121 (lv_at hl 4 rfl) ?_
              refine lv_dload hx hb dX7_toBits_123 (lv_at hl 0 rfl) ?_
              refine lv_dmul hx hb dX7_toBits_125 (fz_n hB3) ?_
              refine lv_topd (fun v103 ev103 => ?_)
              refine lv_dcmp hx hb dX7_toBits_126 ?_
              refine lv_topi (fun v104 ev104 => ?_)
              refine lv_if_lt (tgt := 147) hx hb dX7_toBits_127 (by decide) (fun c127 => ?_) (fun c127 => ?_)
              · have hc2 := (fz_c hwh hB3 (by rw [ev103, ev102])).1.mp c127
                rw [hsg, fz_sf] at hc2
                refine lv_iload hx hb dX7_toBits_147 (lv_at hl 1 rfl) ?_
                refine lv_iconst (v := 2) hx hb dX7_toBits_149 (by decide) ?_
                refine lv_idiv hx hb dX7_toBits_150 (by decide) ?_
                refine lv_topi (fun v105 ev105 => ?_)
                refine lv_istore (lv' := [(10, .int v105), (11, .double pw), (9, .int (nI f)), (7, .double wh), (5, .double hid), (4, .int 2047), (3, .int 52), (0, .int cv), (1, .double x)]) hx hb dX7_toBits_151 hl (by decide) rfl (fun ls hl => ?_)
                refine lv_goto (tgt := 58) hx hb dX7_toBits_153 (by decide) ?_
                have e7 : v105 = nI (2 ^ i / 2) := by rw [ev105]; exact sd_div i (by omega)
                rw [e7] at hl
                exact ih (by omega) wh f j1 hwh hjf hf1 hf2 (fun q => by
                  subst q
                  have hsd1 : sd = 1 := hsde
                  subst hsd1
                  exact ⟨hup, Or.inr (by omega)⟩) ls (lv_sub hl [0, 2, 3, 4, 5, 6, 7, 8] rfl)
              · have hc2 := (not_congr (fz_c hwh hB3 (by rw [ev103, ev102])).1).mp c127
                rw [hsg, fz_sf] at hc2
                have hc3 : 2 ^ (1074 + 52 + sd) ≤ c0 * 2 ^ j1 := by omega
                have hj2 : sd ≤ j1 := by
                  rcases Nat.lt_or_ge j1 sd with g | g
                  · exfalso
                    have q1 : c0 * 2 ^ j1 ≤ c0 * 2 ^ sd := Nat.mul_le_mul_left _ (fz_pow_le (by omega))
                    have q2 : c0 * 2 ^ sd < 2 ^ 53 * 2 ^ sd := Nat.mul_lt_mul_of_pos_right hc (Nat.two_pow_pos _)
                    rw [← Nat.pow_add] at q2
                    have q3 : 2 ^ (53 + sd) ≤ 2 ^ (1074 + 52 + sd) := fz_pow_le (by omega)
                    omega
                  · exact g
                have he2 : c0 * 2 ^ (j1 - sd) * 2 ^ sd = c0 * 2 ^ j1 := by rw [tb_up]; congr 2; omega
                have hle2 : c0 * 2 ^ (j1 - sd) ≤ c0 * 2 ^ j1 := Nat.mul_le_mul_left _ (fz_pow_le (by omega))
                have hs5 : fz_is (FP.ddiv wh pw) tz (c0 * 2 ^ (j1 - sd)) := fz_div (k := sd) (by rw [he2]; exact hwh) hpw (hRc _ (by have := (fz_is_R hwh).1; omega))
                have hge2 : 2 ^ (1074 + 52 + 1 - sd) ≤ c0 * 2 ^ (j1 - sd) := by
                  have q4 : 2 ^ (1074 + 52 + 1 - sd) ≤ 2 ^ (1074 + 52) := fz_pow_le (by omega)
                  have q5 : 2 ^ (1074 + 52) ≤ c0 * 2 ^ (j1 - sd) := by
                    refine Nat.le_of_mul_le_mul_right (a := 2 ^ sd) ?_ (Nat.two_pow_pos _)
                    rw [he2, ← Nat.pow_add]
                    exact hc3
                  omega
                refine lv_dload hx hb dX7_toBits_130 (lv_at hl 3 rfl) ?_
                refine lv_dload hx hb dX7_toBits_132 (lv_at hl 0 rfl) ?_
                refine lv_ddiv hx hb dX7_toBits_134 (fz_n hs5) ?_
                refine lv_topd (fun v106 ev106 => ?_)
                refine lv_dstore (lv' := [(7, .double v106), (11, .double pw), (10, .int (nI (2 ^ (i + 1) / 2))), (9, .int (nI f)), (5, .double hid), (4, .int 2047), (3, .int 52), (0, .int cv), (1, .double x)]) hx hb dX7_toBits_135 hl (by decide) rfl (fun ls hl => ?_)
                refine lv_iload hx hb dX7_toBits_137 (lv_at hl 3 rfl) ?_
                refine lv_iload hx hb dX7_toBits_139 (lv_at hl 2 rfl) ?_
                refine lv_iadd hx hb dX7_toBits_141 ?_
                refine lv_topi (fun v107 ev107 => ?_)
                refine lv_istore (lv' := [(9, .int v107), (7, .double v106), (11, .double pw), (10, .int (nI (2 ^ (i + 1) / 2))), (5, .double hid), (4, .int 2047), (3, .int 52), (0, .int cv), (1, .double x)]) hx hb dX7_toBits_142 hl (by decide) rfl (fun ls hl => ?_)
                refine lv_goto (tgt := 109) hx hb dX7_toBits_144 (by decide) ?_
                have e8 : v107 = nI (f + sd) := by rw [ev107, hsdI, nI_add]
                rw [e8] at hl
                exact iq _ (f + sd) (j1 - sd) (by rw [ev106]; exact hs5) (by omega) (by omega) hc1 (Or.inr hge2) (by omega) ls (lv_sub hl [2, 3, 0, 1, 4, 5, 6, 7, 8] rfl)
        have up : ∀ (q : Nat), ∀ (wh : UInt64) (f j1 : Nat), fz_is wh tz (c0 * 2 ^ j1) → j1 + f = j + 1075 → 1 ≤ f → f < 2047 → f ≤ q → ∀ ls : Array Slot, lv_has ls 13 [(11, .double pw), (10, .int (nI (2 ^ (i + 1) / 2))), (9, .int (nI f)), (7, .double wh), (5, .double hid), (4, .int 2047), (3, .int 52), (0, .int cv), (1, .double x)] → pu_W p l e 1 21 s m [.int cv, .double x].toArray below meth c (fun w => ∃ r : Int64, w = .long r ∧ r = x.toInt64) (F0 m 70 ls []) := by
          intro q
          induction q with
          | zero =>
            intro wh f j1 hwh hjf hf1 hf2 hq ls hl
            refine lv_iload hx hb dX7_toBits_70 (lv_at hl 2 rfl) ?_
            refine lv_iload hx hb dX7_toBits_72 (lv_at hl 1 rfl) ?_
            refine lv_icmp_le (tgt := 109) hx hb dX7_toBits_74 (by decide) (fun c74 => ?_) (fun c74 => ?_)
            · rw [hsdI] at c74
              have hc1 : f ≤ sd := (nI_leI (by omega) (by omega)).mp c74
              exact down _ wh f j1 hwh hjf hf1 hf2 (Or.inl hc1) (Nat.le_refl _) ls (lv_sub hl [0, 1, 2, 3, 4, 5, 6, 7, 8] rfl)
            · rw [hsdI] at c74
              have hc1 : sd < f := Nat.lt_of_not_le (fun g => c74 ((nI_leI (by omega) (by omega)).mpr g))
              omega
          | succ q iq =>
            intro wh f j1 hwh hjf hf1 hf2 hq ls hl
            refine lv_iload hx hb dX7_toBits_70 (lv_at hl 2 rfl) ?_
            refine lv_iload hx hb dX7_toBits_72 (lv_at hl 1 rfl) ?_
            refine lv_icmp_le (tgt := 109) hx hb dX7_toBits_74 (by decide) (fun c74 => ?_) (fun c74 => ?_)
            · rw [hsdI] at c74
              have hc1 : f ≤ sd := (nI_leI (by omega) (by omega)).mp c74
              exact down _ wh f j1 hwh hjf hf1 hf2 (Or.inl hc1) (Nat.le_refl _) ls (lv_sub hl [0, 1, 2, 3, 4, 5, 6, 7, 8] rfl)
            · rw [hsdI] at c74
              have hc1 : sd < f := Nat.lt_of_not_le (fun g => c74 ((nI_leI (by omega) (by omega)).mpr g))
              refine lv_dload hx hb dX7_toBits_77 (lv_at hl 3 rfl) ?_
              refine lv_dload hx hb dX7_toBits_79 (lv_at hl 4 rfl) ?_
              refine lv_ldc2d (v := (4611686018427387904)) hx hb hown (hts (.constantDouble RX7 27 (4611686018427387904)) (by decide +kernel)) dX7_toBits_81 ?_
              refine lv_dmul hx hb dX7_toBits_84 (fz_n hB1) ?_
              refine lv_topd (fun v201 ev201 => ?_)
              refine lv_dload hx hb dX7_toBits_85 (lv_at hl 0 rfl) ?_
              refine lv_ddiv hx hb dX7_toBits_87 (by rw [ev201]; exact fz_n hB2) ?_
              refine lv_topd (fun v202 ev202 => ?_)
              refine lv_dcmp hx hb dX7_toBits_88 ?_
              refine lv_topi (fun v203 ev203 => ?_)
              refine lv_if_ge (tgt := 109) hx hb dX7_toBits_89 (by decide) (fun c89 => ?_) (fun c89 => ?_)
              · have hc2 := (fz_c hwh hB2 (by rw [ev203, ev202, ev201])).2.2.1.mp c89
                rw [hsg, fz_sf] at hc2
                exact down _ wh f j1 hwh hjf hf1 hf2 (Or.inr (by omega)) (Nat.le_refl _) ls (lv_sub hl [0, 1, 2, 3, 4, 5, 6, 7, 8] rfl)
              · have hc2 := (not_congr (fz_c hwh hB2 (by rw [ev203, ev202, ev201])).2.2.1).mp c89
                rw [hsg, fz_sf] at hc2
                have hc3 : c0 * 2 ^ j1 < 2 ^ (1074 + 52 + 1 - sd) := by omega
                have hlt2 : c0 * 2 ^ (j1 + sd) < 2 ^ (1074 + 52 + 1) := by
                  have q5 : c0 * 2 ^ j1 * 2 ^ sd < 2 ^ (1074 + 52 + 1 - sd) * 2 ^ sd := Nat.mul_lt_mul_of_pos_right hc3 (Nat.two_pow_pos _)
                  rw [tb_up, ← Nat.pow_add, show 1074 + 52 + 1 - sd + sd = 1074 + 52 + 1 by omega] at q5
                  exact q5
                have hlt3 : c0 * 2 ^ (j1 + sd) < 2 ^ 2098 := Nat.lt_trans hlt2 (fz_pow_lt (by decide))
                have hs5 : fz_is (FP.dmul wh pw) tz (c0 * 2 ^ (j1 + sd)) := by
                  have q := fz_mul hwh hpw (by rw [tb_up]; exact hRc _ hlt3)
                  rw [tb_up] at q
                  exact q
                refine lv_dload hx hb dX7_toBits_92 (lv_at hl 3 rfl) ?_
                refine lv_dload hx hb dX7_toBits_94 (lv_at hl 0 rfl) ?_
                refine lv_dmul hx hb dX7_toBits_96 (fz_n hs5) ?_
                refine lv_topd (fun v204 ev204 => ?_)
                refine lv_dstore (lv' := [(7, .double v204), (11, .double pw), (10, .int (nI (2 ^ (i + 1) / 2))), (9, .int (nI f)), (5, .double hid), (4, .int 2047), (3, .int 52), (0, .int cv), (1, .double x)]) hx hb dX7_toBits_97 hl (by decide) rfl (fun ls hl => ?_)
                refine lv_iload hx hb dX7_toBits_99 (lv_at hl 3 rfl) ?_
                refine lv_iload hx hb dX7_toBits_101 (lv_at hl 2 rfl) ?_
                refine lv_isub hx hb dX7_toBits_103 ?_
                refine lv_topi (fun v205 ev205 => ?_)
                refine lv_istore (lv' := [(9, .int v205), (7, .double v204), (11, .double pw), (10, .int (nI (2 ^ (i + 1) / 2))), (5, .double hid), (4, .int 2047), (3, .int 52), (0, .int cv), (1, .double x)]) hx hb dX7_toBits_104 hl (by decide) rfl (fun ls hl => ?_)
                refine lv_goto (tgt := 70) hx hb dX7_toBits_106 (by decide) ?_
                have e8 : v205 = nI (f - sd) := by rw [ev205, hsdI]; exact pk_sub (by omega)
                rw [e8] at hl
                exact iq _ (f - sd) (j1 + sd) (by rw [ev204]; exact hs5) (by omega) (by omega) (by omega) (by omega) ls (lv_sub hl [2, 3, 0, 1, 4, 5, 6, 7, 8] rfl)
        exact up _ wh f j1 hwh hjf hf1 hf2 (Nat.le_refl _) ls (lv_sub hl [0, 1, 2, 3, 4, 5, 6, 7, 8] rfl)
  refine lv_iload_n hx hb dX7_toBits_0 rfl (lv_at hl 0 rfl) ?_
  refine lv_if_eq (tgt := 9) hx hb dX7_toBits_1 (by decide) (fun c1 => ?_) (fun c1 => ?_)
  · exact absurd c1 hcv
  · refine lv_bipush (v := 52) hx hb dX7_toBits_4 (by decide) ?_
    refine lv_goto (tgt := 11) hx hb dX7_toBits_6 (by decide) ?_
    refine lv_istore_n (lv' := [(3, .int 52), (0, .int cv), (1, .double x)]) hx hb dX7_toBits_11 rfl hl (by decide) rfl (fun ls hl => ?_)
    refine lv_iload_n hx hb dX7_toBits_12 rfl (lv_at hl 1 rfl) ?_
    refine lv_if_eq (tgt := 22) hx hb dX7_toBits_13 (by decide) (fun c13 => ?_) (fun c13 => ?_)
    · exact absurd c13 hcv
    · refine lv_sipush (v := 2047) hx hb dX7_toBits_16 (by decide) ?_
      refine lv_goto (tgt := 25) hx hb dX7_toBits_19 (by decide) ?_
      refine lv_istore (lv' := [(4, .int 2047), (3, .int 52), (0, .int cv), (1, .double x)]) hx hb dX7_toBits_25 hl (by decide) rfl (fun ls hl => ?_)
      refine lv_lconst (v := 1) hx hb dX7_toBits_27 (by decide) ?_
      refine lv_iload_n hx hb dX7_toBits_28 rfl (lv_at hl 1 rfl) ?_
      refine lv_lshl hx hb dX7_toBits_29 rfl ?_
      refine lv_topl (fun v1 ev1 => ?_)
      refine lv_l2d hx hb dX7_toBits_30 ?_
      refine lv_topd (fun v2 ev2 => ?_)
      refine lv_dstore (lv' := [(5, .double v2), (4, .int 2047), (3, .int 52), (0, .int cv), (1, .double x)]) hx hb dX7_toBits_31 hl (by decide) rfl (fun ls hl => ?_)
      refine lv_dload_n hx hb dX7_toBits_33 rfl (lv_at hl 4 rfl) ?_
      refine pu_call (va_runS (As := [.double x]) (rest := []) ⟨hx, hb, hml, hown, hts⟩ (c_X7_sizeOf l _ t n h) (va_cwS 1 hts gX7_toBits_X7_sizeOf rfl rfl rfl (by decide +kernel) ⟨Nat.le_of_ble_eq_true rfl, Nat.le_of_ble_eq_true rfl⟩) ⟨pu_blind _, fun U hU hW => ⟨rfl, trivial⟩⟩ rfl rfl hl.1 rfl (lv_room (Nat.le_of_ble_eq_true rfl)) dX7_toBits_34 ⟨Nat.zero_le _, Nat.zero_le _⟩) (fun w hw => ?_)
      obtain ⟨r1, rfl, hr1⟩ := hw
      refine lv_dstore (lv' := [(7, .double r1), (5, .double v2), (4, .int 2047), (3, .int 52), (0, .int cv), (1, .double x)]) hx hb dX7_toBits_37 hl (by decide) rfl (fun ls hl => ?_)
      refine lv_iload_n hx hb dX7_toBits_39 rfl (lv_at hl 4 rfl) ?_
      refine lv_if_eq (tgt := 49) hx hb dX7_toBits_40 (by decide) (fun c40 => ?_) (fun c40 => ?_)
      · exact absurd c40 hcv
      · refine lv_sipush (v := 1075) hx hb dX7_toBits_43 (by decide) ?_
        refine lv_goto (tgt := 52) hx hb dX7_toBits_46 (by decide) ?_
        refine lv_istore (lv' := [(9, .int 1075), (7, .double r1), (5, .double v2), (4, .int 2047), (3, .int 52), (0, .int cv), (1, .double x)]) hx hb dX7_toBits_52 hl (by decide) rfl (fun ls hl => ?_)
        refine lv_bipush (v := 32) hx hb dX7_toBits_54 (by decide) ?_
        refine lv_istore (lv' := [(10, .int 32), (9, .int 1075), (7, .double r1), (5, .double v2), (4, .int 2047), (3, .int 52), (0, .int cv), (1, .double x)]) hx hb dX7_toBits_56 hl (by decide) rfl (fun ls hl => ?_)
        have hhid : fz_is v2 false (2 ^ (1074 + 52)) := by
          rw [ev2, ev1]
          exact sd_pow (k := 52) (by decide)
        exact outer v2 hhid 6 (by decide) r1 1075 j (by rw [← hcj, htz]; exact hr1) rfl (by decide) (by decide) (fun q => absurd q (by decide)) ls (lv_sub hl [0, 1, 2, 3, 4, 5, 6, 7] rfl)
set_option maxHeartbeats 4000000 in
set_option maxRecDepth 100000 in
/-- the bits of a number -/
theorem c_X7_toBits_n (l : Launch) (cv : Int32) (hcv : cv = 0) (u : UInt32) (hf : FP.Core.FFin u) : pu_M l yX7_toBits wsX7_toBits 1 21 [.int cv, .double (FP.f2d u)] (fun _ => True) (fun w => ∃ r : Int64, w = .long r ∧ r = u.toInt32.toInt64) := by
  refine pu_ofW (cc := cX7_toBits) (maxL := 13) (ret := (some .long)) (by decide) rfl (fun p e s m below meth c hx hb hr hml hts hown hlocks hpre ls hl => ?_) (Nat.le_of_ble_eq_true rfl)
  have hl : lv_has ls 13 [(0, .int cv), (1, .double (FP.f2d u))] := hl
  obtain ⟨t, n, h, hnz⟩ : ∃ (t : Bool) (n : Nat), fz_is (FP.f2d u) t n ∧ n = FP.Core.zmag FP.Core.b32 (FP.Core.val32 u) * 2 ^ 925 := ⟨_, _, fz_f2d hf, rfl⟩
  obtain ⟨c0, j, hc, hcj, hn, hj0⟩ : ∃ c0 j : Nat, c0 < 2 ^ 24 ∧ n = c0 * 2 ^ j ∧ n < 2 ^ 1202 ∧ 925 ≤ j := by
    obtain ⟨s9, c9, q9, hv9⟩ := hf
    have hf9 := FP.Core.val32_fits u
    rw [hv9] at hf9 hnz
    obtain ⟨g1, g2, g3, -⟩ := hf9
    rw [FP.Core.qmin_b32] at g2
    rw [show FP.Core.b32.qmax = 104 by decide] at g3
    have g4 : n = c9 * 2 ^ ((q9 + 149).toNat + 925) := by
      rw [hnz]
      show c9 * 2 ^ (q9 - FP.Core.b32.qmin).toNat * 2 ^ 925 = _
      rw [FP.Core.qmin_b32, Nat.mul_assoc, ← Nat.pow_add]
      congr 2
    refine ⟨c9, (q9 + 149).toNat + 925, g1, g4, ?_, by omega⟩
    rw [g4]
    calc c9 * 2 ^ ((q9 + 149).toNat + 925) < 2 ^ 24 * 2 ^ ((q9 + 149).toNat + 925) := Nat.mul_lt_mul_of_pos_right g1 (Nat.two_pow_pos _)
      _ = 2 ^ (24 + ((q9 + 149).toNat + 925)) := (Nat.pow_add 2 24 _).symm
      _ ≤ 2 ^ 1202 := fz_pow_le (by omega)
  have hj : 1075 ≤ j + 150 := by omega
  obtain ⟨tz, htz⟩ : ∃ tz, tz = (t && n == 0) := ⟨_, rfl⟩
  have hsg : ∀ j1 : Nat, FP.Core.signed tz (c0 * 2 ^ j1) = ((c0 * 2 ^ j1 : Nat) : Int) := by
    intro j1
    cases hq : tz with
    | false => rfl
    | true =>
      rw [hq] at htz
      have hz : (n == 0) = true := (Bool.and_eq_true_iff.mp htz.symm).2
      have hz2 : n = 0 := eq_of_beq hz
      have hc0 : c0 = 0 := by
        rw [hz2] at hcj
        rcases Nat.mul_eq_zero.mp hcj.symm with g | g
        · exact g
        · exact absurd g (Nat.ne_of_gt (Nat.two_pow_pos _))
      rw [hc0, Nat.zero_mul]
      rfl
  have htz0 : ∀ w j1 : Nat, c0 * 2 ^ j1 = w * 2 ^ 1074 → tz = false ∨ w = 0 := by
    intro w j1 hw
    cases hq : tz with
    | false => exact Or.inl rfl
    | true =>
      refine Or.inr ?_
      have := hsg j1
      rw [hq, fz_st, hw] at this
      have h0 : w * 2 ^ 1074 = 0 := by omega
      rcases Nat.mul_eq_zero.mp h0 with g | g
      · exact g
      · exact absurd g (Nat.ne_of_gt (Nat.two_pow_pos _))
  have hRc : ∀ q : Nat, c0 * 2 ^ q < 2 ^ 2098 → fz_R (c0 * 2 ^ q) := fun q hq => ⟨hq, c0, q, by omega, rfl⟩
  have tail156 : ∀ (hid wh : UInt64) (f j1 : Nat), fz_is wh tz (c0 * 2 ^ j1) → j1 + f = j + 150 → 1 ≤ f → f < 255 → (f ≤ 1 ∨ 2 ^ (1074 + 23) ≤ c0 * 2 ^ j1) → (255 ≤ f + 1 ∨ c0 * 2 ^ j1 < 2 ^ (1074 + 23 + 1)) → ∀ ls : Array Slot, lv_has ls 13 [(10, .int (nI (2 ^ 0 / 2))), (9, .int (nI f)), (7, .double wh), (5, .double hid), (4, .int 255), (3, .int 23), (0, .int cv), (1, .double (FP.f2d u))] → pu_W p l e 1 21 s m [.int cv, .double (FP.f2d u)].toArray below meth c (fun w => ∃ r : Int64, w = .long r ∧ r = u.toInt32.toInt64) (F0 m 156 ls []) := by
    intro hid wh f j1 hwh hjf hf1 hf2 ha hb5 ls hl
    obtain ⟨w5, hw5, hw6, hw7, hw8⟩ := tb_end (P := 23) (F := 150) (E := 255) (NB := 1202) hcj hc hj hn (by decide) hjf hf1 hf2 ha hb5
    have hd2 : FP.d2l wh = lN w5 := tb_d2l (by rw [← hw5]; exact hwh) (htz0 _ _ hw5) (by omega)
    have hfin := tb_narrow hf h hw6 hf1 hf2 hw7 hw8
    refine lv_iload hx hb dX7_toBits_156 (lv_at hl 1 rfl) ?_
    refine lv_iconst (v := 1) hx hb dX7_toBits_158 (by decide) ?_
    refine lv_isub hx hb dX7_toBits_159 ?_
    refine lv_topi (fun v1 ev1 => ?_)
    refine lv_i2l hx hb dX7_toBits_160 rfl ?_
    refine lv_topl (fun v2 ev2 => ?_)
    refine lv_iload_n hx hb dX7_toBits_161 rfl (lv_at hl 5 rfl) ?_
    refine lv_lshl hx hb dX7_toBits_162 rfl ?_
    refine lv_topl (fun v3 ev3 => ?_)
    refine lv_dload hx hb dX7_toBits_163 (lv_at hl 2 rfl) ?_
    refine lv_d2l hx hb dX7_toBits_165 ?_
    refine lv_topl (fun v4 ev4 => ?_)
    refine lv_ladd hx hb dX7_toBits_166 ?_
    refine lv_topl (fun v5 ev5 => ?_)
    refine lv_lstore (lv' := [(10, .long v5), (9, .int (nI f)), (7, .double wh), (5, .double hid), (4, .int 255), (3, .int 23), (0, .int cv), (1, .double (FP.f2d u))]) hx hb dX7_toBits_167 hl (by decide) rfl (fun ls hl => ?_)
    refine lv_dload_n hx hb dX7_toBits_169 rfl (lv_at hl 7 rfl) ?_
    refine pu_call (va_runS (As := [.double (FP.f2d u)]) (rest := []) ⟨hx, hb, hml, hown, hts⟩ (c_X7_isNegative l _ t n h) (va_cwS 1 hts gX7_toBits_X7_isNegative rfl rfl rfl (by decide +kernel) ⟨Nat.le_of_ble_eq_true rfl, Nat.le_of_ble_eq_true rfl⟩) ⟨pu_blind _, fun U hU hW => ⟨rfl, trivial⟩⟩ rfl rfl hl.1 rfl (lv_room (Nat.le_of_ble_eq_true rfl)) dX7_toBits_170 ⟨Nat.zero_le _, Nat.zero_le _⟩) (fun w hw => ?_)
    obtain ⟨r1, rfl, hr1⟩ := hw
    refine lv_if_ne (tgt := 179) hx hb dX7_toBits_173 (by decide) (fun c173 => ?_) (fun c173 => ?_)
    · have ht : t = true := by
        rw [hr1] at c173
        cases t with
        | false => exact absurd rfl c173
        | true => rfl
      have hM : v5 = lN ((f - 1) * 2 ^ 23 + w5) := by
        have q1 : v1 = nI (f - 1) := by
          obtain ⟨f2, hf3⟩ : ∃ f2, f = f2 + 1 := ⟨f - 1, by omega⟩
          rw [ev1, hf3, nI_pred]
          rfl
        have q2 : v2 = lN (f - 1) := by rw [ev2, q1]; exact nI_l (by omega)
        have q3 : v3 = lN ((f - 1) * 2 ^ 23) := by rw [ev3, q2]; exact wb_shl (f - 1) (k := 23) (by decide)
        rw [ev5, q3, ev4, hd2, lN_add]
      refine lv_lload hx hb dX7_toBits_179 (lv_at hl 0 rfl) ?_
      refine lv_ldc2 (v := (-1)) hx hb hown (hts (.constantLong RX7 33 (-1)) (by decide +kernel)) dX7_toBits_181 ?_
      refine lv_iload_n hx hb dX7_toBits_184 rfl (lv_at hl 6 rfl) ?_
      refine lv_if_eq (tgt := 193) hx hb dX7_toBits_185 (by decide) (fun c185 => ?_) (fun c185 => ?_)
      · refine lv_bipush (v := 31) hx hb dX7_toBits_193 (by decide) ?_
        refine lv_lshl hx hb dX7_toBits_195 rfl ?_
        refine lv_topl (fun v6 ev6 => ?_)
        refine lv_lor hx hb dX7_toBits_196 ?_
        refine lv_topl (fun v7 ev7 => ?_)
        exact W.lret (v := v7) hx hb hr (fun t ht hW => ⟨_, rfl, ⟨_, rfl, by rw [ev7, ev6, hM]; exact hfin.2 ht⟩, ht⟩) (fun q hq => absurd hq List.not_mem_nil) dX7_toBits_197
      · exact absurd hcv c185
    · have ht : t = false := by
        rw [hr1] at c173
        cases t with
        | false => rfl
        | true => exact absurd (by decide) c173
      have hM : v5 = lN ((f - 1) * 2 ^ 23 + w5) := by
        have q1 : v1 = nI (f - 1) := by
          obtain ⟨f2, hf3⟩ : ∃ f2, f = f2 + 1 := ⟨f - 1, by omega⟩
          rw [ev1, hf3, nI_pred]
          rfl
        have q2 : v2 = lN (f - 1) := by rw [ev2, q1]; exact nI_l (by omega)
        have q3 : v3 = lN ((f - 1) * 2 ^ 23) := by rw [ev3, q2]; exact wb_shl (f - 1) (k := 23) (by decide)
        rw [ev5, q3, ev4, hd2, lN_add]
      refine lv_lload hx hb dX7_toBits_176 (lv_at hl 0 rfl) ?_
      exact W.lret (v := v5) hx hb hr (fun t ht hW => ⟨_, rfl, ⟨_, rfl, by rw [hM]; exact hfin.1 ht⟩, ht⟩) (fun q hq => absurd hq List.not_mem_nil) dX7_toBits_178
  have outer : ∀ (hid : UInt64), fz_is hid false (2 ^ (1074 + 23)) → ∀ (i : Nat), i < 7 → ∀ (wh : UInt64) (f j1 : Nat), fz_is wh tz (c0 * 2 ^ j1) → j1 + f = j + 150 → 1 ≤ f → f < 255 → (i = 0 → (f ≤ 1 ∨ 2 ^ (1074 + 23) ≤ c0 * 2 ^ j1) ∧ (255 ≤ f + 1 ∨ c0 * 2 ^ j1 < 2 ^ (1074 + 23 + 1))) → ∀ ls : Array Slot, lv_has ls 13 [(10, .int (nI (2 ^ i / 2))), (9, .int (nI f)), (7, .double wh), (5, .double hid), (4, .int 255), (3, .int 23), (0, .int cv), (1, .double (FP.f2d u))] → pu_W p l e 1 21 s m [.int cv, .double (FP.f2d u)].toArray below meth c (fun w => ∃ r : Int64, w = .long r ∧ r = u.toInt32.toInt64) (F0 m 58 ls []) := by
    intro hid hhid i
    induction i with
    | zero =>
      intro hi wh f j1 hwh hjf hf1 hf2 h0 ls hl
      refine lv_iload hx hb dX7_toBits_58 (lv_at hl 0 rfl) ?_
      refine lv_if_le (tgt := 156) hx hb dX7_toBits_60 (by decide) (fun c60 => ?_) (fun c60 => ?_)
      · exact tail156 hid wh f j1 hwh hjf hf1 hf2 (h0 rfl).1 (h0 rfl).2 ls (lv_sub hl [0, 1, 2, 3, 4, 5, 6, 7] rfl)
      · exact absurd (by decide) c60
    | succ i ih =>
      intro hi wh f j1 hwh hjf hf1 hf2 h0 ls hl
      have hsd := sd_one i (by omega)
      obtain ⟨sd, hsde⟩ : ∃ sd, sd = 2 ^ (i + 1) / 2 := ⟨_, rfl⟩
      rw [← hsde] at hsd
      refine lv_iload hx hb dX7_toBits_58 (lv_at hl 0 rfl) ?_
      refine lv_if_le (tgt := 156) hx hb dX7_toBits_60 (by decide) (fun c60 => ?_) (fun c60 => ?_)
      · exact absurd c60 (sd_pos i (by omega))
      · refine lv_lconst (v := 1) hx hb dX7_toBits_63 (by decide) ?_
        refine lv_iload hx hb dX7_toBits_64 (lv_at hl 0 rfl) ?_
        refine lv_lshl hx hb dX7_toBits_66 rfl ?_
        refine lv_topl (fun v1 ev1 => ?_)
        refine lv_l2d hx hb dX7_toBits_67 ?_
        refine lv_topd (fun v2 ev2 => ?_)
        refine lv_dstore (lv' := [(11, .double v2), (10, .int (nI (2 ^ (i + 1) / 2))), (9, .int (nI f)), (7, .double wh), (5, .double hid), (4, .int 255), (3, .int 23), (0, .int cv), (1, .double (FP.f2d u))]) hx hb dX7_toBits_68 hl (by decide) rfl (fun ls hl => ?_)
        have hpw : fz_is v2 false (2 ^ (1074 + sd)) := by
          rw [ev2, ev1, sd_shl (i + 1) hi, hsde]
          exact sd_pow (by omega)
        obtain ⟨pw, hpwe⟩ : ∃ pw, pw = v2 := ⟨_, rfl⟩
        rw [← hpwe] at hpw hl
        have hB1 : fz_is (FP.dmul hid 4611686018427387904) false (2 ^ (1074 + 23 + 1)) := by
          have q := fz_mul hhid fz_two ⟨by rw [← Nat.pow_add]; exact fz_pow_lt (by decide), 1, 1074 + 23 + 1, by decide, by rw [Nat.one_mul, ← Nat.pow_add]⟩
          rw [← Nat.pow_add] at q
          exact q
        have hB2 : fz_is (FP.ddiv (FP.dmul hid 4611686018427387904) pw) false (2 ^ (1074 + 23 + 1 - sd)) := by
          refine fz_div (k := sd) ?_ hpw ⟨fz_pow_lt (by omega), 1, 1074 + 23 + 1 - sd, by decide, (Nat.one_mul _).symm⟩
          rw [← Nat.pow_add, show 1074 + 23 + 1 - sd + sd = 1074 + 23 + 1 by omega]
          exact hB1
        have hB3 : fz_is (FP.dmul hid pw) false (2 ^ (1074 + 23 + sd)) := by
          have q := fz_mul hhid hpw ⟨by rw [← Nat.pow_add]; exact fz_pow_lt (by omega), 1, 1074 + 23 + sd, by decide, by rw [Nat.one_mul, ← Nat.pow_add]⟩
          rw [← Nat.pow_add] at q
          exact q
        have hsdI : nI (2 ^ (i + 1) / 2) = nI sd := by rw [hsde]
        have down : ∀ (q : Nat), ∀ (wh : UInt64) (f j1 : Nat), fz_is wh tz (c0 * 2 ^ j1) → j1 + f = j + 150 → 1 ≤ f → f < 255 → (f ≤ sd ∨ 2 ^ (1074 + 23 + 1 - sd) ≤ c0 * 2 ^ j1) → 255 - f ≤ q → ∀ ls : Array Slot, lv_has ls 13 [(11, .double pw), (10, .int (nI (2 ^ (i + 1) / 2))), (9, .int (nI f)), (7, .double wh), (5, .double hid), (4, .int 255), (3, .int 23), (0, .int cv), (1, .double (FP.f2d u))] → pu_W p l e 1 21 s m [.int cv, .double (FP.f2d u)].toArray below meth c (fun w => ∃ r : Int64, w = .long r ∧ r = u.toInt32.toInt64) (F0 m 109 ls []) := by
          intro q
          induction q with
          | zero =>
            intro wh f j1 hwh hjf hf1 hf2 hup hq ls hl
            refine lv_iload hx hb dX7_toBits_109 (lv_at hl 2 rfl) ?_
            refine lv_iload hx hb dX7_toBits_111 (lv_at hl 1 rfl) ?_
            refine lv_iadd hx hb dX7_toBits_113 ?_
            refine lv_topi (fun v101 ev101 => ?_)
            refine lv_iload hx hb dX7_toBits_114 (lv_at hl 5 rfl) ?_
            refine lv_icmp_ge (tgt := 147) hx hb dX7_toBits_116 (by decide) (fun c116 => ?_) (fun c116 => ?_)
            · rw [ev101, hsdI, nI_add] at c116
              have hc1 : 255 ≤ f + sd := (nI_leI (a := 255) (by decide) (by omega)).mp c116
              refine lv_iload hx hb dX7_toBits_147 (lv_at hl 1 rfl) ?_
              refine lv_iconst (v := 2) hx hb dX7_toBits_149 (by decide) ?_
              refine lv_idiv hx hb dX7_toBits_150 (by decide) ?_
              refine lv_topi (fun v102 ev102 => ?_)
              refine lv_istore (lv' := [(10, .int v102), (11, .double pw), (9, .int (nI f)), (7, .double wh), (5, .double hid), (4, .int 255), (3, .int 23), (0, .int cv), (1, .double (FP.f2d u))]) hx hb dX7_toBits_151 hl (by decide) rfl (fun ls hl => ?_)
              refine lv_goto (tgt := 58) hx hb dX7_toBits_153 (by decide) ?_
              have e7 : v102 = nI (2 ^ i / 2) := by rw [ev102]; exact sd_div i (by omega)
              rw [e7] at hl
              exact ih (by omega) wh f j1 hwh hjf hf1 hf2 (fun q => by
                subst q
                have hsd1 : sd = 1 := hsde
                subst hsd1
                exact ⟨hup, Or.inl (by omega)⟩) ls (lv_sub hl [0, 2, 3, 4, 5, 6, 7, 8] rfl)
            · rw [ev101, hsdI, nI_add] at c116
              have hc1 : f + sd < 255 := Nat.lt_of_not_le (fun g => c116 ((nI_leI (a := 255) (by decide) (by omega)).mpr g))
              omega
          | succ q iq =>
            intro wh f j1 hwh hjf hf1 hf2 hup hq ls hl
            refine lv_iload hx hb dX7_toBits_109 (lv_at hl 2 rfl) ?_
            refine lv_iload hx hb dX7_toBits_111 (lv_at hl 1 rfl) ?_
            refine lv_iadd hx hb dX7_toBits_113 ?_
            refine lv_topi (fun v101 ev101 => ?_)
            refine lv_iload hx hb dX7_toBits_114 (lv_at hl 5 rfl) ?_
            refine lv_icmp_ge (tgt := 147) hx hb dX7_toBits_116 (by decide) (fun c116 => ?_) (fun c116 => ?_)
            · rw [ev101, hsdI, nI_add] at c116
              have hc1 : 255 ≤ f + sd := (nI_leI (a := 255) (by decide) (by omega)).mp c116
              refine lv_iload hx hb dX7_toBits_147 (lv_at hl 1 rfl) ?_
              refine lv_iconst (v := 2) hx hb dX7_toBits_149 (by decide) ?_
              refine lv_idiv hx hb dX7_toBits_150 (by decide) ?_
              refine lv_topi (fun v102 ev102 => ?_)
              refine lv_istore (lv' := [(10, .int v102), (11, .double pw), (9, .int (nI f)), (7, .double wh), (5, .double hid), (4, .int 255), (3, .int 23), (0, .int cv), (1, .double (FP.f2d u))]) hx hb dX7_toBits_151 hl (by decide) rfl (fun ls hl => ?_)
              refine lv_goto (tgt := 58) hx hb dX7_toBits_153 (by decide) ?_
              have e7 : v102 = nI (2 ^ i / 2) := by rw [ev102]; exact sd_div i (by omega)
              rw [e7] at hl
              exact ih (by omega) wh f j1 hwh hjf hf1 hf2 (fun q => by
                subst q
                have hsd1 : sd = 1 := hsde
                subst hsd1
                exact ⟨hup, Or.inl (by omega)⟩) ls (lv_sub hl [0, 2, 3, 4, 5, 6, 7, 8] rfl)
            · rw [ev101, hsdI, nI_add] at c116
              have hc1 : f + sd < 255 := Nat.lt_of_not_le (fun g => c116 ((nI_leI (a := 255) (by decide) (by omega)).mpr g))
              refine lv_dload hx hb dX7_toBits_119 (lv_at hl 3 rfl) ?_
              refine lv_dload hx hb dX7_toBits_121 (lv_at hl 4 rfl) ?_
              refine lv_dload hx hb dX7_toBits_123 (lv_at hl 0 rfl) ?_
              refine lv_dmul hx hb dX7_toBits_125 (fz_n hB3) ?_
              refine lv_topd (fun v103 ev103 => ?_)
              refine lv_dcmp hx hb dX7_toBits_126 ?_
              refine lv_topi (fun v104 ev104 => ?_)
              refine lv_if_lt (tgt := 147) hx hb dX7_toBits_127 (by decide) (fun c127 => ?_) (fun c127 => ?_)
              · have hc2 := (fz_c hwh hB3 (by rw [ev103, ev102])).1.mp c127
                rw [hsg, fz_sf] at hc2
                refine lv_iload hx hb dX7_toBits_147 (lv_at hl 1 rfl) ?_
                refine lv_iconst (v := 2) hx hb dX7_toBits_149 (by decide) ?_
                refine lv_idiv hx hb dX7_toBits_150 (by decide) ?_
                refine lv_topi (fun v105 ev105 => ?_)
                refine lv_istore (lv' := [(10, .int v105), (11, .double pw), (9, .int (nI f)), (7, .double wh), (5, .double hid), (4, .int 255), (3, .int 23), (0, .int cv), (1, .double (FP.f2d u))]) hx hb dX7_toBits_151 hl (by decide) rfl (fun ls hl => ?_)
                refine lv_goto (tgt := 58) hx hb dX7_toBits_153 (by decide) ?_
                have e7 : v105 = nI (2 ^ i / 2) := by rw [ev105]; exact sd_div i (by omega)
                rw [e7] at hl
                exact ih (by omega) wh f j1 hwh hjf hf1 hf2 (fun q => by
                  subst q
                  have hsd1 : sd = 1 := hsde
                  subst hsd1
                  exact ⟨hup, Or.inr (by omega)⟩) ls (lv_sub hl [0, 2, 3, 4, 5, 6, 7, 8] rfl)
              · have hc2 := (not_congr (fz_c hwh hB3 (by rw [ev103, ev102])).1).mp c127
                rw [hsg, fz_sf] at hc2
                have hc3 : 2 ^ (1074 + 23 + sd) ≤ c0 * 2 ^ j1 := by omega
                have hj2 : sd ≤ j1 := by
                  rcases Nat.lt_or_ge j1 sd with g | g
                  · exfalso
                    have q1 : c0 * 2 ^ j1 ≤ c0 * 2 ^ sd := Nat.mul_le_mul_left _ (fz_pow_le (by omega))
                    have q2 : c0 * 2 ^ sd < 2 ^ 24 * 2 ^ sd := Nat.mul_lt_mul_of_pos_right hc (Nat.two_pow_pos _)
                    rw [← Nat.pow_add] at q2
                    have q3 : 2 ^ (24 + sd) ≤ 2 ^ (1074 + 23 + sd) := fz_pow_le (by omega)
                    omega
                  · exact g
                have he2 : c0 * 2 ^ (j1 - sd) * 2 ^ sd = c0 * 2 ^ j1 := by rw [tb_up]; congr 2; omega
                have hle2 : c0 * 2 ^ (j1 - sd) ≤ c0 * 2 ^ j1 := Nat.mul_le_mul_left _ (fz_pow_le (by omega))
                have hs5 : fz_is (FP.ddiv wh pw) tz (c0 * 2 ^ (j1 - sd)) := fz_div (k := sd) (by rw [he2]; exact hwh) hpw (hRc _ (by have := (fz_is_R hwh).1; omega))
                have hge2 : 2 ^ (1074 + 23 + 1 - sd) ≤ c0 * 2 ^ (j1 - sd) := by
                  have q4 : 2 ^ (1074 + 23 + 1 - sd) ≤ 2 ^ (1074 + 23) := fz_pow_le (by omega)
                  have q5 : 2 ^ (1074 + 23) ≤ c0 * 2 ^ (j1 - sd) := by
                    refine Nat.le_of_mul_le_mul_right (a := 2 ^ sd) ?_ (Nat.two_pow_pos _)
                    rw [he2, ← Nat.pow_add]
                    exact hc3
                  omega
                refine lv_dload hx hb dX7_toBits_130 (lv_at hl 3 rfl) ?_
                refine lv_dload hx hb dX7_toBits_132 (lv_at hl 0 rfl) ?_
                refine lv_ddiv hx hb dX7_toBits_134 (fz_n hs5) ?_
                refine lv_topd (fun v106 ev106 => ?_)
                refine lv_dstore (lv' := [(7, .double v106), (11, .double pw), (10, .int (nI (2 ^ (i + 1) / 2))), (9, .int (nI f)), (5, .double hid), (4, .int 255), (3, .int 23), (0, .int cv), (1, .double (FP.f2d u))]) hx hb dX7_toBits_135 hl (by decide) rfl (fun ls hl => ?_)
                refine lv_iload hx hb dX7_toBits_137 (lv_at hl 3 rfl) ?_
                refine lv_iload hx hb dX7_toBits_139 (lv_at hl 2 rfl) ?_
                refine lv_iadd hx hb dX7_toBits_141 ?_
                refine lv_topi (fun v107 ev107 => ?_)
                refine lv_istore (lv' := [(9, .int v107), (7, .double v106), (11, .double pw), (10, .int (nI (2 ^ (i + 1) / 2))), (5, .double hid), (4, .int 255), (3, .int 23), (0, .int cv), (1, .double (FP.f2d u))]) hx hb dX7_toBits_142 hl (by decide) rfl (fun ls hl => ?_)
                refine lv_goto (tgt := 109) hx hb dX7_toBits_144 (by decide) ?_
                have e8 : v107 = nI (f + sd) := by rw [ev107, hsdI, nI_add]
                rw [e8] at hl
                exact iq _ (f + sd) (j1 - sd) (by rw [ev106]; exact hs5) (by omega) (by omega) hc1 (Or.inr hge2) (by omega) ls (lv_sub hl [2, 3, 0, 1, 4, 5, 6, 7, 8] rfl)
        have up : ∀ (q : Nat), ∀ (wh : UInt64) (f j1 : Nat), fz_is wh tz (c0 * 2 ^ j1) → j1 + f = j + 150 → 1 ≤ f → f < 255 → f ≤ q → ∀ ls : Array Slot, lv_has ls 13 [(11, .double pw), (10, .int (nI (2 ^ (i + 1) / 2))), (9, .int (nI f)), (7, .double wh), (5, .double hid), (4, .int 255), (3, .int 23), (0, .int cv), (1, .double (FP.f2d u))] → pu_W p l e 1 21 s m [.int cv, .double (FP.f2d u)].toArray below meth c (fun w => ∃ r : Int64, w = .long r ∧ r = u.toInt32.toInt64) (F0 m 70 ls []) := by
          intro q
          induction q with
          | zero =>
            intro wh f j1 hwh hjf hf1 hf2 hq ls hl
            refine lv_iload hx hb dX7_toBits_70 (lv_at hl 2 rfl) ?_
            refine lv_iload hx hb dX7_toBits_72 (lv_at hl 1 rfl) ?_
            refine lv_icmp_le (tgt := 109) hx hb dX7_toBits_74 (by decide) (fun c74 => ?_) (fun c74 => ?_)
            · rw [hsdI] at c74
              have hc1 : f ≤ sd := (nI_leI (by omega) (by omega)).mp c74
              exact down _ wh f j1 hwh hjf hf1 hf2 (Or.inl hc1) (Nat.le_refl _) ls (lv_sub hl [0, 1, 2, 3, 4, 5, 6, 7, 8] rfl)
            · rw [hsdI] at c74
              have hc1 : sd < f := Nat.lt_of_not_le (fun g => c74 ((nI_leI (by omega) (by omega)).mpr g))
              omega
          | succ q iq =>
            intro wh f j1 hwh hjf hf1 hf2 hq ls hl
            refine lv_iload hx hb dX7_toBits_70 (lv_at hl 2 rfl) ?_
            refine lv_iload hx hb dX7_toBits_72 (lv_at hl 1 rfl) ?_
            refine lv_icmp_le (tgt := 109) hx hb dX7_toBits_74 (by decide) (fun c74 => ?_) (fun c74 => ?_)
            · rw [hsdI] at c74
              have hc1 : f ≤ sd := (nI_leI (by omega) (by omega)).mp c74
              exact down _ wh f j1 hwh hjf hf1 hf2 (Or.inl hc1) (Nat.le_refl _) ls (lv_sub hl [0, 1, 2, 3, 4, 5, 6, 7, 8] rfl)
            · rw [hsdI] at c74
              have hc1 : sd < f := Nat.lt_of_not_le (fun g => c74 ((nI_leI (by omega) (by omega)).mpr g))
              refine lv_dload hx hb dX7_toBits_77 (lv_at hl 3 rfl) ?_
              refine lv_dload hx hb dX7_toBits_79 (lv_at hl 4 rfl) ?_
              refine lv_ldc2d (v := (4611686018427387904)) hx hb hown (hts (.constantDouble RX7 27 (4611686018427387904)) (by decide +kernel)) dX7_toBits_81 ?_
              refine lv_dmul hx hb dX7_toBits_84 (fz_n hB1) ?_
              refine lv_topd (fun v201 ev201 => ?_)
              refine lv_dload hx hb dX7_toBits_85 (lv_at hl 0 rfl) ?_
              refine lv_ddiv hx hb dX7_toBits_87 (by rw [ev201]; exact fz_n hB2) ?_
              refine lv_topd (fun v202 ev202 => ?_)
              refine lv_dcmp hx hb dX7_toBits_88 ?_
              refine lv_topi (fun v203 ev203 => ?_)
              refine lv_if_ge (tgt := 109) hx hb dX7_toBits_89 (by decide) (fun c89 => ?_) (fun c89 => ?_)
              · have hc2 := (fz_c hwh hB2 (by rw [ev203, ev202, ev201])).2.2.1.mp c89
                rw [hsg, fz_sf] at hc2
                exact down _ wh f j1 hwh hjf hf1 hf2 (Or.inr (by omega)) (Nat.le_refl _) ls (lv_sub hl [0, 1, 2, 3, 4, 5, 6, 7, 8] rfl)
              · have hc2 := (not_congr (fz_c hwh hB2 (by rw [ev203, ev202, ev201])).2.2.1).mp c89
                rw [hsg, fz_sf] at hc2
                have hc3 : c0 * 2 ^ j1 < 2 ^ (1074 + 23 + 1 - sd) := by omega
                have hlt2 : c0 * 2 ^ (j1 + sd) < 2 ^ (1074 + 23 + 1) := by
                  have q5 : c0 * 2 ^ j1 * 2 ^ sd < 2 ^ (1074 + 23 + 1 - sd) * 2 ^ sd := Nat.mul_lt_mul_of_pos_right hc3 (Nat.two_pow_pos _)
                  rw [tb_up, ← Nat.pow_add, show 1074 + 23 + 1 - sd + sd = 1074 + 23 + 1 by omega] at q5
                  exact q5
                have hlt3 : c0 * 2 ^ (j1 + sd) < 2 ^ 2098 := Nat.lt_trans hlt2 (fz_pow_lt (by decide))
                have hs5 : fz_is (FP.dmul wh pw) tz (c0 * 2 ^ (j1 + sd)) := by
                  have q := fz_mul hwh hpw (by rw [tb_up]; exact hRc _ hlt3)
                  rw [tb_up] at q
                  exact q
                refine lv_dload hx hb dX7_toBits_92 (lv_at hl 3 rfl) ?_
                refine lv_dload hx hb dX7_toBits_94 (lv_at hl 0 rfl) ?_
                refine lv_dmul hx hb dX7_toBits_96 (fz_n hs5) ?_
                refine lv_topd (fun v204 ev204 => ?_)
                refine lv_dstore (lv' := [(7, .double v204), (11, .double pw), (10, .int (nI (2 ^ (i + 1) / 2))), (9, .int (nI f)), (5, .double hid), (4, .int 255), (3, .int 23), (0, .int cv), (1, .double (FP.f2d u))]) hx hb dX7_toBits_97 hl (by decide) rfl (fun ls hl => ?_)
                refine lv_iload hx hb dX7_toBits_99 (lv_at hl 3 rfl) ?_
                refine lv_iload hx hb dX7_toBits_101 (lv_at hl 2 rfl) ?_
                refine lv_isub hx hb dX7_toBits_103 ?_
                refine lv_topi (fun v205 ev205 => ?_)
                refine lv_istore (lv' := [(9, .int v205), (7, .double v204), (11, .double pw), (10, .int (nI (2 ^ (i + 1) / 2))), (5, .double hid), (4, .int 255), (3, .int 23), (0, .int cv), (1, .double (FP.f2d u))]) hx hb dX7_toBits_104 hl (by decide) rfl (fun ls hl => ?_)
                refine lv_goto (tgt := 70) hx hb dX7_toBits_106 (by decide) ?_
                have e8 : v205 = nI (f - sd) := by rw [ev205, hsdI]; exact pk_sub (by omega)
                rw [e8] at hl
                exact iq _ (f - sd) (j1 + sd) (by rw [ev204]; exact hs5) (by omega) (by omega) (by omega) (by omega) ls (lv_sub hl [2, 3, 0, 1, 4, 5, 6, 7, 8] rfl)
        exact up _ wh f j1 hwh hjf hf1 hf2 (Nat.le_refl _) ls (lv_sub hl [0, 1, 2, 3, 4, 5, 6, 7, 8] rfl)
  refine lv_iload_n hx hb dX7_toBits_0 rfl (lv_at hl 0 rfl) ?_
  refine lv_if_eq (tgt := 9) hx hb dX7_toBits_1 (by decide) (fun c1 => ?_) (fun c1 => ?_)
  · refine lv_bipush (v := 23) hx hb dX7_toBits_9 (by decide) ?_
    refine lv_istore_n (lv' := [(3, .int 23), (0, .int cv), (1, .double (FP.f2d u))]) hx hb dX7_toBits_11 rfl hl (by decide) rfl (fun ls hl => ?_)
    refine lv_iload_n hx hb dX7_toBits_12 rfl (lv_at hl 1 rfl) ?_
    refine lv_if_eq (tgt := 22) hx hb dX7_toBits_13 (by decide) (fun c13 => ?_) (fun c13 => ?_)
    · refine lv_sipush (v := 255) hx hb dX7_toBits_22 (by decide) ?_
      refine lv_istore (lv' := [(4, .int 255), (3, .int 23), (0, .int cv), (1, .double (FP.f2d u))]) hx hb dX7_toBits_25 hl (by decide) rfl (fun ls hl => ?_)
      refine lv_lconst (v := 1) hx hb dX7_toBits_27 (by decide) ?_
      refine lv_iload_n hx hb dX7_toBits_28 rfl (lv_at hl 1 rfl) ?_
      refine lv_lshl hx hb dX7_toBits_29 rfl ?_
      refine lv_topl (fun v1 ev1 => ?_)
      refine lv_l2d hx hb dX7_toBits_30 ?_
      refine lv_topd (fun v2 ev2 => ?_)
      refine lv_dstore (lv' := [(5, .double v2), (4, .int 255), (3, .int 23), (0, .int cv), (1, .double (FP.f2d u))]) hx hb dX7_toBits_31 hl (by decide) rfl (fun ls hl => ?_)
      refine lv_dload_n hx hb dX7_toBits_33 rfl (lv_at hl 4 rfl) ?_
      refine pu_call (va_runS (As := [.double (FP.f2d u)]) (rest := []) ⟨hx, hb, hml, hown, hts⟩ (c_X7_sizeOf l _ t n h) (va_cwS 1 hts gX7_toBits_X7_sizeOf rfl rfl rfl (by decide +kernel) ⟨Nat.le_of_ble_eq_true rfl, Nat.le_of_ble_eq_true rfl⟩) ⟨pu_blind _, fun U hU hW => ⟨rfl, trivial⟩⟩ rfl rfl hl.1 rfl (lv_room (Nat.le_of_ble_eq_true rfl)) dX7_toBits_34 ⟨Nat.zero_le _, Nat.zero_le _⟩) (fun w hw => ?_)
      obtain ⟨r1, rfl, hr1⟩ := hw
      refine lv_dstore (lv' := [(7, .double r1), (5, .double v2), (4, .int 255), (3, .int 23), (0, .int cv), (1, .double (FP.f2d u))]) hx hb dX7_toBits_37 hl (by decide) rfl (fun ls hl => ?_)
      refine lv_iload_n hx hb dX7_toBits_39 rfl (lv_at hl 4 rfl) ?_
      refine lv_if_eq (tgt := 49) hx hb dX7_toBits_40 (by decide) (fun c40 => ?_) (fun c40 => ?_)
      · refine lv_sipush (v := 150) hx hb dX7_toBits_49 (by decide) ?_
        refine lv_istore (lv' := [(9, .int 150), (7, .double r1), (5, .double v2), (4, .int 255), (3, .int 23), (0, .int cv), (1, .double (FP.f2d u))]) hx hb dX7_toBits_52 hl (by decide) rfl (fun ls hl => ?_)
        refine lv_bipush (v := 32) hx hb dX7_toBits_54 (by decide) ?_
        refine lv_istore (lv' := [(10, .int 32), (9, .int 150), (7, .double r1), (5, .double v2), (4, .int 255), (3, .int 23), (0, .int cv), (1, .double (FP.f2d u))]) hx hb dX7_toBits_56 hl (by decide) rfl (fun ls hl => ?_)
        have hhid : fz_is v2 false (2 ^ (1074 + 23)) := by
          rw [ev2, ev1]
          exact sd_pow (k := 23) (by decide)
        exact outer v2 hhid 6 (by decide) r1 150 j (by rw [← hcj, htz]; exact hr1) rfl (by decide) (by decide) (fun q => absurd q (by decide)) ls (lv_sub hl [0, 1, 2, 3, 4, 5, 6, 7] rfl)
      · exact absurd hcv c40
    · exact absurd hcv c13
  · exact absurd hcv c1
