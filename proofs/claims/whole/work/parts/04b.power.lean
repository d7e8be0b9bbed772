/-- where a scaling stands: n times 2^z is the goal g -/
def tp_at (n g : Nat) (z : Int) : Prop := (0 ≤ z → n * 2 ^ z.toNat = g) ∧ (z ≤ 0 → n = g * 2 ^ (-z).toNat)
theorem tp_up {n g k : Nat} {z : Int} (h : tp_at n g z) (hk : (k : Int) ≤ z) : tp_at (n * 2 ^ k) g (z - k) := by
  have h1 := h.1 (by omega)
  have e1 : n * 2 ^ k * 2 ^ (z - k).toNat = g := by
    rw [← h1, Nat.mul_assoc, ← Nat.pow_add]
    congr 2
    omega
  refine ⟨fun _ => e1, fun hz => ?_⟩
  have hz0 : z - k = 0 := by omega
  rw [hz0] at e1 ⊢
  simpa using e1
theorem tp_down {n g k : Nat} {z : Int} (h : tp_at n g z) (hk : z ≤ -(k : Int)) : n = g * 2 ^ (-(z + k)).toNat * 2 ^ k ∧ tp_at (g * 2 ^ (-(z + k)).toNat) g (z + k) := by
  have h1 := h.2 (by omega)
  refine ⟨?_, fun hz => ?_, fun _ => rfl⟩
  · rw [h1, Nat.mul_assoc, ← Nat.pow_add]
    congr 2
    omega
  · have hz0 : z + k = 0 := by omega
    rw [hz0]
    simp
theorem tp_R {n g : Nat} {z : Int} (h : tp_at n g z) (hn : fz_R n) (hg : fz_R g) {k : Nat} (hk : (k : Int) ≤ z) : fz_R (n * 2 ^ k) := by
  refine ⟨?_, fz_C_mul _ hn.2⟩
  have h1 := h.1 (by omega)
  have h2 : n * 2 ^ k ≤ n * 2 ^ z.toNat := Nat.mul_le_mul_left _ (fz_pow_le (by omega))
  have h3 := hg.1
  omega
theorem tp_Rd {n g : Nat} {z : Int} (hn : fz_R n) (hg : fz_R g) {k : Nat} (he : n = g * 2 ^ (-(z + k)).toNat * 2 ^ k) : fz_R (g * 2 ^ (-(z + k)).toNat) := by
  refine ⟨?_, fz_C_mul _ hg.2⟩
  have h1 := hn.1
  have h2 : g * 2 ^ (-(z + k)).toNat * 1 ≤ g * 2 ^ (-(z + k)).toNat * 2 ^ k := Nat.mul_le_mul_left _ (Nat.two_pow_pos k)
  omega
set_option maxHeartbeats 4000000 in
set_option maxRecDepth 100000 in
/-- a number times a power of two, where that is a number and none is lost on the way -/
theorem c_X7_timesPowerOfTwo (l : Launch) (x : UInt64) (t : Bool) (n g : Nat) (E : Int32) (h : fz_is x t n) (hE : tp_at n g E.toInt) (hb1 : -2000 ≤ E.toInt) (hb2 : E.toInt ≤ 2000) (hg : fz_R g) : pu_M l yX7_timesPowerOfTwo wsX7_timesPowerOfTwo 0 0 [.double x, .int E] (fun _ => True) (fun w => ∃ r : UInt64, w = .double r ∧ fz_is r t g) := by
  refine pu_ofW (cc := cX7_timesPowerOfTwo) (maxL := 9) (ret := (some .double)) (by decide) rfl (fun p e s m below meth c hx hb hr hml hts hown hlocks hpre ls hl => ?_) (Nat.le_of_ble_eq_true rfl)
  have hl : lv_has ls 9 [(0, .double x), (2, .int E)] := hl
  have outer : ∀ (i : Nat), i < 7 → ∀ (sc : UInt64) (n1 : Nat) (lf : Int32) , fz_is sc t n1 → tp_at n1 g lf.toInt → -2000 ≤ lf.toInt → lf.toInt ≤ 2000 → (i = 0 → lf.toInt = 0) → ∀ ls : Array Slot, lv_has ls 9 [(6, .int (nI (2 ^ i / 2))), (5, .int lf), (3, .double sc)] → pu_W p l e 0 0 s m [.double x, .int E].toArray below meth c (fun w => ∃ r : UInt64, w = .double r ∧ fz_is r t g) (F0 m 9 ls []) := by
    intro i
    induction i with
    | zero =>
      intro hi sc n1 lf hs ha hl1 hl2 h0 ls hl
      have e0 := h0 rfl
      have hn1 : n1 = g := by
        have := ha.1 (by omega)
        rw [e0] at this
        simpa using this
      subst hn1
      refine lv_iload hx hb dX7_timesPowerOfTwo_9 (lv_at hl 0 rfl) ?_
      refine lv_if_le (tgt := 75) hx hb dX7_timesPowerOfTwo_11 (by decide) (fun c11 => ?_) (fun c11 => ?_)
      · refine lv_dload_n hx hb dX7_timesPowerOfTwo_75 rfl (lv_at hl 2 rfl) ?_
        exact W.dret (v := sc) hx hb hr (fun t ht hW => ⟨_, rfl, ⟨_, rfl, hs⟩, ht⟩) (fun q hq => absurd hq List.not_mem_nil) dX7_timesPowerOfTwo_76
      · exact absurd (by decide) c11
    | succ i ih =>
      intro hi sc n1 lf hs ha hl1 hl2 h0 ls hl
      have hsd := sd_one i (by omega)
      have hti := sd_toInt (i + 1) hi
      refine lv_iload hx hb dX7_timesPowerOfTwo_9 (lv_at hl 0 rfl) ?_
      refine lv_if_le (tgt := 75) hx hb dX7_timesPowerOfTwo_11 (by decide) (fun c11 => ?_) (fun c11 => ?_)
      · exact absurd c11 (sd_pos i (by omega))
      · refine lv_lconst (v := 1) hx hb dX7_timesPowerOfTwo_14 (by decide) ?_
        refine lv_iload hx hb dX7_timesPowerOfTwo_15 (lv_at hl 0 rfl) ?_
        refine lv_lshl hx hb dX7_timesPowerOfTwo_17 rfl ?_
        refine lv_topl (fun v1 ev1 => ?_)
        refine lv_l2d hx hb dX7_timesPowerOfTwo_18 ?_
        refine lv_topd (fun v2 ev2 => ?_)
        refine lv_dstore (lv' := [(7, .double v2), (6, .int (nI (2 ^ (i + 1) / 2))), (5, .int lf), (3, .double sc)]) hx hb dX7_timesPowerOfTwo_19 hl (by decide) rfl (fun ls hl => ?_)
        have hpw : fz_is v2 false (2 ^ (1074 + 2 ^ (i + 1) / 2)) := by
          rw [ev2, ev1, sd_shl (i + 1) hi]
          exact sd_pow (by omega)
        obtain ⟨pw, hpwe⟩ : ∃ pw, pw = v2 := ⟨_, rfl⟩
        rw [← hpwe] at hpw hl
        have down : ∀ (q : Nat), ∀ (sc : UInt64) (n1 : Nat) (lf : Int32) , fz_is sc t n1 → tp_at n1 g lf.toInt → -2000 ≤ lf.toInt → lf.toInt ≤ 2000 → lf.toInt < ((2 ^ (i + 1) / 2 : Nat) : Int) → (-lf.toInt).toNat ≤ q → ∀ ls : Array Slot, lv_has ls 9 [(7, .double pw), (6, .int (nI (2 ^ (i + 1) / 2))), (5, .int lf), (3, .double sc)] → pu_W p l e 0 0 s m [.double x, .int E].toArray below meth c (fun w => ∃ r : UInt64, w = .double r ∧ fz_is r t g) (F0 m 43 ls []) := by
          intro q
          induction q with
          | zero =>
            intro sc n1 lf hs ha hl1 hl2 hlt hq ls hl
            refine lv_iload hx hb dX7_timesPowerOfTwo_43 (lv_at hl 2 rfl) ?_
            refine lv_iload hx hb dX7_timesPowerOfTwo_45 (lv_at hl 1 rfl) ?_
            refine lv_ineg hx hb dX7_timesPowerOfTwo_47 ?_
            refine lv_topi (fun v101 ev101 => ?_)
            refine lv_icmp_gt (tgt := 66) hx hb dX7_timesPowerOfTwo_48 (by decide) (fun c48 => ?_) (fun c48 => ?_)
            · have hc := ib_lt.mp c48
              rw [ev101, ib_neg (by omega), hti] at hc
              refine lv_iload hx hb dX7_timesPowerOfTwo_66 (lv_at hl 1 rfl) ?_
              refine lv_iconst (v := 2) hx hb dX7_timesPowerOfTwo_68 (by decide) ?_
              refine lv_idiv hx hb dX7_timesPowerOfTwo_69 (by decide) ?_
              refine lv_topi (fun v102 ev102 => ?_)
              refine lv_istore (lv' := [(6, .int v102), (7, .double pw), (5, .int lf), (3, .double sc)]) hx hb dX7_timesPowerOfTwo_70 hl (by decide) rfl (fun ls hl => ?_)
              refine lv_goto (tgt := 9) hx hb dX7_timesPowerOfTwo_72 (by decide) ?_
              have e7 : v102 = nI (2 ^ i / 2) := by rw [ev102]; exact sd_div i (by omega)
              rw [e7] at hl
              exact ih (by omega) sc n1 lf hs ha hl1 hl2 (fun q => by subst q; omega) ls (lv_sub hl [0, 2, 3] rfl)
            · have hc := (not_congr ib_lt).mp c48
              rw [ev101, ib_neg (by omega), hti] at hc
              omega
          | succ q iq =>
            intro sc n1 lf hs ha hl1 hl2 hlt hq ls hl
            refine lv_iload hx hb dX7_timesPowerOfTwo_43 (lv_at hl 2 rfl) ?_
            refine lv_iload hx hb dX7_timesPowerOfTwo_45 (lv_at hl 1 rfl) ?_
            refine lv_ineg hx hb dX7_timesPowerOfTwo_47 ?_
            refine lv_topi (fun v101 ev101 => ?_)
            refine lv_icmp_gt (tgt := 66) hx hb dX7_timesPowerOfTwo_48 (by decide) (fun c48 => ?_) (fun c48 => ?_)
            · have hc := ib_lt.mp c48
              rw [ev101, ib_neg (by omega), hti] at hc
              refine lv_iload hx hb dX7_timesPowerOfTwo_66 (lv_at hl 1 rfl) ?_
              refine lv_iconst (v := 2) hx hb dX7_timesPowerOfTwo_68 (by decide) ?_
              refine lv_idiv hx hb dX7_timesPowerOfTwo_69 (by decide) ?_
              refine lv_topi (fun v102 ev102 => ?_)
              refine lv_istore (lv' := [(6, .int v102), (7, .double pw), (5, .int lf), (3, .double sc)]) hx hb dX7_timesPowerOfTwo_70 hl (by decide) rfl (fun ls hl => ?_)
              refine lv_goto (tgt := 9) hx hb dX7_timesPowerOfTwo_72 (by decide) ?_
              have e7 : v102 = nI (2 ^ i / 2) := by rw [ev102]; exact sd_div i (by omega)
              rw [e7] at hl
              exact ih (by omega) sc n1 lf hs ha hl1 hl2 (fun q => by subst q; omega) ls (lv_sub hl [0, 2, 3] rfl)
            · have hc := (not_congr ib_lt).mp c48
              rw [ev101, ib_neg (by omega), hti] at hc
              obtain ⟨e5, ha5⟩ := tp_down ha (k := 2 ^ (i + 1) / 2) (by omega)
              have hR5 := tp_Rd (fz_is_R hs) hg e5
              have hs5 : fz_is (FP.ddiv sc pw) t (g * 2 ^ (-(lf.toInt + ((2 ^ (i + 1) / 2 : Nat) : Int))).toNat) := fz_div (by rw [← e5]; exact hs) hpw hR5
              refine lv_dload_n hx hb dX7_timesPowerOfTwo_51 rfl (lv_at hl 3 rfl) ?_
              refine lv_dload hx hb dX7_timesPowerOfTwo_52 (lv_at hl 0 rfl) ?_
              refine lv_ddiv hx hb dX7_timesPowerOfTwo_54 (fz_n hs5) ?_
              refine lv_topd (fun v103 ev103 => ?_)
              refine lv_dstore_n (lv' := [(3, .double v103), (7, .double pw), (6, .int (nI (2 ^ (i + 1) / 2))), (5, .int lf)]) hx hb dX7_timesPowerOfTwo_55 rfl hl (by decide) rfl (fun ls hl => ?_)
              refine lv_iload hx hb dX7_timesPowerOfTwo_56 (lv_at hl 3 rfl) ?_
              refine lv_iload hx hb dX7_timesPowerOfTwo_58 (lv_at hl 2 rfl) ?_
              refine lv_iadd hx hb dX7_timesPowerOfTwo_60 ?_
              refine lv_topi (fun v104 ev104 => ?_)
              refine lv_istore (lv' := [(5, .int v104), (3, .double v103), (7, .double pw), (6, .int (nI (2 ^ (i + 1) / 2)))]) hx hb dX7_timesPowerOfTwo_61 hl (by decide) rfl (fun ls hl => ?_)
              refine lv_goto (tgt := 43) hx hb dX7_timesPowerOfTwo_63 (by decide) ?_
              have e8 : v104.toInt = lf.toInt + ((2 ^ (i + 1) / 2 : Nat) : Int) := by rw [ev104, ib_add (by omega) (by omega), hti]
              exact iq _ _ v104 (by rw [ev103]; exact hs5) (by rw [e8]; exact ha5) (by omega) (by omega) (by omega) (by omega) ls (lv_sub hl [2, 3, 0, 1] rfl)
        have up : ∀ (q : Nat), ∀ (sc : UInt64) (n1 : Nat) (lf : Int32) , fz_is sc t n1 → tp_at n1 g lf.toInt → -2000 ≤ lf.toInt → lf.toInt ≤ 2000 → lf.toInt.toNat ≤ q → ∀ ls : Array Slot, lv_has ls 9 [(7, .double pw), (6, .int (nI (2 ^ (i + 1) / 2))), (5, .int lf), (3, .double sc)] → pu_W p l e 0 0 s m [.double x, .int E].toArray below meth c (fun w => ∃ r : UInt64, w = .double r ∧ fz_is r t g) (F0 m 21 ls []) := by
          intro q
          induction q with
          | zero =>
            intro sc n1 lf hs ha hl1 hl2 hq ls hl
            refine lv_iload hx hb dX7_timesPowerOfTwo_21 (lv_at hl 2 rfl) ?_
            refine lv_iload hx hb dX7_timesPowerOfTwo_23 (lv_at hl 1 rfl) ?_
            refine lv_icmp_lt (tgt := 43) hx hb dX7_timesPowerOfTwo_25 (by decide) (fun c25 => ?_) (fun c25 => ?_)
            · have hc := ib_lt.mp c25
              rw [hti] at hc
              exact down _ sc n1 lf hs ha hl1 hl2 hc (Nat.le_refl _) ls (lv_sub hl [0, 1, 2, 3] rfl)
            · have hc := (not_congr ib_lt).mp c25
              rw [hti] at hc
              omega
          | succ q iq =>
            intro sc n1 lf hs ha hl1 hl2 hq ls hl
            refine lv_iload hx hb dX7_timesPowerOfTwo_21 (lv_at hl 2 rfl) ?_
            refine lv_iload hx hb dX7_timesPowerOfTwo_23 (lv_at hl 1 rfl) ?_
            refine lv_icmp_lt (tgt := 43) hx hb dX7_timesPowerOfTwo_25 (by decide) (fun c25 => ?_) (fun c25 => ?_)
            · have hc := ib_lt.mp c25
              rw [hti] at hc
              exact down _ sc n1 lf hs ha hl1 hl2 hc (Nat.le_refl _) ls (lv_sub hl [0, 1, 2, 3] rfl)
            · have hc := (not_congr ib_lt).mp c25
              rw [hti] at hc
              have hs5 := fz_mul hs hpw (tp_R ha (fz_is_R hs) hg (by omega))
              have ha5 := tp_up ha (k := 2 ^ (i + 1) / 2) (by omega)
              refine lv_dload_n hx hb dX7_timesPowerOfTwo_28 rfl (lv_at hl 3 rfl) ?_
              refine lv_dload hx hb dX7_timesPowerOfTwo_29 (lv_at hl 0 rfl) ?_
              refine lv_dmul hx hb dX7_timesPowerOfTwo_31 (fz_n hs5) ?_
              refine lv_topd (fun v201 ev201 => ?_)
              refine lv_dstore_n (lv' := [(3, .double v201), (7, .double pw), (6, .int (nI (2 ^ (i + 1) / 2))), (5, .int lf)]) hx hb dX7_timesPowerOfTwo_32 rfl hl (by decide) rfl (fun ls hl => ?_)
              refine lv_iload hx hb dX7_timesPowerOfTwo_33 (lv_at hl 3 rfl) ?_
              refine lv_iload hx hb dX7_timesPowerOfTwo_35 (lv_at hl 2 rfl) ?_
              refine lv_isub hx hb dX7_timesPowerOfTwo_37 ?_
              refine lv_topi (fun v202 ev202 => ?_)
              refine lv_istore (lv' := [(5, .int v202), (3, .double v201), (7, .double pw), (6, .int (nI (2 ^ (i + 1) / 2)))]) hx hb dX7_timesPowerOfTwo_38 hl (by decide) rfl (fun ls hl => ?_)
              refine lv_goto (tgt := 21) hx hb dX7_timesPowerOfTwo_40 (by decide) ?_
              have e8 : v202.toInt = lf.toInt - ((2 ^ (i + 1) / 2 : Nat) : Int) := by rw [ev202, ib_sub (by omega) (by omega), hti]
              exact iq _ _ v202 (by rw [ev201]; exact hs5) (by rw [e8]; exact ha5) (by omega) (by omega) (by omega) ls (lv_sub hl [2, 3, 0, 1] rfl)
        exact up _ sc n1 lf hs ha hl1 hl2 (Nat.le_refl _) ls (lv_sub hl [0, 1, 2, 3] rfl)
  refine lv_dload_n hx hb dX7_timesPowerOfTwo_0 rfl (lv_at hl 0 rfl) ?_
  refine lv_dstore_n (lv' := [(3, .double x), (0, .double x), (2, .int E)]) hx hb dX7_timesPowerOfTwo_1 rfl hl (by decide) rfl (fun ls hl => ?_)
  refine lv_iload_n hx hb dX7_timesPowerOfTwo_2 rfl (lv_at hl 2 rfl) ?_
  refine lv_istore (lv' := [(5, .int E), (3, .double x), (0, .double x), (2, .int E)]) hx hb dX7_timesPowerOfTwo_3 hl (by decide) rfl (fun ls hl => ?_)
  refine lv_bipush (v := 32) hx hb dX7_timesPowerOfTwo_5 (by decide) ?_
  refine lv_istore (lv' := [(6, .int 32), (5, .int E), (3, .double x), (0, .double x), (2, .int E)]) hx hb dX7_timesPowerOfTwo_7 hl (by decide) rfl (fun ls hl => ?_)
  exact outer 6 (by decide) x n E h hE hb1 hb2 (fun q => absurd q (by decide)) ls (lv_sub hl [0, 1, 2] rfl)
