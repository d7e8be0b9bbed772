/-- a double as a float, held -/
def hd_f (x : UInt64) : UInt32 := if FP.dcmp x (FP.f2d 2139095039) = some .gt then 2139095039 else if FP.dcmp x (FP.f2d (FP.fneg 2139095039)) = some .lt then FP.fneg 2139095039 else FP.d2f x
theorem hd_le (o : Option Ordering) : Op.cmpValue o .l ≤ 0 ↔ ¬ o = some .gt := by
  cases o with
  | none => decide
  | some o => cases o <;> decide
theorem hd_ge (o : Option Ordering) : 0 ≤ Op.cmpValue o .g ↔ ¬ o = some .lt := by
  cases o with
  | none => decide
  | some o => cases o <;> decide
theorem hd_n32 {x : UInt64} (h : FP.Core.val64 x ≠ .nan) : vf_n32 (FP.d2f x) := by
  have h1 : FP.Core.fIsNaN (FP.d2f x) = false := by
    rw [FP.d2f_nan]
    exact (FP.Core.notNaN_iff x).mpr h
  have h2 := (FP.Core.notNaN_iff32 _).mp h1
  unfold vf_n32
  rw [UInt32.le_iff_toNat_le, FP.Core.mask_toNat32]
  exact (FP.Core.ne_nan32 _).mp h2
set_option maxHeartbeats 4000000 in
set_option maxRecDepth 100000 in
/-- a double as a float, held -/
theorem c_X7_held (l : Launch) (x : UInt64) (h : FP.Core.val64 x ≠ .nan) : pu_M l yX7_held wsX7_held 0 0 [.double x] (fun _ => True) (fun w => ∃ r : UInt32, w = .float r ∧ r = hd_f x) := by
  refine pu_ofW (cc := cX7_held) (maxL := 3) (ret := (some .float)) (by decide) rfl (fun p e s m below meth c hx hb hr hml hts hown hlocks hpre ls hl => ?_) (Nat.le_of_ble_eq_true rfl)
  have hl : lv_has ls 3 [(0, .double x)] := hl
  refine lv_ldcf (v := (2139095039)) hx hb hown (hts (.constantFloat RX7 35 (2139095039)) (by decide +kernel)) dX7_held_0 ?_
  refine lv_fstore_n (lv' := [(2, .float (2139095039)), (0, .double x)]) hx hb dX7_held_2 rfl hl (by decide) rfl (fun ls hl => ?_)
  refine lv_dload_n hx hb dX7_held_3 rfl (lv_at hl 1 rfl) ?_
  refine lv_fload_n hx hb dX7_held_4 rfl (lv_at hl 0 rfl) ?_
  refine lv_f2d hx hb dX7_held_5 (by unfold vf_n64; decide +kernel) ?_
  refine lv_topd (fun v1 ev1 => ?_)
  refine lv_dcmp hx hb dX7_held_6 ?_
  refine lv_topi (fun v2 ev2 => ?_)
  refine lv_if_le (tgt := 12) hx hb dX7_held_7 (by decide) (fun c7 => ?_) (fun c7 => ?_)
  · rw [ev2, hd_le, ev1] at c7
    refine lv_dload_n hx hb dX7_held_12 rfl (lv_at hl 1 rfl) ?_
    refine lv_fload_n hx hb dX7_held_13 rfl (lv_at hl 0 rfl) ?_
    refine lv_fneg hx hb dX7_held_14 ?_
    refine lv_topf (fun v3 ev3 => ?_)
    refine lv_f2d hx hb dX7_held_15 (by rw [ev3]; unfold vf_n64; decide +kernel) ?_
    refine lv_topd (fun v4 ev4 => ?_)
    refine lv_dcmp hx hb dX7_held_16 ?_
    refine lv_topi (fun v5 ev5 => ?_)
    refine lv_if_ge (tgt := 25) hx hb dX7_held_17 (by decide) (fun c17 => ?_) (fun c17 => ?_)
    · rw [ev5, hd_ge, ev4, ev3] at c17
      refine lv_dload_n hx hb dX7_held_25 rfl (lv_at hl 1 rfl) ?_
      refine lv_d2f hx hb dX7_held_26 (hd_n32 h) ?_
      refine lv_topf (fun v6 ev6 => ?_)
      exact W.fret (v := v6) hx hb hr (fun t ht hW => ⟨_, rfl, ⟨_, rfl, by unfold hd_f; rw [if_neg c7, if_neg c17]; exact ev6⟩, ht⟩) (fun q hq => absurd hq List.not_mem_nil) dX7_held_27
    · rw [ev5, hd_ge, ev4, ev3] at c17
      refine lv_fload_n hx hb dX7_held_20 rfl (lv_at hl 0 rfl) ?_
      refine lv_fneg hx hb dX7_held_21 ?_
      refine lv_topf (fun v7 ev7 => ?_)
      refine lv_goto (tgt := 27) hx hb dX7_held_22 (by decide) ?_
      exact W.fret (v := v7) hx hb hr (fun t ht hW => ⟨_, rfl, ⟨_, rfl, by unfold hd_f; rw [if_neg c7, if_pos (Decidable.not_not.mp c17)]; exact ev7⟩, ht⟩) (fun q hq => absurd hq List.not_mem_nil) dX7_held_27
  · rw [ev2, hd_le, ev1] at c7
    refine lv_fload_n hx hb dX7_held_10 rfl (lv_at hl 0 rfl) ?_
    exact W.fret (v := (2139095039)) hx hb hr (fun t ht hW => ⟨_, rfl, ⟨_, rfl, by unfold hd_f; rw [if_pos (Decidable.not_not.mp c7)]⟩, ht⟩) (fun q hq => absurd hq List.not_mem_nil) dX7_held_11
