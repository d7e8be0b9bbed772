/-! METHODS THAT ONLY READ: what they answer; the heap stays the same -/
def pu_Q (post : Value → Prop) : Array Value → State → Outcome → State → Prop := fun _ st oc t => ∃ v : Value, oc = .returned (some v) ∧ post v ∧ t.heap = st.heap
abbrev pu_M (l : Launch) (y : MethodName) (ws : List Cond) (fr lo : Nat) (av : List Value) (Pre : State → Prop) (post : Value → Prop) : Prop := Met l y ws ({ frames := fr, cells := 0, slots := 0, locals := lo }) (va_Pc av Pre) (pu_Q post) 0 0 (fun _ => False)
section PUC
variable {p : Program} {l : Launch} {e : Env} {R : Room} {s : State} {m : MethodId} {args : Array Value} {below : List Frame} {meth : Method} {c : Code} {H : Heap} {locs : List Loc} {cells slots : Nat} {Q : State → Prop} {pc : Nat} {ls : Array Slot} {rest st0 : List Value} {a : Array Value} {post : Value → Prop}
theorem pu_call (hr : va_Run p l e R s m args below meth c H locs cells slots 0 0 (F0 m pc ls st0) rest (pu_Q post a) (fun _ => False)) (kk : ∀ v : Value, post v → W p l e R s m args below meth c H locs cells slots Q (F0 m (pc + 3) ls (v :: rest))) : W p l e R s m args below meth c H locs cells slots Q (F0 m pc ls st0) := by
  intro T hT X
  obtain ⟨v, st₀, t, T', L, h0, X', hL, e1, e2, ⟨w, hv, hp, hh⟩, st⟩ := hr T hT X
  cases hv
  have hL0 : L = [] := by
    cases L with
    | nil => rfl
    | cons q r => exact absurd (hL q List.mem_cons_self) id
  subst hL0
  rw [List.append_nil] at X'
  have hT' : T'.heap = H := by rw [e1, hh, h0]
  obtain ⟨t2, a1, b1⟩ := kk w hp T' hT' X'
  exact ⟨t2, st t2 a1, b1⟩
end PUC
theorem pu_blind (av : List Value) : FrameBlind (va_Pc av (fun _ => True)) := fun _ _ _ _ q => q
abbrev pu_W (p : Program) (l : Launch) (e : Env) (fr lo : Nat) (s : State) (m : MethodId) (args : Array Value) (below : List Frame) (meth : Method) (c : Code) (post : Value → Prop) (g : JFrame) : Prop := W p l e ({ frames := fr, cells := 0, slots := 0, locals := lo } : Room) s m args below meth c s.heap [] 0 0 (MQ below (pu_Q post) args s 0 0 (fun _ => False)) g
theorem pu_ofW {l : Launch} {y : MethodName} {ws ws' : List Cond} {fr lo : Nat} {av : List Value} {Pre : State → Prop} {post : Value → Prop} {cc : ByteArray} {maxL : Nat} {ret : Option FieldType} (hy : plainName y.cls = true) (hw : ws = Cond.code y cc maxL ret :: ws')
    (body : ∀ (p : Program) (e : Env) (s : State) (m : MethodId) (below : List Frame) (meth : Method) (c : Code), p.tables.exec = Jvm.exec → c.code = cc → meth.sig.returnType = ret → c.maxLocals = maxL → (∀ w ∈ ws, w.before av.toArray s = true) → s.vm.findClass y.cls = some m.cls → meth.locks = false → Pre s → ∀ ls : Array Slot, lv_has ls maxL (lv_args 0 av) → pu_W p l e fr lo s m av.toArray below meth c post (F0 m 0 ls []))
    (hn : (lg_sl av).length ≤ maxL) : pu_M l y ws fr lo av Pre post := by
  refine Met.ofW (cc := cc) (maxL := maxL) (ret := ret) hy hw ?_
  intro p e s m args below meth c s₁ B hml hv
  obtain ⟨rfl, hpre⟩ := hv
  have hl := lv_entry av (n := maxL) hn
  rw [lg_entry_eq]
  exact body p e s m below meth c B.exec B.bytes B.returns hml (atoms_spec (ws := ws) B.pre) (findClass_of_methodNamed B.named) B.notSynchronized hpre _ hl
/-! strides: 32, 16, 8, 4, 2, 1, 0 by i = 6 .. 0 -/
theorem sd_div : ∀ i, i < 6 → nI (2 ^ (i + 1) / 2) / 2 = nI (2 ^ i / 2) := by decide
theorem sd_shl : ∀ i, i < 7 → (1 : Int64) <<< ((nI (2 ^ i / 2)).toInt64 &&& 63) = lN (2 ^ (2 ^ i / 2)) := by decide
theorem sd_pos : ∀ i, i < 6 → ¬ nI (2 ^ (i + 1) / 2) ≤ 0 := by decide
theorem sd_one : ∀ i, i < 6 → 1 ≤ 2 ^ (i + 1) / 2 ∧ 2 ^ (i + 1) / 2 ≤ 32 := by decide
theorem sd_toInt : ∀ i, i < 7 → (nI (2 ^ i / 2)).toInt = ((2 ^ i / 2 : Nat) : Int) := by decide
theorem sd_pow {k : Nat} (h : k < 53) : fz_is (FP.l2d (lN (2 ^ k))) false (2 ^ (1074 + k)) := by
  have h1 := fz_l2d (fz_pow_lt h)
  rw [← Nat.pow_add, Nat.add_comm] at h1
  exact h1
