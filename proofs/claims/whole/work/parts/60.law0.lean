/-! ===== the law: what the pure side must give, and calls of the reference ===== -/
abbrev IVT : Type := Nat → (Nat → Int32) → St → (Nat → St) → (Nat → Option Nat) → (Nat → Int32) → (Nat → (Nat → Int32) × (Nat → Int32)) → Nat → Nat → St → Prop
/-- a method that asks for history h -/
def FcYN (Inv : IVT) {α : Type} (h : Int32) (jY : TbT → Nat → (Nat → Int32) → St → Nat → Option (α × (Nat → Int32) × St × Nat)) (jN : (Nat → Int32) → Option (α × (Nat → Int32))) (jM : St → Option (α × St)) : Prop :=
  ∀ k0 : Nat, k0 + 6 ≤ 3072 → ∀ (t : Nat → Int32) (gs : St) (hs : Nat → St) (kt : Nat → Option Nat) (tu : Nat → Int32) (tq : Nat → (Nat → Int32) × (Nat → Int32)) (nT nH : Nat) (U : St), Inv k0 t gs hs kt tu tq nT nH U →
    (∀ i, i < nH → h = nI i → ∀ a6 sh : Nat, ∃ (r : α) (t' : Nat → Int32) (u' : St) (sh' : Nat) (U' : St), jY (Tq tq (kt i)) a6 t (mrg gs (hs i)) sh = some (r, t', u', sh') ∧ jM U = some (r, U') ∧ Inv (k0 + 6) t' u' (fun k => if k = i then u' else hs k) kt tu tq nT nH U') ∧
    (FN (nI nH) h → ∃ (r : α) (t' : Nat → Int32) (U' : St), jN t = some (r, t') ∧ jM U = some (r, U') ∧ Inv (k0 + 6) t' gs hs kt tu tq nT nH U')
/-- a method that asks for none -/
def FcS (Inv : IVT) (jS : (Nat → Int32) → St → Option (Int32 × (Nat → Int32) × St)) (jM : St → Option (Int32 × St)) : Prop :=
  ∀ k0 : Nat, k0 + 6 ≤ 3072 → ∀ (t : Nat → Int32) (gs : St) (hs : Nat → St) (kt : Nat → Option Nat) (tu : Nat → Int32) (tq : Nat → (Nat → Int32) × (Nat → Int32)) (nT nH : Nat) (U : St), Inv k0 t gs hs kt tu tq nT nH U →
    ∃ (r : Int32) (t' : Nat → Int32) (u' U' : St), jS t gs = some (r, t', u') ∧ jM U = some (r, U') ∧ Inv (k0 + 6) t' (mrgS gs u') hs kt tu tq nT nH U'
def pr (U : St) (x : Option Int32) : Option (Int32 × St) := x.map (fun r => (r, U))
theorem pr_some {U U' : St} {x : Option Int32} {r : Int32} (h : pr U x = some (r, U')) : x = some r ∧ U' = U := by
  cases x with
  | none => cases h
  | some y => cases h; exact ⟨rfl, rfl⟩
theorem law_in {i0 L j : Nat} {k : Int32} (hk : k = nI j) (hj : i0 + j < L) (hL : L ≤ 3072) : vp_in (nI i0 + k) L := by
  rw [hk, nI_add]
  exact vp_in_nI hj (by omega)
section LAW0
variable {p : Program} {l : Launch} {e : Env} {R : Room} {s : State} {m : MethodId} {args : Array Value} {below : List Frame} {meth : Method} {c : Code} {H : Heap} {locs : List Loc} {cells slots : Nat} {Q : State → Prop}
variable {cc : ByteArray} {nL : Nat} {own : String} {ret : Option FieldType} {D : va_G} {tc : Nat → ClassId} {A : Nat → Prop} {pc : Nat} {ls : Array Slot} {rest : List Value}
theorem rf_at (tc : Nat → ClassId) (mo : Nat) (mad : Nat → Nat) (u : St) (w0 wr : va_W) : ∃ fs : List Value, (w0 ++ (Mw tc mo mad u ++ wr))[w0.length]? = some (mo, .inr (6, fs)) := by
  rw [List.getElem?_append_right (Nat.le_refl _), Nat.sub_self]
  exact ⟨_, rfl⟩
theorem rf_run {y : MethodName} {bytes : ByteArray} {maxL fr lo n index : Nat} {rt : Option FieldType} {RT : Option Value → va_W → Prop} {As st0 : List Value} {mo : Nat} {mad : Nat → Nat} {u : St} {w0 wr : va_W} (X : Cx p s m args meth c cc nL own ret) (V : Wd D tc A s H locs (w0 ++ (Mw tc mo mad u ++ wr)))
    (hM : MetG l D tc y bytes maxL rt fr 0 0 lo (.ref mo :: As) (Mw tc mo mad u) RT) (h1 : Cond.methodLink own index y ∈ lw_g) (h2 : Cond.instanceMethod y ∈ lw_g) (h3 : Cond.selects RX7 y y ∈ lw_g) (h5 : Cond.code y bytes maxL rt ∈ lw_g)
    (hd : y.cls = RX7 ∧ y.cls ≠ "java/lang/invoke/MethodHandle" ∧ y.cls ≠ "java/lang/invoke/VarHandle" ∧ (parseMethodDescriptor y.desc).map (fun d => d.parameters.length) = some n) (hR : fr + 1 ≤ R.frames ∧ 8 + (maxL + 11) + lo ≤ R.locals) (hf : cells ≤ R.cells ∧ slots ≤ R.slots)
    (hlen : As.length = n) (hls : ls.size = nL) (hst : st0 = As.reverse ++ .ref mo :: rest) (hroom : (rest.map fun v => v.category).sum ≤ 8) (hdg : decode cc pc = .ok (.invokevirtual index, 3)) :
    va_Run p l e R s m args below meth c H locs cells slots 0 0 (F0 m pc ls st0) rest (QcM D (Mw tc mo mad u) H.size rt RT (Value.ref mo :: As).toArray) (va_A (Mw tc mo mad u) H.size) := by
  obtain ⟨fs, hfs⟩ := rf_at tc mo mad u w0 wr
  exact x_runV X V _ (mid_map _ _ _) (mid_nd _ _) hM h1 h2 h3 tw_6 h5 hd hR hf w0.length 6 hfs rfl hlen hls hst hroom hdg
end LAW0
/-- from the end of a call on -/
def LNext (p : Program) (l : Launch) (e : Env) (s : State) (m : MethodId) (below : List Frame) (meth : Method) (c : Code) (Q : State → Prop) (D : va_G) (tc : Nat → ClassId) (b xo mo : Nat) (mad : Nat → Nat) (Inv : IVT) (i0 : Nat) : Prop :=
  ∀ (t : Nat → Int32) (gs : St) (hs : Nat → St) (kt : Nat → Option Nat) (tu : Nat → Int32) (tq : Nat → (Nat → Int32) × (Nat → Int32)) (nT nH : Nat) (U : St) (xa ad : Nat → Nat) (ta ha : Nat → Nat → Nat) (sh : Nat) (H : Heap) (locs : List Loc) (ls : Array Slot), Inv (i0 + 6) t gs hs kt tu tq nT nH U →
    Wd D tc (fun q : Nat => s.heap.size ≤ q) s H locs (Xw tc xo xa ad ta ha sh t gs hs kt tu tq nT nH ++ (Mw tc mo mad U ++ [])) → lv_has ls 4 [(0, .ref b), (1, .ref xo), (2, .ref mo), (3, .int (nI i0))] →
    W p l e room_1 s m #[Value.ref b] below meth c H locs (72 + 2 * i0) (13084 + 14 * i0) Q (F0 m 950 ls [])
/-- bounds that the invariant keeps -/
def FcB (Inv : IVT) : Prop := ∀ (k0 : Nat) (t : Nat → Int32) (gs : St) (hs : Nat → St) (kt : Nat → Option Nat) (tu : Nat → Int32) (tq : Nat → (Nat → Int32) × (Nat → Int32)) (nT nH : Nat) (U : St), Inv k0 t gs hs kt tu tq nT nH U → nT ≤ 4 ∧ nH ≤ 12 ∧ ∀ i, i < nH → ∀ j, kt i = some j → j < nT
/-- a call of none is a call, too -/
def FcM (Inv : IVT) : Prop := ∀ k0 : Nat, k0 + 6 ≤ 3072 → ∀ (t : Nat → Int32) (gs : St) (hs : Nat → St) (kt : Nat → Option Nat) (tu : Nat → Int32) (tq : Nat → (Nat → Int32) × (Nat → Int32)) (nT nH : Nat) (U : St), Inv k0 t gs hs kt tu tq nT nH U → Inv (k0 + 6) t gs hs kt tu tq nT nH U
