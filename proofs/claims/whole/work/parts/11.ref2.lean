def q_X7_begins_2 (k_2 : St → Int32 → Option (St)) (u : St) (v1 : Int32) : Option (St) :=
  if (12 : Int32) ≤ v1 then some u else gd v1 132 (nm (sA u 17 v1.toNatClampNeg (0 : Int32)) (fun u3 => nm (v1 + 1) (fun x4 => k_2 u3 x4)))
set_option maxHeartbeats 4000000 in
set_option maxRecDepth 100000 in
theorem b_X7_begins_2 {p : Program} {l : Launch} {e : Env} {R : Room} {s : State} {m : MethodId} {args : Array Value} {below : List Frame} {meth : Method} {c : Code} {A : Nat → Prop} {Q : State → Prop} {D : va_G} {tc : Nat → ClassId} (o : Nat) (ad : Nat → Nat) (hRf : 0 ≤ R.frames) (hRl : 0 ≤ R.locals) (C : Cx p s m args meth c cX7_begins 2 RX7 none) {x0 : St} (hret : RetV p l e R s m args below meth c Q cX7_begins D tc A (some x0) (fun x : St => Mw tc o ad x)) (k_2 : St → Int32 → Option (St)) (hk_2 : ∀ (u : St) (v1 : Int32), k_2 u v1 = some x0 → ∀ (H : Heap) (locs : List Loc) (ls : Array Slot), Wd D tc A s H locs (Mw tc o ad u) → lv_has ls 2 [(0, .ref o), (1, .int v1)] → W p l e R s m args below meth c H locs 0 0 Q (F0 m 2 ls [])) : ∀ (u : St) (v1 : Int32), q_X7_begins_2 k_2 u v1 = some x0 → ∀ (H : Heap) (locs : List Loc) (ls : Array Slot), Wd D tc A s H locs (Mw tc o ad u) → lv_has ls 2 [(0, .ref o), (1, .int v1)] → W p l e R s m args below meth c H locs 0 0 Q (F0 m 2 ls []) := by
  obtain ⟨hx, hb, hr, hml, hown, hts, hlk, hN⟩ := id C
  intro u v1 hj H locs ls V hl
  unfold q_X7_begins_2 at hj
  refine lv_iload_n hx hb dX7_begins_2 rfl (lv_at hl 1 rfl) ?_
  refine lv_bipush (v := 12) hx hb dX7_begins_3 (by decide) ?_
  refine lv_icmp_ge (tgt := 21) hx hb dX7_begins_5 (by decide) (fun c1 => ?_) (fun c1 => ?_)
  · replace hj := ip _ c1 hj
    exact hret u hj V dX7_begins_21
  · replace hj := iq _ c1 hj
    refine lv_aload_n hx hb dX7_begins_8 rfl (lv_at hl 0 rfl) ?_
    refine x_get hx hb hts hown V inX7 0 rfl rfl 17 (by decide) tw_537 rfl rfl dX7_begins_9 ?_
    refine lv_iload_n hx hb dX7_begins_12 rfl (lv_at hl 1 rfl) ?_
    refine lv_iconst (v := 0) hx hb dX7_begins_13 (by decide) ?_
    obtain ⟨i2, hj⟩ := gd_some hj
    obtain ⟨u3, eu3, hj⟩ := nm_some hj
    refine x_iast hx hb V 14 rfl i2 dX7_begins_14 (fun H locs V => ?_)
    replace V : Wd D tc A s H locs (Mw tc o ad u3) := by rw [eu3]; exact V
    obtain ⟨x4, ex4, hj⟩ := nm_some hj
    refine lv_iinc (v := x4) (lv' := [(1, .int x4), (0, .ref o)]) hx hb dX7_begins_15 hl (k := 1) rfl (by rw [ex4]; rfl) (by decide) rfl (fun ls hl => ?_)
    refine lv_goto (tgt := 2) hx hb dX7_begins_18 (by decide) ?_
    exact hk_2 u3 x4 hj _ _ _ V (lv_sub hl [1, 0] rfl)
def j_X7_begins_2  : Nat → St → Int32 → Option (St)
  | 0 => fun _ _ => none
  | n + 1 => q_X7_begins_2  (j_X7_begins_2  n)
theorem lp_X7_begins_2 {p : Program} {l : Launch} {e : Env} {R : Room} {s : State} {m : MethodId} {args : Array Value} {below : List Frame} {meth : Method} {c : Code} {A : Nat → Prop} {Q : State → Prop} {D : va_G} {tc : Nat → ClassId} (o : Nat) (ad : Nat → Nat) (hRf : 0 ≤ R.frames) (hRl : 0 ≤ R.locals) (C : Cx p s m args meth c cX7_begins 2 RX7 none) {x0 : St} (hret : RetV p l e R s m args below meth c Q cX7_begins D tc A (some x0) (fun x : St => Mw tc o ad x))  : ∀ (n : Nat), ∀ (u : St) (v1 : Int32), j_X7_begins_2  n u v1 = some x0 → ∀ (H : Heap) (locs : List Loc) (ls : Array Slot), Wd D tc A s H locs (Mw tc o ad u) → lv_has ls 2 [(0, .ref o), (1, .int v1)] → W p l e R s m args below meth c H locs 0 0 Q (F0 m 2 ls []) := by
  intro n
  induction n with
  | zero =>
    intro u v1 hj
    have hj : (none : Option (St)) = some x0 := hj
    cases hj
  | succ n ih =>
    intro u v1 hj
    exact b_X7_begins_2 o ad hRf hRl C hret   (j_X7_begins_2  n) ih u v1 hj
def j_X7_begins (u : St) : Option (St) :=
  j_X7_begins_2  100 u (0 : Int32)
set_option maxHeartbeats 4000000 in
set_option maxRecDepth 100000 in
theorem k_X7_begins (l : Launch) (D : va_G) (tc : Nat → ClassId) (o : Nat) (ad : Nat → Nat) (u : St) {x0 : St} (hj : j_X7_begins u = some x0) : MetD l D tc yX7_begins cX7_begins 2 none 0 0 [.ref o] (Mw tc o ad u) none (Mw tc o ad x0) :=
  x_entV  (fun x : St => Mw tc o ad x) (by decide) (own := RX7) rfl (Nat.le_of_ble_eq_true rfl) (fun p e s m args below meth c A Q ls C V hl hret => by
  obtain ⟨hx, hb, hr, hml, hown, hts, hlk, hN⟩ := id C
  have hRf : 0 ≤ (rmz 0 0 0 0).frames := Nat.le_refl _
  have hRl : 0 ≤ (rmz 0 0 0 0).locals := Nat.le_refl _
  generalize (rmz 0 0 0 0) = R at hret hRf hRl ⊢
  generalize s.heap = H at V ⊢
  generalize ([] : List Loc) = locs at V ⊢
  have hl : lv_has ls 2 [(0, .ref o)] := hl
  unfold j_X7_begins at hj
  refine lv_iconst (v := 0) hx hb dX7_begins_0 (by decide) ?_
  refine lv_istore_n (lv' := [(1, .int (0 : Int32)), (0, .ref o)]) hx hb dX7_begins_1 rfl hl (by decide) rfl (fun ls hl => ?_)
  exact lp_X7_begins_2 o ad hRf hRl C hret   100 u (0 : Int32) hj _ _ _ V (lv_sub hl [1, 0] rfl))

def j_X7_cell (u : St) (v1 : Int32) (v2 : Int32) (v3 : Int32) (v4 : Int32) (v5 : Int32) : Option (Int32 × St) :=
  if v2 = (0 : Int32) then gd v1 132 (some (u.2.1 17 v1.toNatClampNeg, u)) else if v2 = (1 : Int32) then gd v1 132 (nm (sA u 17 v1.toNatClampNeg v3) (fun u8 => some ((0 : Int32), u8))) else gd v1 132 (if (u.2.1 17 v1.toNatClampNeg) = v4 then gd v1 132 (nm (sA u 17 v1.toNatClampNeg v5) (fun u6 => some ((1 : Int32), u6))) else some ((0 : Int32), u))
set_option maxHeartbeats 4000000 in
set_option maxRecDepth 100000 in
theorem k_X7_cell (l : Launch) (D : va_G) (tc : Nat → ClassId) (o : Nat) (ad : Nat → Nat) (u : St) (v1 : Int32) (v2 : Int32) (v3 : Int32) (v4 : Int32) (v5 : Int32) {x0 : Int32 × St} (hj : j_X7_cell u v1 v2 v3 v4 v5 = some x0) : MetD l D tc yX7_cell cX7_cell 6 (some .int) 0 0 [.ref o, .int v1, .int v2, .int v3, .int v4, .int v5] (Mw tc o ad u) (some (.int x0.1)) (Mw tc o ad x0.2) :=
  x_entI (fun x : Int32 × St => x.1) (fun x : Int32 × St => Mw tc o ad x.2) (by decide) (own := RX7) rfl (Nat.le_of_ble_eq_true rfl) (fun p e s m args below meth c A Q ls C V hl hret => by
  obtain ⟨hx, hb, hr, hml, hown, hts, hlk, hN⟩ := id C
  have hRf : 0 ≤ (rmz 0 0 0 0).frames := Nat.le_refl _
  have hRl : 0 ≤ (rmz 0 0 0 0).locals := Nat.le_refl _
  generalize (rmz 0 0 0 0) = R at hret hRf hRl ⊢
  generalize s.heap = H at V ⊢
  generalize ([] : List Loc) = locs at V ⊢
  have hl : lv_has ls 6 [(0, .ref o), (1, .int v1), (2, .int v2), (3, .int v3), (4, .int v4), (5, .int v5)] := hl
  unfold j_X7_cell at hj
  refine lv_iload_n hx hb dX7_cell_0 rfl (lv_at hl 2 rfl) ?_
  refine lv_if_ne (tgt := 11) hx hb dX7_cell_1 (by decide) (fun c1 => ?_) (fun c1 => ?_)
  · replace hj := iq _ c1 hj
    refine lv_iload_n hx hb dX7_cell_11 rfl (lv_at hl 2 rfl) ?_
    refine lv_iconst (v := 1) hx hb dX7_cell_12 (by decide) ?_
    refine lv_icmp_ne (tgt := 25) hx hb dX7_cell_13 (by decide) (fun c2 => ?_) (fun c2 => ?_)
    · replace hj := iq _ c2 hj
      refine lv_aload_n hx hb dX7_cell_25 rfl (lv_at hl 0 rfl) ?_
      refine x_get hx hb hts hown V inX7 0 rfl rfl 17 (by decide) tw_537 rfl rfl dX7_cell_26 ?_
      refine lv_iload_n hx hb dX7_cell_29 rfl (lv_at hl 1 rfl) ?_
      obtain ⟨i3, hj⟩ := gd_some hj
      refine x_iald hx hb V 14 rfl i3 dX7_cell_30 ?_
      refine lv_iload hx hb dX7_cell_31 (lv_at hl 4 rfl) ?_
      refine lv_icmp_eq (tgt := 38) hx hb dX7_cell_33 (by decide) (fun c4 => ?_) (fun c4 => ?_)
      · replace hj := ip _ c4 hj
        refine lv_aload_n hx hb dX7_cell_38 rfl (lv_at hl 0 rfl) ?_
        refine x_get hx hb hts hown V inX7 0 rfl rfl 17 (by decide) tw_537 rfl rfl dX7_cell_39 ?_
        refine lv_iload_n hx hb dX7_cell_42 rfl (lv_at hl 1 rfl) ?_
        refine lv_iload hx hb dX7_cell_43 (lv_at hl 5 rfl) ?_
        obtain ⟨i5, hj⟩ := gd_some hj
        obtain ⟨u6, eu6, hj⟩ := nm_some hj
        refine x_iast hx hb V 14 rfl i5 dX7_cell_45 (fun H locs V => ?_)
        replace V : Wd D tc A s H locs (Mw tc o ad u6) := by rw [eu6]; exact V
        refine lv_iconst (v := 1) hx hb dX7_cell_46 (by decide) ?_
        exact hret ((1 : Int32), u6) hj rfl V dX7_cell_47
      · replace hj := iq _ c4 hj
        refine lv_iconst (v := 0) hx hb dX7_cell_36 (by decide) ?_
        exact hret ((0 : Int32), u) hj rfl V dX7_cell_37
    · replace hj := ip _ c2 hj
      refine lv_aload_n hx hb dX7_cell_16 rfl (lv_at hl 0 rfl) ?_
      refine x_get hx hb hts hown V inX7 0 rfl rfl 17 (by decide) tw_537 rfl rfl dX7_cell_17 ?_
      refine lv_iload_n hx hb dX7_cell_20 rfl (lv_at hl 1 rfl) ?_
      refine lv_iload_n hx hb dX7_cell_21 rfl (lv_at hl 3 rfl) ?_
      obtain ⟨i7, hj⟩ := gd_some hj
      obtain ⟨u8, eu8, hj⟩ := nm_some hj
      refine x_iast hx hb V 14 rfl i7 dX7_cell_22 (fun H locs V => ?_)
      replace V : Wd D tc A s H locs (Mw tc o ad u8) := by rw [eu8]; exact V
      refine lv_iconst (v := 0) hx hb dX7_cell_23 (by decide) ?_
      exact hret ((0 : Int32), u8) hj rfl V dX7_cell_24
  · replace hj := ip _ c1 hj
    refine lv_aload_n hx hb dX7_cell_4 rfl (lv_at hl 0 rfl) ?_
    refine x_get hx hb hts hown V inX7 0 rfl rfl 17 (by decide) tw_537 rfl rfl dX7_cell_5 ?_
    refine lv_iload_n hx hb dX7_cell_8 rfl (lv_at hl 1 rfl) ?_
    obtain ⟨i9, hj⟩ := gd_some hj
    refine x_iald hx hb V 14 rfl i9 dX7_cell_9 ?_
    exact hret (u.2.1 17 v1.toNatClampNeg, u) hj rfl V dX7_cell_10)

def q_X7_line_80 (k_80 : St → Int32 → Int32 → Int32 → Int32 → Int32 → Option (Int32 × St)) (u : St) (v1 : Int32) (v2 : Int32) (v5 : Int32) (v6 : Int32) (v7 : Int32) : Option (Int32 × St) :=
  if v5 ≤ (v7 + (1 : Int32)) then gd ((v1 + v5) - (1 : Int32)) 132 (nm (sA u 17 ((v1 + v5) - (1 : Int32)).toNatClampNeg (0 : Int32)) (fun u10 => gd (v1 + (11 : Int32)) 132 (nm (sA u10 17 (v1 + (11 : Int32)).toNatClampNeg (v5 - (1 : Int32))) (fun u12 => some (v6, u12))))) else if v2 = (0 : Int32) then gd ((v1 + v5) - (1 : Int32)) 132 (nm (sA u 17 ((v1 + v5) - (1 : Int32)).toNatClampNeg (0 : Int32)) (fun u15 => gd (v1 + (11 : Int32)) 132 (nm (sA u15 17 (v1 + (11 : Int32)).toNatClampNeg (v5 - (1 : Int32))) (fun u17 => some (v6, u17))))) else gd ((v1 + v7) + (1 : Int32)) 132 (gd (v1 + v7) 132 (nm (sA u 17 (v1 + v7).toNatClampNeg (u.2.1 17 ((v1 + v7) + (1 : Int32)).toNatClampNeg)) (fun u20 => nm (v7 + 1) (fun x21 => k_80 u20 v1 v2 v5 v6 x21))))
set_option maxHeartbeats 4000000 in
set_option maxRecDepth 100000 in
theorem b_X7_line_80 {p : Program} {l : Launch} {e : Env} {R : Room} {s : State} {m : MethodId} {args : Array Value} {below : List Frame} {meth : Method} {c : Code} {A : Nat → Prop} {Q : State → Prop} {D : va_G} {tc : Nat → ClassId} (o : Nat) (ad : Nat → Nat) (hRf : 0 ≤ R.frames) (hRl : 0 ≤ R.locals) (C : Cx p s m args meth c cX7_line 8 RX7 (some .int)) {x0 : Int32 × St} (hret : RetI p l e R s m args below meth c Q cX7_line D tc A .int (some x0) (fun x : Int32 × St => x.1) (fun x : Int32 × St => Mw tc o ad x.2)) (k_80 : St → Int32 → Int32 → Int32 → Int32 → Int32 → Option (Int32 × St)) (hk_80 : ∀ (u : St) (v1 : Int32) (v2 : Int32) (v5 : Int32) (v6 : Int32) (v7 : Int32), k_80 u v1 v2 v5 v6 v7 = some x0 → ∀ (H : Heap) (locs : List Loc) (ls : Array Slot), Wd D tc A s H locs (Mw tc o ad u) → lv_has ls 8 [(0, .ref o), (1, .int v1), (2, .int v2), (5, .int v5), (6, .int v6), (7, .int v7)] → W p l e R s m args below meth c H locs 0 0 Q (F0 m 80 ls [])) : ∀ (u : St) (v1 : Int32) (v2 : Int32) (v5 : Int32) (v6 : Int32) (v7 : Int32), q_X7_line_80 k_80 u v1 v2 v5 v6 v7 = some x0 → ∀ (H : Heap) (locs : List Loc) (ls : Array Slot), Wd D tc A s H locs (Mw tc o ad u) → lv_has ls 8 [(0, .ref o), (1, .int v1), (2, .int v2), (5, .int v5), (6, .int v6), (7, .int v7)] → W p l e R s m args below meth c H locs 0 0 Q (F0 m 80 ls []) := by
  obtain ⟨hx, hb, hr, hml, hown, hts, hlk, hN⟩ := id C
  intro u v1 v2 v5 v6 v7 hj H locs ls V hl
  unfold q_X7_line_80 at hj
  refine lv_iload hx hb dX7_line_80 (lv_at hl 5 rfl) ?_
  refine lv_iconst (v := 1) hx hb dX7_line_82 (by decide) ?_
  refine lv_iadd hx hb dX7_line_83 ?_
  refine lv_iload hx hb dX7_line_84 (lv_at hl 3 rfl) ?_
  refine lv_icmp_ge (tgt := 119) hx hb dX7_line_86 (by decide) (fun c8 => ?_) (fun c8 => ?_)
  · replace hj := ip _ c8 hj
    refine lv_aload_n hx hb dX7_line_119 rfl (lv_at hl 0 rfl) ?_
    refine x_get hx hb hts hown V inX7 0 rfl rfl 17 (by decide) tw_537 rfl rfl dX7_line_120 ?_
    refine lv_iload_n hx hb dX7_line_123 rfl (lv_at hl 1 rfl) ?_
    refine lv_iload hx hb dX7_line_124 (lv_at hl 3 rfl) ?_
    refine lv_iadd hx hb dX7_line_126 ?_
    refine lv_iconst (v := 1) hx hb dX7_line_127 (by decide) ?_
    refine lv_isub hx hb dX7_line_128 ?_
    refine lv_iconst (v := 0) hx hb dX7_line_129 (by decide) ?_
    obtain ⟨i9, hj⟩ := gd_some hj
    obtain ⟨u10, eu10, hj⟩ := nm_some hj
    refine x_iast hx hb V 14 rfl i9 dX7_line_130 (fun H locs V => ?_)
    replace V : Wd D tc A s H locs (Mw tc o ad u10) := by rw [eu10]; exact V
    refine lv_aload_n hx hb dX7_line_131 rfl (lv_at hl 0 rfl) ?_
    refine x_get hx hb hts hown V inX7 0 rfl rfl 17 (by decide) tw_537 rfl rfl dX7_line_132 ?_
    refine lv_iload_n hx hb dX7_line_135 rfl (lv_at hl 1 rfl) ?_
    refine lv_bipush (v := 11) hx hb dX7_line_136 (by decide) ?_
    refine lv_iadd hx hb dX7_line_138 ?_
    refine lv_iload hx hb dX7_line_139 (lv_at hl 3 rfl) ?_
    refine lv_iconst (v := 1) hx hb dX7_line_141 (by decide) ?_
    refine lv_isub hx hb dX7_line_142 ?_
    obtain ⟨i11, hj⟩ := gd_some hj
    obtain ⟨u12, eu12, hj⟩ := nm_some hj
    refine x_iast hx hb V 14 rfl i11 dX7_line_143 (fun H locs V => ?_)
    replace V : Wd D tc A s H locs (Mw tc o ad u12) := by rw [eu12]; exact V
    refine lv_iload hx hb dX7_line_144 (lv_at hl 4 rfl) ?_
    exact hret (v6, u12) hj rfl V dX7_line_146
  · replace hj := iq _ c8 hj
    refine lv_iload_n hx hb dX7_line_89 rfl (lv_at hl 2 rfl) ?_
    refine lv_if_eq (tgt := 119) hx hb dX7_line_90 (by decide) (fun c13 => ?_) (fun c13 => ?_)
    · replace hj := ip _ c13 hj
      refine lv_aload_n hx hb dX7_line_119 rfl (lv_at hl 0 rfl) ?_
      refine x_get hx hb hts hown V inX7 0 rfl rfl 17 (by decide) tw_537 rfl rfl dX7_line_120 ?_
      refine lv_iload_n hx hb dX7_line_123 rfl (lv_at hl 1 rfl) ?_
      refine lv_iload hx hb dX7_line_124 (lv_at hl 3 rfl) ?_
      refine lv_iadd hx hb dX7_line_126 ?_
      refine lv_iconst (v := 1) hx hb dX7_line_127 (by decide) ?_
      refine lv_isub hx hb dX7_line_128 ?_
      refine lv_iconst (v := 0) hx hb dX7_line_129 (by decide) ?_
      obtain ⟨i14, hj⟩ := gd_some hj
      obtain ⟨u15, eu15, hj⟩ := nm_some hj
      refine x_iast hx hb V 14 rfl i14 dX7_line_130 (fun H locs V => ?_)
      replace V : Wd D tc A s H locs (Mw tc o ad u15) := by rw [eu15]; exact V
      refine lv_aload_n hx hb dX7_line_131 rfl (lv_at hl 0 rfl) ?_
      refine x_get hx hb hts hown V inX7 0 rfl rfl 17 (by decide) tw_537 rfl rfl dX7_line_132 ?_
      refine lv_iload_n hx hb dX7_line_135 rfl (lv_at hl 1 rfl) ?_
      refine lv_bipush (v := 11) hx hb dX7_line_136 (by decide) ?_
      refine lv_iadd hx hb dX7_line_138 ?_
      refine lv_iload hx hb dX7_line_139 (lv_at hl 3 rfl) ?_
      refine lv_iconst (v := 1) hx hb dX7_line_141 (by decide) ?_
      refine lv_isub hx hb dX7_line_142 ?_
      obtain ⟨i16, hj⟩ := gd_some hj
      obtain ⟨u17, eu17, hj⟩ := nm_some hj
      refine x_iast hx hb V 14 rfl i16 dX7_line_143 (fun H locs V => ?_)
      replace V : Wd D tc A s H locs (Mw tc o ad u17) := by rw [eu17]; exact V
      refine lv_iload hx hb dX7_line_144 (lv_at hl 4 rfl) ?_
      exact hret (v6, u17) hj rfl V dX7_line_146
    · replace hj := iq _ c13 hj
      refine lv_aload_n hx hb dX7_line_93 rfl (lv_at hl 0 rfl) ?_
      refine x_get hx hb hts hown V inX7 0 rfl rfl 17 (by decide) tw_537 rfl rfl dX7_line_94 ?_
      refine lv_iload_n hx hb dX7_line_97 rfl (lv_at hl 1 rfl) ?_
      refine lv_iload hx hb dX7_line_98 (lv_at hl 5 rfl) ?_
      refine lv_iadd hx hb dX7_line_100 ?_
      refine lv_aload_n hx hb dX7_line_101 rfl (lv_at hl 0 rfl) ?_
      refine x_get hx hb hts hown V inX7 0 rfl rfl 17 (by decide) tw_537 rfl rfl dX7_line_102 ?_
      refine lv_iload_n hx hb dX7_line_105 rfl (lv_at hl 1 rfl) ?_
      refine lv_iload hx hb dX7_line_106 (lv_at hl 5 rfl) ?_
      refine lv_iadd hx hb dX7_line_108 ?_
      refine lv_iconst (v := 1) hx hb dX7_line_109 (by decide) ?_
      refine lv_iadd hx hb dX7_line_110 ?_
      obtain ⟨i18, hj⟩ := gd_some hj
      refine x_iald hx hb V 14 rfl i18 dX7_line_111 ?_
      obtain ⟨i19, hj⟩ := gd_some hj
      obtain ⟨u20, eu20, hj⟩ := nm_some hj
      refine x_iast hx hb V 14 rfl i19 dX7_line_112 (fun H locs V => ?_)
      replace V : Wd D tc A s H locs (Mw tc o ad u20) := by rw [eu20]; exact V
      obtain ⟨x21, ex21, hj⟩ := nm_some hj
      refine lv_iinc (v := x21) (lv' := [(7, .int x21), (0, .ref o), (1, .int v1), (2, .int v2), (5, .int v5), (6, .int v6)]) hx hb dX7_line_113 hl (k := 5) rfl (by rw [ex21]; rfl) (by decide) rfl (fun ls hl => ?_)
      refine lv_goto (tgt := 80) hx hb dX7_line_116 (by decide) ?_
      exact hk_80 u20 v1 v2 v5 v6 x21 hj _ _ _ V (lv_sub hl [1, 2, 3, 4, 5, 0] rfl)
def j_X7_line_80  : Nat → St → Int32 → Int32 → Int32 → Int32 → Int32 → Option (Int32 × St)
  | 0 => fun _ _ _ _ _ _ => none
  | n + 1 => q_X7_line_80  (j_X7_line_80  n)
theorem lp_X7_line_80 {p : Program} {l : Launch} {e : Env} {R : Room} {s : State} {m : MethodId} {args : Array Value} {below : List Frame} {meth : Method} {c : Code} {A : Nat → Prop} {Q : State → Prop} {D : va_G} {tc : Nat → ClassId} (o : Nat) (ad : Nat → Nat) (hRf : 0 ≤ R.frames) (hRl : 0 ≤ R.locals) (C : Cx p s m args meth c cX7_line 8 RX7 (some .int)) {x0 : Int32 × St} (hret : RetI p l e R s m args below meth c Q cX7_line D tc A .int (some x0) (fun x : Int32 × St => x.1) (fun x : Int32 × St => Mw tc o ad x.2))  : ∀ (n : Nat), ∀ (u : St) (v1 : Int32) (v2 : Int32) (v5 : Int32) (v6 : Int32) (v7 : Int32), j_X7_line_80  n u v1 v2 v5 v6 v7 = some x0 → ∀ (H : Heap) (locs : List Loc) (ls : Array Slot), Wd D tc A s H locs (Mw tc o ad u) → lv_has ls 8 [(0, .ref o), (1, .int v1), (2, .int v2), (5, .int v5), (6, .int v6), (7, .int v7)] → W p l e R s m args below meth c H locs 0 0 Q (F0 m 80 ls []) := by
  intro n
  induction n with
  | zero =>
    intro u v1 v2 v5 v6 v7 hj
    have hj : (none : Option (Int32 × St)) = some x0 := hj
    cases hj
  | succ n ih =>
    intro u v1 v2 v5 v6 v7 hj
    exact b_X7_line_80 o ad hRf hRl C hret   (j_X7_line_80  n) ih u v1 v2 v5 v6 v7 hj
def j_X7_line (u : St) (v1 : Int32) (v2 : Int32) (v3 : Int32) (v4 : Int32) : Option (Int32 × St) :=
  gd (v1 + (11 : Int32)) 132 (nm (u.2.1 17 (v1 + (11 : Int32)).toNatClampNeg) (fun x2 => if v3 = (0 : Int32) then gd (v1 + x2) 132 (nm (sA u 17 (v1 + x2).toNatClampNeg v4) (fun u25 => gd (v1 + (11 : Int32)) 132 (nm (sA u25 17 (v1 + (11 : Int32)).toNatClampNeg (x2 + (1 : Int32))) (fun u27 => some (x2 + (1 : Int32), u27))))) else if x2 = (0 : Int32) then some ((-1 : Int32), u) else if v2 = (0 : Int32) then gd ((v1 + x2) - (1 : Int32)) 132 (nm (u.2.1 17 ((v1 + x2) - (1 : Int32)).toNatClampNeg) (fun x7 => j_X7_line_80  100 u v1 v2 x2 x7 (0 : Int32))) else gd v1 132 (nm (u.2.1 17 v1.toNatClampNeg) (fun x23 => j_X7_line_80  100 u v1 v2 x2 x23 (0 : Int32)))))
set_option maxHeartbeats 4000000 in
set_option maxRecDepth 100000 in
theorem k_X7_line (l : Launch) (D : va_G) (tc : Nat → ClassId) (o : Nat) (ad : Nat → Nat) (u : St) (v1 : Int32) (v2 : Int32) (v3 : Int32) (v4 : Int32) {x0 : Int32 × St} (hj : j_X7_line u v1 v2 v3 v4 = some x0) : MetD l D tc yX7_line cX7_line 8 (some .int) 0 0 [.ref o, .int v1, .int v2, .int v3, .int v4] (Mw tc o ad u) (some (.int x0.1)) (Mw tc o ad x0.2) :=
  x_entI (fun x : Int32 × St => x.1) (fun x : Int32 × St => Mw tc o ad x.2) (by decide) (own := RX7) rfl (Nat.le_of_ble_eq_true rfl) (fun p e s m args below meth c A Q ls C V hl hret => by
  obtain ⟨hx, hb, hr, hml, hown, hts, hlk, hN⟩ := id C
  have hRf : 0 ≤ (rmz 0 0 0 0).frames := Nat.le_refl _
  have hRl : 0 ≤ (rmz 0 0 0 0).locals := Nat.le_refl _
  generalize (rmz 0 0 0 0) = R at hret hRf hRl ⊢
  generalize s.heap = H at V ⊢
  generalize ([] : List Loc) = locs at V ⊢
  have hl : lv_has ls 8 [(0, .ref o), (1, .int v1), (2, .int v2), (3, .int v3), (4, .int v4)] := hl
  unfold j_X7_line at hj
  refine lv_aload_n hx hb dX7_line_0 rfl (lv_at hl 0 rfl) ?_
  refine x_get hx hb hts hown V inX7 0 rfl rfl 17 (by decide) tw_537 rfl rfl dX7_line_1 ?_
  refine lv_iload_n hx hb dX7_line_4 rfl (lv_at hl 1 rfl) ?_
  refine lv_bipush (v := 11) hx hb dX7_line_5 (by decide) ?_
  refine lv_iadd hx hb dX7_line_7 ?_
  obtain ⟨i1, hj⟩ := gd_some hj
  refine x_iald hx hb V 14 rfl i1 dX7_line_8 ?_
  obtain ⟨x2, ex2, hj⟩ := nm_some hj
  refine x_topi ex2 ?_
  refine lv_istore (lv' := [(5, .int x2), (0, .ref o), (1, .int v1), (2, .int v2), (3, .int v3), (4, .int v4)]) hx hb dX7_line_9 hl (by decide) rfl (fun ls hl => ?_)
  refine lv_iload_n hx hb dX7_line_11 rfl (lv_at hl 4 rfl) ?_
  refine lv_if_ne (tgt := 44) hx hb dX7_line_12 (by decide) (fun c3 => ?_) (fun c3 => ?_)
  · replace hj := iq _ c3 hj
    refine lv_iload hx hb dX7_line_44 (lv_at hl 0 rfl) ?_
    refine lv_if_ne (tgt := 51) hx hb dX7_line_46 (by decide) (fun c4 => ?_) (fun c4 => ?_)
    · replace hj := iq _ c4 hj
      refine lv_iload_n hx hb dX7_line_51 rfl (lv_at hl 3 rfl) ?_
      refine lv_if_eq (tgt := 64) hx hb dX7_line_52 (by decide) (fun c5 => ?_) (fun c5 => ?_)
      · replace hj := ip _ c5 hj
        refine lv_aload_n hx hb dX7_line_64 rfl (lv_at hl 1 rfl) ?_
        refine x_get hx hb hts hown V inX7 0 rfl rfl 17 (by decide) tw_537 rfl rfl dX7_line_65 ?_
        refine lv_iload_n hx hb dX7_line_68 rfl (lv_at hl 2 rfl) ?_
        refine lv_iload hx hb dX7_line_69 (lv_at hl 0 rfl) ?_
        refine lv_iadd hx hb dX7_line_71 ?_
        refine lv_iconst (v := 1) hx hb dX7_line_72 (by decide) ?_
        refine lv_isub hx hb dX7_line_73 ?_
        obtain ⟨i6, hj⟩ := gd_some hj
        refine x_iald hx hb V 14 rfl i6 dX7_line_74 ?_
        obtain ⟨x7, ex7, hj⟩ := nm_some hj
        refine x_topi ex7 ?_
        refine lv_istore (lv' := [(6, .int x7), (5, .int x2), (0, .ref o), (1, .int v1), (2, .int v2), (3, .int v3), (4, .int v4)]) hx hb dX7_line_75 hl (by decide) rfl (fun ls hl => ?_)
        refine lv_iconst (v := 0) hx hb dX7_line_77 (by decide) ?_
        refine lv_istore (lv' := [(7, .int (0 : Int32)), (6, .int x7), (5, .int x2), (0, .ref o), (1, .int v1), (2, .int v2), (3, .int v3), (4, .int v4)]) hx hb dX7_line_78 hl (by decide) rfl (fun ls hl => ?_)
        exact lp_X7_line_80 o ad hRf hRl C hret   100 u v1 v2 x2 x7 (0 : Int32) hj _ _ _ V (lv_sub hl [3, 4, 5, 2, 1, 0] rfl)
      · replace hj := iq _ c5 hj
        refine lv_aload_n hx hb dX7_line_55 rfl (lv_at hl 1 rfl) ?_
        refine x_get hx hb hts hown V inX7 0 rfl rfl 17 (by decide) tw_537 rfl rfl dX7_line_56 ?_
        refine lv_iload_n hx hb dX7_line_59 rfl (lv_at hl 2 rfl) ?_
        obtain ⟨i22, hj⟩ := gd_some hj
        refine x_iald hx hb V 14 rfl i22 dX7_line_60 ?_
        refine lv_goto (tgt := 75) hx hb dX7_line_61 (by decide) ?_
        obtain ⟨x23, ex23, hj⟩ := nm_some hj
        refine x_topi ex23 ?_
        refine lv_istore (lv' := [(6, .int x23), (5, .int x2), (0, .ref o), (1, .int v1), (2, .int v2), (3, .int v3), (4, .int v4)]) hx hb dX7_line_75 hl (by decide) rfl (fun ls hl => ?_)
        refine lv_iconst (v := 0) hx hb dX7_line_77 (by decide) ?_
        refine lv_istore (lv' := [(7, .int (0 : Int32)), (6, .int x23), (5, .int x2), (0, .ref o), (1, .int v1), (2, .int v2), (3, .int v3), (4, .int v4)]) hx hb dX7_line_78 hl (by decide) rfl (fun ls hl => ?_)
        exact lp_X7_line_80 o ad hRf hRl C hret   100 u v1 v2 x2 x23 (0 : Int32) hj _ _ _ V (lv_sub hl [3, 4, 5, 2, 1, 0] rfl)
    · replace hj := ip _ c4 hj
      refine lv_iconst (v := (-1)) hx hb dX7_line_49 (by decide) ?_
      exact hret ((-1 : Int32), u) hj rfl V dX7_line_50
  · replace hj := ip _ c3 hj
    refine lv_aload_n hx hb dX7_line_15 rfl (lv_at hl 1 rfl) ?_
    refine x_get hx hb hts hown V inX7 0 rfl rfl 17 (by decide) tw_537 rfl rfl dX7_line_16 ?_
    refine lv_iload_n hx hb dX7_line_19 rfl (lv_at hl 2 rfl) ?_
    refine lv_iload hx hb dX7_line_20 (lv_at hl 0 rfl) ?_
    refine lv_iadd hx hb dX7_line_22 ?_
    refine lv_iload hx hb dX7_line_23 (lv_at hl 5 rfl) ?_
    obtain ⟨i24, hj⟩ := gd_some hj
    obtain ⟨u25, eu25, hj⟩ := nm_some hj
    refine x_iast hx hb V 14 rfl i24 dX7_line_25 (fun H locs V => ?_)
    replace V : Wd D tc A s H locs (Mw tc o ad u25) := by rw [eu25]; exact V
    refine lv_aload_n hx hb dX7_line_26 rfl (lv_at hl 1 rfl) ?_
    refine x_get hx hb hts hown V inX7 0 rfl rfl 17 (by decide) tw_537 rfl rfl dX7_line_27 ?_
    refine lv_iload_n hx hb dX7_line_30 rfl (lv_at hl 2 rfl) ?_
    refine lv_bipush (v := 11) hx hb dX7_line_31 (by decide) ?_
    refine lv_iadd hx hb dX7_line_33 ?_
    refine lv_iload hx hb dX7_line_34 (lv_at hl 0 rfl) ?_
    refine lv_iconst (v := 1) hx hb dX7_line_36 (by decide) ?_
    refine lv_iadd hx hb dX7_line_37 ?_
    obtain ⟨i26, hj⟩ := gd_some hj
    obtain ⟨u27, eu27, hj⟩ := nm_some hj
    refine x_iast hx hb V 14 rfl i26 dX7_line_38 (fun H locs V => ?_)
    replace V : Wd D tc A s H locs (Mw tc o ad u27) := by rw [eu27]; exact V
    refine lv_iload hx hb dX7_line_39 (lv_at hl 0 rfl) ?_
    refine lv_iconst (v := 1) hx hb dX7_line_41 (by decide) ?_
    refine lv_iadd hx hb dX7_line_42 ?_
    exact hret (x2 + (1 : Int32), u27) hj rfl V dX7_line_43)

def q_X7_comes_42 (k_42 : St → Int32 → Int32 → Int32 → Int32 → Int32 → Int32 → Int32 → Option (Int32 × St)) (u : St) (v1 : Int32) (v4 : Int32) (v5 : Int32) (v6 : Int32) (v7 : Int32) (v8 : Int32) (v9 : Int32) : Option (Int32 × St) :=
  if (12 : Int32) ≤ v9 then gd v1 12 (if (u.2.1 5 v1.toNatClampNeg) = (0 : Int32) then gd v6 120 ((j_X7_cell u v5 (u.2.1 10 v6.toNatClampNeg) v7 v7 v8).bind (fun ⟨r12, u13⟩ => some (r12, u13))) else if (u.2.1 5 v1.toNatClampNeg) = (1 : Int32) then gd v5 132 (gd v6 120 (if (u.2.1 10 v6.toNatClampNeg) = (1 : Int32) then gd v5 132 (nm (sA u 17 v5.toNatClampNeg ((u.2.1 17 v5.toNatClampNeg) + v7)) (fun u22 => gd v5 132 (some (u22.2.1 17 v5.toNatClampNeg, u22)))) else gd v5 132 (nm (sA u 17 v5.toNatClampNeg ((u.2.1 17 v5.toNatClampNeg) + (0 : Int32))) (fun u19 => gd v5 132 (some (u19.2.1 17 v5.toNatClampNeg, u19)))))) else if (u.2.1 5 v1.toNatClampNeg) = (2 : Int32) then gd v1 12 (if (u.2.1 5 v1.toNatClampNeg) = (2 : Int32) then gd v6 120 ((j_X7_line u v5 (1 : Int32) (u.2.1 10 v6.toNatClampNeg) v7).bind (fun ⟨r31, u32⟩ => some (r31, u32))) else gd v6 120 ((j_X7_line u v5 (0 : Int32) (u.2.1 10 v6.toNatClampNeg) v7).bind (fun ⟨r28, u29⟩ => some (r28, u29)))) else if (u.2.1 5 v1.toNatClampNeg) = (3 : Int32) then gd v1 12 (if (u.2.1 5 v1.toNatClampNeg) = (2 : Int32) then gd v6 120 ((j_X7_line u v5 (1 : Int32) (u.2.1 10 v6.toNatClampNeg) v7).bind (fun ⟨r40, u41⟩ => some (r40, u41))) else gd v6 120 ((j_X7_line u v5 (0 : Int32) (u.2.1 10 v6.toNatClampNeg) v7).bind (fun ⟨r37, u38⟩ => some (r37, u38)))) else if (u.2.1 5 v1.toNatClampNeg) = (4 : Int32) then gd v5 132 (nm (((u.2.1 17 v5.toNatClampNeg) >>> (v7 &&& 31)) &&& (1 : Int32)) (fun x44 => gd v6 120 (if (u.2.1 10 v6.toNatClampNeg) = (0 : Int32) then gd v5 132 (gd v5 132 (nm (sA u 17 v5.toNatClampNeg ((u.2.1 17 v5.toNatClampNeg) ||| ((1 : Int32) <<< (v7 &&& 31)))) (fun u58 => gd v6 120 (if (u58.2.1 10 v6.toNatClampNeg) = (1 : Int32) then gd v5 132 (gd v5 132 (nm (sA u58 17 v5.toNatClampNeg ((u58.2.1 17 v5.toNatClampNeg) &&& (((1 : Int32) <<< (v7 &&& 31)) ^^^ (-1 : Int32)))) (fun u65 => gd v6 120 (if (u65.2.1 10 v6.toNatClampNeg) = (0 : Int32) then some ((1 : Int32) - x44, u65) else some (x44, u65))))) else gd v6 120 (if (u58.2.1 10 v6.toNatClampNeg) = (0 : Int32) then some ((1 : Int32) - x44, u58) else some (x44, u58)))))) else gd v6 120 (if (u.2.1 10 v6.toNatClampNeg) = (1 : Int32) then gd v5 132 (gd v5 132 (nm (sA u 17 v5.toNatClampNeg ((u.2.1 17 v5.toNatClampNeg) &&& (((1 : Int32) <<< (v7 &&& 31)) ^^^ (-1 : Int32)))) (fun u53 => gd v6 120 (if (u53.2.1 10 v6.toNatClampNeg) = (0 : Int32) then some ((1 : Int32) - x44, u53) else some (x44, u53))))) else gd v6 120 (if (u.2.1 10 v6.toNatClampNeg) = (0 : Int32) then some ((1 : Int32) - x44, u) else some (x44, u)))))) else if (u.2.1 5 v1.toNatClampNeg) = (5 : Int32) then gd v6 120 ((j_X7_cell u (v5 + v7) (u.2.1 10 v6.toNatClampNeg) v8 (v8 >>> ((16 : Int32) &&& 31)) v8.toInt16.toInt32).bind (fun ⟨r70, u71⟩ => some (r70, u71))) else gd v1 12 (gd v5 132 (gd v6 120 (nm ((((32 : Int32) * (u.2.1 6 v1.toNatClampNeg)) + ((4 : Int32) * (u.2.1 17 v5.toNatClampNeg))) + (u.2.1 10 v6.toNatClampNeg)) (fun x75 => gd x75 128 (gd v5 132 (nm (sA u 17 v5.toNatClampNeg (u.2.1 2 x75.toNatClampNeg)) (fun u78 => gd x75 128 (some (u78.2.1 1 x75.toNatClampNeg, u78)))))))))) else gd (v4 + v9) 132 (gd (v5 + v9) 132 (nm (sA u 17 (v5 + v9).toNatClampNeg (u.2.1 17 (v4 + v9).toNatClampNeg)) (fun u82 => nm (v9 + 1) (fun x83 => k_42 u82 v1 v4 v5 v6 v7 v8 x83))))
set_option maxHeartbeats 4000000 in
set_option maxRecDepth 100000 in
theorem b_X7_comes_42 {p : Program} {l : Launch} {e : Env} {R : Room} {s : State} {m : MethodId} {args : Array Value} {below : List Frame} {meth : Method} {c : Code} {A : Nat → Prop} {Q : State → Prop} {D : va_G} {tc : Nat → ClassId} (o : Nat) (ad : Nat → Nat) (hRf : 1 ≤ R.frames) (hRl : 27 ≤ R.locals) (C : Cx p s m args meth c cX7_comes 11 RX7 (some .int)) {x0 : Int32 × St} (hret : RetI p l e R s m args below meth c Q cX7_comes D tc A .int (some x0) (fun x : Int32 × St => x.1) (fun x : Int32 × St => Mw tc o ad x.2)) (k_42 : St → Int32 → Int32 → Int32 → Int32 → Int32 → Int32 → Int32 → Option (Int32 × St)) (hk_42 : ∀ (u : St) (v1 : Int32) (v4 : Int32) (v5 : Int32) (v6 : Int32) (v7 : Int32) (v8 : Int32) (v9 : Int32), k_42 u v1 v4 v5 v6 v7 v8 v9 = some x0 → ∀ (H : Heap) (locs : List Loc) (ls : Array Slot), Wd D tc A s H locs (Mw tc o ad u) → lv_has ls 11 [(0, .ref o), (1, .int v1), (4, .int v4), (5, .int v5), (6, .int v6), (7, .int v7), (8, .int v8), (9, .int v9)] → W p l e R s m args below meth c H locs 0 0 Q (F0 m 42 ls [])) : ∀ (u : St) (v1 : Int32) (v4 : Int32) (v5 : Int32) (v6 : Int32) (v7 : Int32) (v8 : Int32) (v9 : Int32), q_X7_comes_42 k_42 u v1 v4 v5 v6 v7 v8 v9 = some x0 → ∀ (H : Heap) (locs : List Loc) (ls : Array Slot), Wd D tc A s H locs (Mw tc o ad u) → lv_has ls 11 [(0, .ref o), (1, .int v1), (4, .int v4), (5, .int v5), (6, .int v6), (7, .int v7), (8, .int v8), (9, .int v9)] → W p l e R s m args below meth c H locs 0 0 Q (F0 m 42 ls []) := by
  obtain ⟨hx, hb, hr, hml, hown, hts, hlk, hN⟩ := id C
  intro u v1 v4 v5 v6 v7 v8 v9 hj H locs ls V hl
  unfold q_X7_comes_42 at hj
  refine lv_iload hx hb dX7_comes_42 (lv_at hl 7 rfl) ?_
  refine lv_bipush (v := 12) hx hb dX7_comes_44 (by decide) ?_
  refine lv_icmp_ge (tgt := 75) hx hb dX7_comes_46 (by decide) (fun c8 => ?_) (fun c8 => ?_)
  · replace hj := ip _ c8 hj
    refine lv_aload_n hx hb dX7_comes_75 rfl (lv_at hl 0 rfl) ?_
    refine x_get hx hb hts hown V inX7 0 rfl rfl 5 (by decide) tw_525 rfl rfl dX7_comes_76 ?_
    refine lv_iload_n hx hb dX7_comes_79 rfl (lv_at hl 1 rfl) ?_
    obtain ⟨i9, hj⟩ := gd_some hj
    refine x_iald hx hb V 3 rfl i9 dX7_comes_80 ?_
    by_cases c10 : (u.2.1 5 v1.toNatClampNeg) = 0
    · refine lv_tableIn (off := 39) (tgt := 120) hx hb dX7_comes_81 (by rw [c10]; decide) (by rw [c10]; decide) (by rw [c10]; rfl) (by decide) ?_
      replace hj := ip _ c10 hj
      refine lv_aload_n hx hb dX7_comes_120 rfl (lv_at hl 0 rfl) ?_
      refine lv_iload hx hb dX7_comes_121 (lv_at hl 3 rfl) ?_
      refine lv_aload_n hx hb dX7_comes_123 rfl (lv_at hl 0 rfl) ?_
      refine x_get hx hb hts hown V inX7 0 rfl rfl 10 (by decide) tw_530 rfl rfl dX7_comes_124 ?_
      refine lv_iload hx hb dX7_comes_127 (lv_at hl 4 rfl) ?_
      obtain ⟨i11, hj⟩ := gd_some hj
      refine x_iald hx hb V 8 rfl i11 dX7_comes_129 ?_
      refine lv_iload hx hb dX7_comes_130 (lv_at hl 5 rfl) ?_
      refine lv_iload hx hb dX7_comes_132 (lv_at hl 5 rfl) ?_
      refine lv_iload hx hb dX7_comes_134 (lv_at hl 6 rfl) ?_
      obtain ⟨⟨r12, u13⟩, hr12, hj⟩ := bd_some hj
      refine x_allI V _ (rg_map _) (x_runV (n := 5) (rest := []) C V _ (rg_map _) (rg_nd _) (k_X7_cell l D tc o ad u v5 (u.2.1 10 v6.toNatClampNeg) v7 v7 v8 hr12) tw_724 tw_726 tp_23 tw_6 tw_727 (by decide +kernel) ⟨Nat.le_trans (Nat.le_of_ble_eq_true rfl) hRf, Nat.le_trans (Nat.le_of_ble_eq_true rfl) hRl⟩ ⟨Nat.zero_le _, Nat.zero_le _⟩ 0 6 rfl rfl rfl hl.1 rfl (Nat.le_of_ble_eq_true rfl) dX7_comes_136) (fun H locs V zr12 => ?_)
      replace V : Wd D tc A s H locs (Mw tc o ad u13) := V
      exact hret (r12, u13) hj rfl V dX7_comes_139
    · replace hj := iq _ c10 hj
      by_cases c14 : (u.2.1 5 v1.toNatClampNeg) = 1
      · refine lv_tableIn (off := 59) (tgt := 140) hx hb dX7_comes_81 (by rw [c14]; decide) (by rw [c14]; decide) (by rw [c14]; rfl) (by decide) ?_
        replace hj := ip _ c14 hj
        refine lv_aload_n hx hb dX7_comes_140 rfl (lv_at hl 0 rfl) ?_
        refine x_get hx hb hts hown V inX7 0 rfl rfl 17 (by decide) tw_537 rfl rfl dX7_comes_141 ?_
        refine lv_iload hx hb dX7_comes_144 (lv_at hl 3 rfl) ?_
        refine lv_dup2_11 hx hb dX7_comes_146 rfl rfl ?_
        obtain ⟨i15, hj⟩ := gd_some hj
        refine x_iald hx hb V 14 rfl i15 dX7_comes_147 ?_
        refine lv_aload_n hx hb dX7_comes_148 rfl (lv_at hl 0 rfl) ?_
        refine x_get hx hb hts hown V inX7 0 rfl rfl 10 (by decide) tw_530 rfl rfl dX7_comes_149 ?_
        refine lv_iload hx hb dX7_comes_152 (lv_at hl 4 rfl) ?_
        obtain ⟨i16, hj⟩ := gd_some hj
        refine x_iald hx hb V 8 rfl i16 dX7_comes_154 ?_
        refine lv_iconst (v := 1) hx hb dX7_comes_155 (by decide) ?_
        refine lv_icmp_ne (tgt := 164) hx hb dX7_comes_156 (by decide) (fun c17 => ?_) (fun c17 => ?_)
        · replace hj := iq _ c17 hj
          refine lv_iconst (v := 0) hx hb dX7_comes_164 (by decide) ?_
          refine lv_iadd hx hb dX7_comes_165 ?_
          obtain ⟨i18, hj⟩ := gd_some hj
          obtain ⟨u19, eu19, hj⟩ := nm_some hj
          refine x_iast hx hb V 14 rfl i18 dX7_comes_166 (fun H locs V => ?_)
          replace V : Wd D tc A s H locs (Mw tc o ad u19) := by rw [eu19]; exact V
          refine lv_aload_n hx hb dX7_comes_167 rfl (lv_at hl 0 rfl) ?_
          refine x_get hx hb hts hown V inX7 0 rfl rfl 17 (by decide) tw_537 rfl rfl dX7_comes_168 ?_
          refine lv_iload hx hb dX7_comes_171 (lv_at hl 3 rfl) ?_
          obtain ⟨i20, hj⟩ := gd_some hj
          refine x_iald hx hb V 14 rfl i20 dX7_comes_173 ?_
          exact hret (u19.2.1 17 v5.toNatClampNeg, u19) hj rfl V dX7_comes_174
        · replace hj := ip _ c17 hj
          refine lv_iload hx hb dX7_comes_159 (lv_at hl 5 rfl) ?_
          refine lv_goto (tgt := 165) hx hb dX7_comes_161 (by decide) ?_
          refine lv_iadd hx hb dX7_comes_165 ?_
          obtain ⟨i21, hj⟩ := gd_some hj
          obtain ⟨u22, eu22, hj⟩ := nm_some hj
          refine x_iast hx hb V 14 rfl i21 dX7_comes_166 (fun H locs V => ?_)
          replace V : Wd D tc A s H locs (Mw tc o ad u22) := by rw [eu22]; exact V
          refine lv_aload_n hx hb dX7_comes_167 rfl (lv_at hl 0 rfl) ?_
          refine x_get hx hb hts hown V inX7 0 rfl rfl 17 (by decide) tw_537 rfl rfl dX7_comes_168 ?_
          refine lv_iload hx hb dX7_comes_171 (lv_at hl 3 rfl) ?_
          obtain ⟨i23, hj⟩ := gd_some hj
          refine x_iald hx hb V 14 rfl i23 dX7_comes_173 ?_
          exact hret (u22.2.1 17 v5.toNatClampNeg, u22) hj rfl V dX7_comes_174
      · replace hj := iq _ c14 hj
        by_cases c24 : (u.2.1 5 v1.toNatClampNeg) = 2
        · refine lv_tableIn (off := 94) (tgt := 175) hx hb dX7_comes_81 (by rw [c24]; decide) (by rw [c24]; decide) (by rw [c24]; rfl) (by decide) ?_
          replace hj := ip _ c24 hj
          refine lv_aload_n hx hb dX7_comes_175 rfl (lv_at hl 0 rfl) ?_
          refine lv_iload hx hb dX7_comes_176 (lv_at hl 3 rfl) ?_
          refine lv_aload_n hx hb dX7_comes_178 rfl (lv_at hl 0 rfl) ?_
          refine x_get hx hb hts hown V inX7 0 rfl rfl 5 (by decide) tw_525 rfl rfl dX7_comes_179 ?_
          refine lv_iload_n hx hb dX7_comes_182 rfl (lv_at hl 1 rfl) ?_
          obtain ⟨i25, hj⟩ := gd_some hj
          refine x_iald hx hb V 3 rfl i25 dX7_comes_183 ?_
          refine lv_iconst (v := 2) hx hb dX7_comes_184 (by decide) ?_
          refine lv_icmp_ne (tgt := 192) hx hb dX7_comes_185 (by decide) (fun c26 => ?_) (fun c26 => ?_)
          · replace hj := iq _ c26 hj
            refine lv_iconst (v := 0) hx hb dX7_comes_192 (by decide) ?_
            refine lv_aload_n hx hb dX7_comes_193 rfl (lv_at hl 0 rfl) ?_
            refine x_get hx hb hts hown V inX7 0 rfl rfl 10 (by decide) tw_530 rfl rfl dX7_comes_194 ?_
            refine lv_iload hx hb dX7_comes_197 (lv_at hl 4 rfl) ?_
            obtain ⟨i27, hj⟩ := gd_some hj
            refine x_iald hx hb V 8 rfl i27 dX7_comes_199 ?_
            refine lv_iload hx hb dX7_comes_200 (lv_at hl 5 rfl) ?_
            obtain ⟨⟨r28, u29⟩, hr28, hj⟩ := bd_some hj
            refine x_allI V _ (rg_map _) (x_runV (n := 4) (rest := []) C V _ (rg_map _) (rg_nd _) (k_X7_line l D tc o ad u v5 (0 : Int32) (u.2.1 10 v6.toNatClampNeg) v7 hr28) tw_728 tw_730 tp_24 tw_6 tw_731 (by decide +kernel) ⟨Nat.le_trans (Nat.le_of_ble_eq_true rfl) hRf, Nat.le_trans (Nat.le_of_ble_eq_true rfl) hRl⟩ ⟨Nat.zero_le _, Nat.zero_le _⟩ 0 6 rfl rfl rfl hl.1 rfl (Nat.le_of_ble_eq_true rfl) dX7_comes_202) (fun H locs V zr28 => ?_)
            replace V : Wd D tc A s H locs (Mw tc o ad u29) := V
            exact hret (r28, u29) hj rfl V dX7_comes_205
          · replace hj := ip _ c26 hj
            refine lv_iconst (v := 1) hx hb dX7_comes_188 (by decide) ?_
            refine lv_goto (tgt := 193) hx hb dX7_comes_189 (by decide) ?_
            refine lv_aload_n hx hb dX7_comes_193 rfl (lv_at hl 0 rfl) ?_
            refine x_get hx hb hts hown V inX7 0 rfl rfl 10 (by decide) tw_530 rfl rfl dX7_comes_194 ?_
            refine lv_iload hx hb dX7_comes_197 (lv_at hl 4 rfl) ?_
            obtain ⟨i30, hj⟩ := gd_some hj
            refine x_iald hx hb V 8 rfl i30 dX7_comes_199 ?_
            refine lv_iload hx hb dX7_comes_200 (lv_at hl 5 rfl) ?_
            obtain ⟨⟨r31, u32⟩, hr31, hj⟩ := bd_some hj
            refine x_allI V _ (rg_map _) (x_runV (n := 4) (rest := []) C V _ (rg_map _) (rg_nd _) (k_X7_line l D tc o ad u v5 (1 : Int32) (u.2.1 10 v6.toNatClampNeg) v7 hr31) tw_728 tw_730 tp_24 tw_6 tw_731 (by decide +kernel) ⟨Nat.le_trans (Nat.le_of_ble_eq_true rfl) hRf, Nat.le_trans (Nat.le_of_ble_eq_true rfl) hRl⟩ ⟨Nat.zero_le _, Nat.zero_le _⟩ 0 6 rfl rfl rfl hl.1 rfl (Nat.le_of_ble_eq_true rfl) dX7_comes_202) (fun H locs V zr31 => ?_)
            replace V : Wd D tc A s H locs (Mw tc o ad u32) := V
            exact hret (r31, u32) hj rfl V dX7_comes_205
        · replace hj := iq _ c24 hj
          by_cases c33 : (u.2.1 5 v1.toNatClampNeg) = 3
          · refine lv_tableIn (off := 94) (tgt := 175) hx hb dX7_comes_81 (by rw [c33]; decide) (by rw [c33]; decide) (by rw [c33]; rfl) (by decide) ?_
            replace hj := ip _ c33 hj
            refine lv_aload_n hx hb dX7_comes_175 rfl (lv_at hl 0 rfl) ?_
            refine lv_iload hx hb dX7_comes_176 (lv_at hl 3 rfl) ?_
            refine lv_aload_n hx hb dX7_comes_178 rfl (lv_at hl 0 rfl) ?_
            refine x_get hx hb hts hown V inX7 0 rfl rfl 5 (by decide) tw_525 rfl rfl dX7_comes_179 ?_
            refine lv_iload_n hx hb dX7_comes_182 rfl (lv_at hl 1 rfl) ?_
            obtain ⟨i34, hj⟩ := gd_some hj
            refine x_iald hx hb V 3 rfl i34 dX7_comes_183 ?_
            refine lv_iconst (v := 2) hx hb dX7_comes_184 (by decide) ?_
            refine lv_icmp_ne (tgt := 192) hx hb dX7_comes_185 (by decide) (fun c35 => ?_) (fun c35 => ?_)
            · replace hj := iq _ c35 hj
              refine lv_iconst (v := 0) hx hb dX7_comes_192 (by decide) ?_
              refine lv_aload_n hx hb dX7_comes_193 rfl (lv_at hl 0 rfl) ?_
              refine x_get hx hb hts hown V inX7 0 rfl rfl 10 (by decide) tw_530 rfl rfl dX7_comes_194 ?_
              refine lv_iload hx hb dX7_comes_197 (lv_at hl 4 rfl) ?_
              obtain ⟨i36, hj⟩ := gd_some hj
              refine x_iald hx hb V 8 rfl i36 dX7_comes_199 ?_
              refine lv_iload hx hb dX7_comes_200 (lv_at hl 5 rfl) ?_
              obtain ⟨⟨r37, u38⟩, hr37, hj⟩ := bd_some hj
              refine x_allI V _ (rg_map _) (x_runV (n := 4) (rest := []) C V _ (rg_map _) (rg_nd _) (k_X7_line l D tc o ad u v5 (0 : Int32) (u.2.1 10 v6.toNatClampNeg) v7 hr37) tw_728 tw_730 tp_24 tw_6 tw_731 (by decide +kernel) ⟨Nat.le_trans (Nat.le_of_ble_eq_true rfl) hRf, Nat.le_trans (Nat.le_of_ble_eq_true rfl) hRl⟩ ⟨Nat.zero_le _, Nat.zero_le _⟩ 0 6 rfl rfl rfl hl.1 rfl (Nat.le_of_ble_eq_true rfl) dX7_comes_202) (fun H locs V zr37 => ?_)
              replace V : Wd D tc A s H locs (Mw tc o ad u38) := V
              exact hret (r37, u38) hj rfl V dX7_comes_205
            · replace hj := ip _ c35 hj
              refine lv_iconst (v := 1) hx hb dX7_comes_188 (by decide) ?_
              refine lv_goto (tgt := 193) hx hb dX7_comes_189 (by decide) ?_
              refine lv_aload_n hx hb dX7_comes_193 rfl (lv_at hl 0 rfl) ?_
              refine x_get hx hb hts hown V inX7 0 rfl rfl 10 (by decide) tw_530 rfl rfl dX7_comes_194 ?_
              refine lv_iload hx hb dX7_comes_197 (lv_at hl 4 rfl) ?_
              obtain ⟨i39, hj⟩ := gd_some hj
              refine x_iald hx hb V 8 rfl i39 dX7_comes_199 ?_
              refine lv_iload hx hb dX7_comes_200 (lv_at hl 5 rfl) ?_
              obtain ⟨⟨r40, u41⟩, hr40, hj⟩ := bd_some hj
              refine x_allI V _ (rg_map _) (x_runV (n := 4) (rest := []) C V _ (rg_map _) (rg_nd _) (k_X7_line l D tc o ad u v5 (1 : Int32) (u.2.1 10 v6.toNatClampNeg) v7 hr40) tw_728 tw_730 tp_24 tw_6 tw_731 (by decide +kernel) ⟨Nat.le_trans (Nat.le_of_ble_eq_true rfl) hRf, Nat.le_trans (Nat.le_of_ble_eq_true rfl) hRl⟩ ⟨Nat.zero_le _, Nat.zero_le _⟩ 0 6 rfl rfl rfl hl.1 rfl (Nat.le_of_ble_eq_true rfl) dX7_comes_202) (fun H locs V zr40 => ?_)
              replace V : Wd D tc A s H locs (Mw tc o ad u41) := V
              exact hret (r40, u41) hj rfl V dX7_comes_205
          · replace hj := iq _ c33 hj
            by_cases c42 : (u.2.1 5 v1.toNatClampNeg) = 4
            · refine lv_tableIn (off := 125) (tgt := 206) hx hb dX7_comes_81 (by rw [c42]; decide) (by rw [c42]; decide) (by rw [c42]; rfl) (by decide) ?_
              replace hj := ip _ c42 hj
              refine lv_aload_n hx hb dX7_comes_206 rfl (lv_at hl 0 rfl) ?_
              refine x_get hx hb hts hown V inX7 0 rfl rfl 17 (by decide) tw_537 rfl rfl dX7_comes_207 ?_
              refine lv_iload hx hb dX7_comes_210 (lv_at hl 3 rfl) ?_
              obtain ⟨i43, hj⟩ := gd_some hj
              refine x_iald hx hb V 14 rfl i43 dX7_comes_212 ?_
              refine lv_iload hx hb dX7_comes_213 (lv_at hl 5 rfl) ?_
              refine lv_ishr hx hb dX7_comes_215 ?_
              refine lv_iconst (v := 1) hx hb dX7_comes_216 (by decide) ?_
              refine lv_iand hx hb dX7_comes_217 ?_
              obtain ⟨x44, ex44, hj⟩ := nm_some hj
              refine x_topi ex44 ?_
              refine lv_istore (lv' := [(9, .int x44), (0, .ref o), (1, .int v1), (4, .int v4), (5, .int v5), (6, .int v6), (7, .int v7), (8, .int v8)]) hx hb dX7_comes_218 hl (by decide) rfl (fun ls hl => ?_)
              refine lv_aload_n hx hb dX7_comes_220 rfl (lv_at hl 1 rfl) ?_
              refine x_get hx hb hts hown V inX7 0 rfl rfl 10 (by decide) tw_530 rfl rfl dX7_comes_221 ?_
              refine lv_iload hx hb dX7_comes_224 (lv_at hl 5 rfl) ?_
              obtain ⟨i45, hj⟩ := gd_some hj
              refine x_iald hx hb V 8 rfl i45 dX7_comes_226 ?_
              refine lv_if_ne (tgt := 244) hx hb dX7_comes_227 (by decide) (fun c46 => ?_) (fun c46 => ?_)
              · replace hj := iq _ c46 hj
                refine lv_aload_n hx hb dX7_comes_244 rfl (lv_at hl 1 rfl) ?_
                refine x_get hx hb hts hown V inX7 0 rfl rfl 10 (by decide) tw_530 rfl rfl dX7_comes_245 ?_
                refine lv_iload hx hb dX7_comes_248 (lv_at hl 5 rfl) ?_
                obtain ⟨i47, hj⟩ := gd_some hj
                refine x_iald hx hb V 8 rfl i47 dX7_comes_250 ?_
                refine lv_iconst (v := 1) hx hb dX7_comes_251 (by decide) ?_
                refine lv_icmp_ne (tgt := 271) hx hb dX7_comes_252 (by decide) (fun c48 => ?_) (fun c48 => ?_)
                · replace hj := iq _ c48 hj
                  refine lv_aload_n hx hb dX7_comes_271 rfl (lv_at hl 1 rfl) ?_
                  refine x_get hx hb hts hown V inX7 0 rfl rfl 10 (by decide) tw_530 rfl rfl dX7_comes_272 ?_
                  refine lv_iload hx hb dX7_comes_275 (lv_at hl 5 rfl) ?_
                  obtain ⟨i49, hj⟩ := gd_some hj
                  refine x_iald hx hb V 8 rfl i49 dX7_comes_277 ?_
                  refine lv_if_ne (tgt := 288) hx hb dX7_comes_278 (by decide) (fun c50 => ?_) (fun c50 => ?_)
                  · replace hj := iq _ c50 hj
                    refine lv_iload hx hb dX7_comes_288 (lv_at hl 0 rfl) ?_
                    exact hret (x44, u) hj rfl V dX7_comes_290
                  · replace hj := ip _ c50 hj
                    refine lv_iconst (v := 1) hx hb dX7_comes_281 (by decide) ?_
                    refine lv_iload hx hb dX7_comes_282 (lv_at hl 0 rfl) ?_
                    refine lv_isub hx hb dX7_comes_284 ?_
                    refine lv_goto (tgt := 290) hx hb dX7_comes_285 (by decide) ?_
                    exact hret ((1 : Int32) - x44, u) hj rfl V dX7_comes_290
                · replace hj := ip _ c48 hj
                  refine lv_aload_n hx hb dX7_comes_255 rfl (lv_at hl 1 rfl) ?_
                  refine x_get hx hb hts hown V inX7 0 rfl rfl 17 (by decide) tw_537 rfl rfl dX7_comes_256 ?_
                  refine lv_iload hx hb dX7_comes_259 (lv_at hl 4 rfl) ?_
                  refine lv_dup2_11 hx hb dX7_comes_261 rfl rfl ?_
                  obtain ⟨i51, hj⟩ := gd_some hj
                  refine x_iald hx hb V 14 rfl i51 dX7_comes_262 ?_
                  refine lv_iconst (v := 1) hx hb dX7_comes_263 (by decide) ?_
                  refine lv_iload hx hb dX7_comes_264 (lv_at hl 6 rfl) ?_
                  refine lv_ishl hx hb dX7_comes_266 ?_
                  refine lv_iconst (v := (-1)) hx hb dX7_comes_267 (by decide) ?_
                  refine lv_ixor hx hb dX7_comes_268 ?_
                  refine lv_iand hx hb dX7_comes_269 ?_
                  obtain ⟨i52, hj⟩ := gd_some hj
                  obtain ⟨u53, eu53, hj⟩ := nm_some hj
                  refine x_iast hx hb V 14 rfl i52 dX7_comes_270 (fun H locs V => ?_)
                  replace V : Wd D tc A s H locs (Mw tc o ad u53) := by rw [eu53]; exact V
                  refine lv_aload_n hx hb dX7_comes_271 rfl (lv_at hl 1 rfl) ?_
                  refine x_get hx hb hts hown V inX7 0 rfl rfl 10 (by decide) tw_530 rfl rfl dX7_comes_272 ?_
                  refine lv_iload hx hb dX7_comes_275 (lv_at hl 5 rfl) ?_
                  obtain ⟨i54, hj⟩ := gd_some hj
                  refine x_iald hx hb V 8 rfl i54 dX7_comes_277 ?_
                  refine lv_if_ne (tgt := 288) hx hb dX7_comes_278 (by decide) (fun c55 => ?_) (fun c55 => ?_)
                  · replace hj := iq _ c55 hj
                    refine lv_iload hx hb dX7_comes_288 (lv_at hl 0 rfl) ?_
                    exact hret (x44, u53) hj rfl V dX7_comes_290
                  · replace hj := ip _ c55 hj
                    refine lv_iconst (v := 1) hx hb dX7_comes_281 (by decide) ?_
                    refine lv_iload hx hb dX7_comes_282 (lv_at hl 0 rfl) ?_
                    refine lv_isub hx hb dX7_comes_284 ?_
                    refine lv_goto (tgt := 290) hx hb dX7_comes_285 (by decide) ?_
                    exact hret ((1 : Int32) - x44, u53) hj rfl V dX7_comes_290
              · replace hj := ip _ c46 hj
                refine lv_aload_n hx hb dX7_comes_230 rfl (lv_at hl 1 rfl) ?_
                refine x_get hx hb hts hown V inX7 0 rfl rfl 17 (by decide) tw_537 rfl rfl dX7_comes_231 ?_
                refine lv_iload hx hb dX7_comes_234 (lv_at hl 4 rfl) ?_
                refine lv_dup2_11 hx hb dX7_comes_236 rfl rfl ?_
                obtain ⟨i56, hj⟩ := gd_some hj
                refine x_iald hx hb V 14 rfl i56 dX7_comes_237 ?_
                refine lv_iconst (v := 1) hx hb dX7_comes_238 (by decide) ?_
                refine lv_iload hx hb dX7_comes_239 (lv_at hl 6 rfl) ?_
                refine lv_ishl hx hb dX7_comes_241 ?_
                refine lv_ior hx hb dX7_comes_242 ?_
                obtain ⟨i57, hj⟩ := gd_some hj
                obtain ⟨u58, eu58, hj⟩ := nm_some hj
                refine x_iast hx hb V 14 rfl i57 dX7_comes_243 (fun H locs V => ?_)
                replace V : Wd D tc A s H locs (Mw tc o ad u58) := by rw [eu58]; exact V
                refine lv_aload_n hx hb dX7_comes_244 rfl (lv_at hl 1 rfl) ?_
                refine x_get hx hb hts hown V inX7 0 rfl rfl 10 (by decide) tw_530 rfl rfl dX7_comes_245 ?_
                refine lv_iload hx hb dX7_comes_248 (lv_at hl 5 rfl) ?_
                obtain ⟨i59, hj⟩ := gd_some hj
                refine x_iald hx hb V 8 rfl i59 dX7_comes_250 ?_
                refine lv_iconst (v := 1) hx hb dX7_comes_251 (by decide) ?_
                refine lv_icmp_ne (tgt := 271) hx hb dX7_comes_252 (by decide) (fun c60 => ?_) (fun c60 => ?_)
                · replace hj := iq _ c60 hj
                  refine lv_aload_n hx hb dX7_comes_271 rfl (lv_at hl 1 rfl) ?_
                  refine x_get hx hb hts hown V inX7 0 rfl rfl 10 (by decide) tw_530 rfl rfl dX7_comes_272 ?_
                  refine lv_iload hx hb dX7_comes_275 (lv_at hl 5 rfl) ?_
                  obtain ⟨i61, hj⟩ := gd_some hj
                  refine x_iald hx hb V 8 rfl i61 dX7_comes_277 ?_
                  refine lv_if_ne (tgt := 288) hx hb dX7_comes_278 (by decide) (fun c62 => ?_) (fun c62 => ?_)
                  · replace hj := iq _ c62 hj
                    refine lv_iload hx hb dX7_comes_288 (lv_at hl 0 rfl) ?_
                    exact hret (x44, u58) hj rfl V dX7_comes_290
                  · replace hj := ip _ c62 hj
                    refine lv_iconst (v := 1) hx hb dX7_comes_281 (by decide) ?_
                    refine lv_iload hx hb dX7_comes_282 (lv_at hl 0 rfl) ?_
                    refine lv_isub hx hb dX7_comes_284 ?_
                    refine lv_goto (tgt := 290) hx hb dX7_comes_285 (by decide) ?_
                    exact hret ((1 : Int32) - x44, u58) hj rfl V dX7_comes_290
                · replace hj := ip _ c60 hj
                  refine lv_aload_n hx hb dX7_comes_255 rfl (lv_at hl 1 rfl) ?_
                  refine x_get hx hb hts hown V inX7 0 rfl rfl 17 (by decide) tw_537 rfl rfl dX7_comes_256 ?_
                  refine lv_iload hx hb dX7_comes_259 (lv_at hl 4 rfl) ?_
                  refine lv_dup2_11 hx hb dX7_comes_261 rfl rfl ?_
                  obtain ⟨i63, hj⟩ := gd_some hj
                  refine x_iald hx hb V 14 rfl i63 dX7_comes_262 ?_
                  refine lv_iconst (v := 1) hx hb dX7_comes_263 (by decide) ?_
                  refine lv_iload hx hb dX7_comes_264 (lv_at hl 6 rfl) ?_
                  refine lv_ishl hx hb dX7_comes_266 ?_
                  refine lv_iconst (v := (-1)) hx hb dX7_comes_267 (by decide) ?_
                  refine lv_ixor hx hb dX7_comes_268 ?_
                  refine lv_iand hx hb dX7_comes_269 ?_
                  obtain ⟨i64, hj⟩ := gd_some hj
                  obtain ⟨u65, eu65, hj⟩ := nm_some hj
                  refine x_iast hx hb V 14 rfl i64 dX7_comes_270 (fun H locs V => ?_)
                  replace V : Wd D tc A s H locs (Mw tc o ad u65) := by rw [eu65]; exact V
                  refine lv_aload_n hx hb dX7_comes_271 rfl (lv_at hl 1 rfl) ?_
                  refine x_get hx hb hts hown V inX7 0 rfl rfl 10 (by decide) tw_530 rfl rfl dX7_comes_272 ?_
                  refine lv_iload hx hb dX7_comes_275 (lv_at hl 5 rfl) ?_
                  obtain ⟨i66, hj⟩ := gd_some hj
                  refine x_iald hx hb V 8 rfl i66 dX7_comes_277 ?_
                  refine lv_if_ne (tgt := 288) hx hb dX7_comes_278 (by decide) (fun c67 => ?_) (fun c67 => ?_)
                  · replace hj := iq _ c67 hj
                    refine lv_iload hx hb dX7_comes_288 (lv_at hl 0 rfl) ?_
                    exact hret (x44, u65) hj rfl V dX7_comes_290
                  · replace hj := ip _ c67 hj
                    refine lv_iconst (v := 1) hx hb dX7_comes_281 (by decide) ?_
                    refine lv_iload hx hb dX7_comes_282 (lv_at hl 0 rfl) ?_
                    refine lv_isub hx hb dX7_comes_284 ?_
                    refine lv_goto (tgt := 290) hx hb dX7_comes_285 (by decide) ?_
                    exact hret ((1 : Int32) - x44, u65) hj rfl V dX7_comes_290
            · replace hj := iq _ c42 hj
              by_cases c68 : (u.2.1 5 v1.toNatClampNeg) = 5
              · refine lv_tableIn (off := 210) (tgt := 291) hx hb dX7_comes_81 (by rw [c68]; decide) (by rw [c68]; decide) (by rw [c68]; rfl) (by decide) ?_
                replace hj := ip _ c68 hj
                refine lv_aload_n hx hb dX7_comes_291 rfl (lv_at hl 0 rfl) ?_
                refine lv_iload hx hb dX7_comes_292 (lv_at hl 3 rfl) ?_
                refine lv_iload hx hb dX7_comes_294 (lv_at hl 5 rfl) ?_
                refine lv_iadd hx hb dX7_comes_296 ?_
                refine lv_aload_n hx hb dX7_comes_297 rfl (lv_at hl 0 rfl) ?_
                refine x_get hx hb hts hown V inX7 0 rfl rfl 10 (by decide) tw_530 rfl rfl dX7_comes_298 ?_
                refine lv_iload hx hb dX7_comes_301 (lv_at hl 4 rfl) ?_
                obtain ⟨i69, hj⟩ := gd_some hj
                refine x_iald hx hb V 8 rfl i69 dX7_comes_303 ?_
                refine lv_iload hx hb dX7_comes_304 (lv_at hl 6 rfl) ?_
                refine lv_iload hx hb dX7_comes_306 (lv_at hl 6 rfl) ?_
                refine lv_bipush (v := 16) hx hb dX7_comes_308 (by decide) ?_
                refine lv_ishr hx hb dX7_comes_310 ?_
                refine lv_iload hx hb dX7_comes_311 (lv_at hl 6 rfl) ?_
                refine lv_i2s hx hb dX7_comes_313 rfl ?_
                obtain ⟨⟨r70, u71⟩, hr70, hj⟩ := bd_some hj
                refine x_allI V _ (rg_map _) (x_runV (n := 5) (rest := []) C V _ (rg_map _) (rg_nd _) (k_X7_cell l D tc o ad u (v5 + v7) (u.2.1 10 v6.toNatClampNeg) v8 (v8 >>> ((16 : Int32) &&& 31)) v8.toInt16.toInt32 hr70) tw_724 tw_726 tp_23 tw_6 tw_727 (by decide +kernel) ⟨Nat.le_trans (Nat.le_of_ble_eq_true rfl) hRf, Nat.le_trans (Nat.le_of_ble_eq_true rfl) hRl⟩ ⟨Nat.zero_le _, Nat.zero_le _⟩ 0 6 rfl rfl rfl hl.1 rfl (Nat.le_of_ble_eq_true rfl) dX7_comes_314) (fun H locs V zr70 => ?_)
                replace V : Wd D tc A s H locs (Mw tc o ad u71) := V
                exact hret (r70, u71) hj rfl V dX7_comes_317
              · replace hj := iq _ c68 hj
                refine lv_tableOut (tgt := 318) hx hb dX7_comes_81 (sw_out5 c10 c14 c24 c33 c42 c68) (by decide) ?_
                refine lv_bipush (v := 32) hx hb dX7_comes_318 (by decide) ?_
                refine lv_aload_n hx hb dX7_comes_320 rfl (lv_at hl 0 rfl) ?_
                refine x_get hx hb hts hown V inX7 0 rfl rfl 6 (by decide) tw_526 rfl rfl dX7_comes_321 ?_
                refine lv_iload_n hx hb dX7_comes_324 rfl (lv_at hl 1 rfl) ?_
                obtain ⟨i72, hj⟩ := gd_some hj
                refine x_iald hx hb V 4 rfl i72 dX7_comes_325 ?_
                refine lv_imul hx hb dX7_comes_326 ?_
                refine lv_iconst (v := 4) hx hb dX7_comes_327 (by decide) ?_
                refine lv_aload_n hx hb dX7_comes_328 rfl (lv_at hl 0 rfl) ?_
                refine x_get hx hb hts hown V inX7 0 rfl rfl 17 (by decide) tw_537 rfl rfl dX7_comes_329 ?_
                refine lv_iload hx hb dX7_comes_332 (lv_at hl 3 rfl) ?_
                obtain ⟨i73, hj⟩ := gd_some hj
                refine x_iald hx hb V 14 rfl i73 dX7_comes_334 ?_
                refine lv_imul hx hb dX7_comes_335 ?_
                refine lv_iadd hx hb dX7_comes_336 ?_
                refine lv_aload_n hx hb dX7_comes_337 rfl (lv_at hl 0 rfl) ?_
                refine x_get hx hb hts hown V inX7 0 rfl rfl 10 (by decide) tw_530 rfl rfl dX7_comes_338 ?_
                refine lv_iload hx hb dX7_comes_341 (lv_at hl 4 rfl) ?_
                obtain ⟨i74, hj⟩ := gd_some hj
                refine x_iald hx hb V 8 rfl i74 dX7_comes_343 ?_
                refine lv_iadd hx hb dX7_comes_344 ?_
                obtain ⟨x75, ex75, hj⟩ := nm_some hj
                refine x_topi ex75 ?_
                refine lv_istore (lv' := [(10, .int x75), (0, .ref o), (1, .int v1), (4, .int v4), (5, .int v5), (6, .int v6), (7, .int v7), (8, .int v8), (9, .int v9)]) hx hb dX7_comes_345 hl (by decide) rfl (fun ls hl => ?_)
                refine lv_aload_n hx hb dX7_comes_347 rfl (lv_at hl 1 rfl) ?_
                refine x_get hx hb hts hown V inX7 0 rfl rfl 17 (by decide) tw_537 rfl rfl dX7_comes_348 ?_
                refine lv_iload hx hb dX7_comes_351 (lv_at hl 4 rfl) ?_
                refine lv_aload_n hx hb dX7_comes_353 rfl (lv_at hl 1 rfl) ?_
                refine x_get hx hb hts hown V inX7 0 rfl rfl 2 (by decide) tw_522 rfl rfl dX7_comes_354 ?_
                refine lv_iload hx hb dX7_comes_357 (lv_at hl 0 rfl) ?_
                obtain ⟨i76, hj⟩ := gd_some hj
                refine x_iald hx hb V 2 rfl i76 dX7_comes_359 ?_
                obtain ⟨i77, hj⟩ := gd_some hj
                obtain ⟨u78, eu78, hj⟩ := nm_some hj
                refine x_iast hx hb V 14 rfl i77 dX7_comes_360 (fun H locs V => ?_)
                replace V : Wd D tc A s H locs (Mw tc o ad u78) := by rw [eu78]; exact V
                refine lv_aload_n hx hb dX7_comes_361 rfl (lv_at hl 1 rfl) ?_
                refine x_get hx hb hts hown V inX7 0 rfl rfl 1 (by decide) tw_521 rfl rfl dX7_comes_362 ?_
                refine lv_iload hx hb dX7_comes_365 (lv_at hl 0 rfl) ?_
                obtain ⟨i79, hj⟩ := gd_some hj
                refine x_iald hx hb V 1 rfl i79 dX7_comes_367 ?_
                exact hret (u78.2.1 1 x75.toNatClampNeg, u78) hj rfl V dX7_comes_368
  · replace hj := iq _ c8 hj
    refine lv_aload_n hx hb dX7_comes_49 rfl (lv_at hl 0 rfl) ?_
    refine x_get hx hb hts hown V inX7 0 rfl rfl 17 (by decide) tw_537 rfl rfl dX7_comes_50 ?_
    refine lv_iload hx hb dX7_comes_53 (lv_at hl 3 rfl) ?_
    refine lv_iload hx hb dX7_comes_55 (lv_at hl 7 rfl) ?_
    refine lv_iadd hx hb dX7_comes_57 ?_
    refine lv_aload_n hx hb dX7_comes_58 rfl (lv_at hl 0 rfl) ?_
    refine x_get hx hb hts hown V inX7 0 rfl rfl 17 (by decide) tw_537 rfl rfl dX7_comes_59 ?_
    refine lv_iload hx hb dX7_comes_62 (lv_at hl 2 rfl) ?_
    refine lv_iload hx hb dX7_comes_64 (lv_at hl 7 rfl) ?_
    refine lv_iadd hx hb dX7_comes_66 ?_
    obtain ⟨i80, hj⟩ := gd_some hj
    refine x_iald hx hb V 14 rfl i80 dX7_comes_67 ?_
    obtain ⟨i81, hj⟩ := gd_some hj
    obtain ⟨u82, eu82, hj⟩ := nm_some hj
    refine x_iast hx hb V 14 rfl i81 dX7_comes_68 (fun H locs V => ?_)
    replace V : Wd D tc A s H locs (Mw tc o ad u82) := by rw [eu82]; exact V
    obtain ⟨x83, ex83, hj⟩ := nm_some hj
    refine lv_iinc (v := x83) (lv' := [(9, .int x83), (0, .ref o), (1, .int v1), (4, .int v4), (5, .int v5), (6, .int v6), (7, .int v7), (8, .int v8)]) hx hb dX7_comes_69 hl (k := 7) rfl (by rw [ex83]; rfl) (by decide) rfl (fun ls hl => ?_)
    refine lv_goto (tgt := 42) hx hb dX7_comes_72 (by decide) ?_
    exact hk_42 u82 v1 v4 v5 v6 v7 v8 x83 hj _ _ _ V (lv_sub hl [1, 2, 3, 4, 5, 6, 7, 0] rfl)
def j_X7_comes_42  : Nat → St → Int32 → Int32 → Int32 → Int32 → Int32 → Int32 → Int32 → Option (Int32 × St)
  | 0 => fun _ _ _ _ _ _ _ _ => none
  | n + 1 => q_X7_comes_42  (j_X7_comes_42  n)
theorem lp_X7_comes_42 {p : Program} {l : Launch} {e : Env} {R : Room} {s : State} {m : MethodId} {args : Array Value} {below : List Frame} {meth : Method} {c : Code} {A : Nat → Prop} {Q : State → Prop} {D : va_G} {tc : Nat → ClassId} (o : Nat) (ad : Nat → Nat) (hRf : 1 ≤ R.frames) (hRl : 27 ≤ R.locals) (C : Cx p s m args meth c cX7_comes 11 RX7 (some .int)) {x0 : Int32 × St} (hret : RetI p l e R s m args below meth c Q cX7_comes D tc A .int (some x0) (fun x : Int32 × St => x.1) (fun x : Int32 × St => Mw tc o ad x.2))  : ∀ (n : Nat), ∀ (u : St) (v1 : Int32) (v4 : Int32) (v5 : Int32) (v6 : Int32) (v7 : Int32) (v8 : Int32) (v9 : Int32), j_X7_comes_42  n u v1 v4 v5 v6 v7 v8 v9 = some x0 → ∀ (H : Heap) (locs : List Loc) (ls : Array Slot), Wd D tc A s H locs (Mw tc o ad u) → lv_has ls 11 [(0, .ref o), (1, .int v1), (4, .int v4), (5, .int v5), (6, .int v6), (7, .int v7), (8, .int v8), (9, .int v9)] → W p l e R s m args below meth c H locs 0 0 Q (F0 m 42 ls []) := by
  intro n
  induction n with
  | zero =>
    intro u v1 v4 v5 v6 v7 v8 v9 hj
    have hj : (none : Option (Int32 × St)) = some x0 := hj
    cases hj
  | succ n ih =>
    intro u v1 v4 v5 v6 v7 v8 v9 hj
    exact b_X7_comes_42 o ad hRf hRl C hret   (j_X7_comes_42  n) ih u v1 v4 v5 v6 v7 v8 v9 hj
def j_X7_comes (u : St) (v1 : Int32) (v2 : Int32) (v3 : Int32) : Option (Int32 × St) :=
  nm ((12 : Int32) * v3) (fun x1 => nm (x1 + (12 : Int32)) (fun x2 => nm (((10 : Int32) * v1) + v2) (fun x3 => gd x3 120 (nm (u.2.1 11 x3.toNatClampNeg) (fun x5 => gd x3 120 (nm (u.2.1 12 x3.toNatClampNeg) (fun x7 => j_X7_comes_42  100 u v1 x1 x2 x3 x5 x7 (0 : Int32))))))))
set_option maxHeartbeats 4000000 in
set_option maxRecDepth 100000 in
theorem k_X7_comes (l : Launch) (D : va_G) (tc : Nat → ClassId) (o : Nat) (ad : Nat → Nat) (u : St) (v1 : Int32) (v2 : Int32) (v3 : Int32) {x0 : Int32 × St} (hj : j_X7_comes u v1 v2 v3 = some x0) : MetD l D tc yX7_comes cX7_comes 11 (some .int) 1 27 [.ref o, .int v1, .int v2, .int v3] (Mw tc o ad u) (some (.int x0.1)) (Mw tc o ad x0.2) :=
  x_entI (fun x : Int32 × St => x.1) (fun x : Int32 × St => Mw tc o ad x.2) (by decide) (own := RX7) rfl (Nat.le_of_ble_eq_true rfl) (fun p e s m args below meth c A Q ls C V hl hret => by
  obtain ⟨hx, hb, hr, hml, hown, hts, hlk, hN⟩ := id C
  have hRf : 1 ≤ (rmz 1 0 0 27).frames := Nat.le_refl _
  have hRl : 27 ≤ (rmz 1 0 0 27).locals := Nat.le_refl _
  generalize (rmz 1 0 0 27) = R at hret hRf hRl ⊢
  generalize s.heap = H at V ⊢
  generalize ([] : List Loc) = locs at V ⊢
  have hl : lv_has ls 11 [(0, .ref o), (1, .int v1), (2, .int v2), (3, .int v3)] := hl
  unfold j_X7_comes at hj
  refine lv_bipush (v := 12) hx hb dX7_comes_0 (by decide) ?_
  refine lv_iload_n hx hb dX7_comes_2 rfl (lv_at hl 3 rfl) ?_
  refine lv_imul hx hb dX7_comes_3 ?_
  obtain ⟨x1, ex1, hj⟩ := nm_some hj
  refine x_topi ex1 ?_
  refine lv_istore (lv' := [(4, .int x1), (0, .ref o), (1, .int v1), (2, .int v2), (3, .int v3)]) hx hb dX7_comes_4 hl (by decide) rfl (fun ls hl => ?_)
  refine lv_iload hx hb dX7_comes_6 (lv_at hl 0 rfl) ?_
  refine lv_bipush (v := 12) hx hb dX7_comes_8 (by decide) ?_
  refine lv_iadd hx hb dX7_comes_10 ?_
  obtain ⟨x2, ex2, hj⟩ := nm_some hj
  refine x_topi ex2 ?_
  refine lv_istore (lv' := [(5, .int x2), (4, .int x1), (0, .ref o), (1, .int v1), (2, .int v2), (3, .int v3)]) hx hb dX7_comes_11 hl (by decide) rfl (fun ls hl => ?_)
  refine lv_bipush (v := 10) hx hb dX7_comes_13 (by decide) ?_
  refine lv_iload_n hx hb dX7_comes_15 rfl (lv_at hl 3 rfl) ?_
  refine lv_imul hx hb dX7_comes_16 ?_
  refine lv_iload_n hx hb dX7_comes_17 rfl (lv_at hl 4 rfl) ?_
  refine lv_iadd hx hb dX7_comes_18 ?_
  obtain ⟨x3, ex3, hj⟩ := nm_some hj
  refine x_topi ex3 ?_
  refine lv_istore (lv' := [(6, .int x3), (5, .int x2), (4, .int x1), (0, .ref o), (1, .int v1), (2, .int v2), (3, .int v3)]) hx hb dX7_comes_19 hl (by decide) rfl (fun ls hl => ?_)
  refine lv_aload_n hx hb dX7_comes_21 rfl (lv_at hl 3 rfl) ?_
  refine x_get hx hb hts hown V inX7 0 rfl rfl 11 (by decide) tw_531 rfl rfl dX7_comes_22 ?_
  refine lv_iload hx hb dX7_comes_25 (lv_at hl 0 rfl) ?_
  obtain ⟨i4, hj⟩ := gd_some hj
  refine x_iald hx hb V 9 rfl i4 dX7_comes_27 ?_
  obtain ⟨x5, ex5, hj⟩ := nm_some hj
  refine x_topi ex5 ?_
  refine lv_istore (lv' := [(7, .int x5), (6, .int x3), (5, .int x2), (4, .int x1), (0, .ref o), (1, .int v1), (2, .int v2), (3, .int v3)]) hx hb dX7_comes_28 hl (by decide) rfl (fun ls hl => ?_)
  refine lv_aload_n hx hb dX7_comes_30 rfl (lv_at hl 4 rfl) ?_
  refine x_get hx hb hts hown V inX7 0 rfl rfl 12 (by decide) tw_532 rfl rfl dX7_comes_31 ?_
  refine lv_iload hx hb dX7_comes_34 (lv_at hl 1 rfl) ?_
  obtain ⟨i6, hj⟩ := gd_some hj
  refine x_iald hx hb V 10 rfl i6 dX7_comes_36 ?_
  obtain ⟨x7, ex7, hj⟩ := nm_some hj
  refine x_topi ex7 ?_
  refine lv_istore (lv' := [(8, .int x7), (7, .int x5), (6, .int x3), (5, .int x2), (4, .int x1), (0, .ref o), (1, .int v1), (2, .int v2), (3, .int v3)]) hx hb dX7_comes_37 hl (by decide) rfl (fun ls hl => ?_)
  refine lv_iconst (v := 0) hx hb dX7_comes_39 (by decide) ?_
  refine lv_istore (lv' := [(9, .int (0 : Int32)), (8, .int x7), (7, .int x5), (6, .int x3), (5, .int x2), (4, .int x1), (0, .ref o), (1, .int v1), (2, .int v2), (3, .int v3)]) hx hb dX7_comes_40 hl (by decide) rfl (fun ls hl => ?_)
  exact lp_X7_comes_42 o ad hRf hRl C hret   100 u v1 x1 x2 x3 x5 x7 (0 : Int32) hj _ _ _ V (lv_sub hl [6, 7, 5, 4, 3, 2, 1, 0] rfl))

def q_X7_prepare_25 (k_3 : St → Int32 → Int32 → Int32 → Int32 → Option (St)) (k_25 : St → Int32 → Int32 → Int32 → Int32 → Int32 → Option (St)) (u : St) (v1 : Int32) (v2 : Int32) (v3 : Int32) (v4 : Int32) (v5 : Int32) : Option (St) :=
  gd v1 12 (if (u.2.1 7 v1.toNatClampNeg) ≤ v5 then nm (v4 + 1) (fun x9 => k_3 u v1 v2 v3 x9) else if ((v3 >>> (v5 &&& 31)) &&& (1 : Int32)) = (1 : Int32) then (j_X7_isAhead u v1 v2 v3 v5 v4).bind (fun r12 => if r12 = (0 : Int32) then nm (v5 + 1) (fun x14 => k_25 u v1 v2 v3 v4 x14) else gd v4 10 (gd v4 10 (nm (sA u 20 v4.toNatClampNeg ((u.2.1 20 v4.toNatClampNeg) ||| ((1 : Int32) <<< (v5 &&& 31)))) (fun u17 => nm (v5 + 1) (fun x18 => k_25 u17 v1 v2 v3 v4 x18))))) else nm (v5 + 1) (fun x11 => k_25 u v1 v2 v3 v4 x11))
set_option maxHeartbeats 4000000 in
set_option maxRecDepth 100000 in
theorem b_X7_prepare_25 {p : Program} {l : Launch} {e : Env} {R : Room} {s : State} {m : MethodId} {args : Array Value} {below : List Frame} {meth : Method} {c : Code} {A : Nat → Prop} {Q : State → Prop} {D : va_G} {tc : Nat → ClassId} (o : Nat) (ad : Nat → Nat) (hRf : 2 ≤ R.frames) (hRl : 53 ≤ R.locals) (C : Cx p s m args meth c cX7_prepare 6 RX7 none) {x0 : St} (hret : RetV p l e R s m args below meth c Q cX7_prepare D tc A (some x0) (fun x : St => Mw tc o ad x)) (k_3 : St → Int32 → Int32 → Int32 → Int32 → Option (St)) (hk_3 : ∀ (u : St) (v1 : Int32) (v2 : Int32) (v3 : Int32) (v4 : Int32), k_3 u v1 v2 v3 v4 = some x0 → ∀ (H : Heap) (locs : List Loc) (ls : Array Slot), Wd D tc A s H locs (Mw tc o ad u) → lv_has ls 6 [(0, .ref o), (1, .int v1), (2, .int v2), (3, .int v3), (4, .int v4)] → W p l e R s m args below meth c H locs 0 0 Q (F0 m 3 ls [])) (k_25 : St → Int32 → Int32 → Int32 → Int32 → Int32 → Option (St)) (hk_25 : ∀ (u : St) (v1 : Int32) (v2 : Int32) (v3 : Int32) (v4 : Int32) (v5 : Int32), k_25 u v1 v2 v3 v4 v5 = some x0 → ∀ (H : Heap) (locs : List Loc) (ls : Array Slot), Wd D tc A s H locs (Mw tc o ad u) → lv_has ls 6 [(0, .ref o), (1, .int v1), (2, .int v2), (3, .int v3), (4, .int v4), (5, .int v5)] → W p l e R s m args below meth c H locs 0 0 Q (F0 m 25 ls [])) : ∀ (u : St) (v1 : Int32) (v2 : Int32) (v3 : Int32) (v4 : Int32) (v5 : Int32), q_X7_prepare_25 k_3 k_25 u v1 v2 v3 v4 v5 = some x0 → ∀ (H : Heap) (locs : List Loc) (ls : Array Slot), Wd D tc A s H locs (Mw tc o ad u) → lv_has ls 6 [(0, .ref o), (1, .int v1), (2, .int v2), (3, .int v3), (4, .int v4), (5, .int v5)] → W p l e R s m args below meth c H locs 0 0 Q (F0 m 25 ls []) := by
  obtain ⟨hx, hb, hr, hml, hown, hts, hlk, hN⟩ := id C
  intro u v1 v2 v3 v4 v5 hj H locs ls V hl
  unfold q_X7_prepare_25 at hj
  refine lv_iload hx hb dX7_prepare_25 (lv_at hl 5 rfl) ?_
  refine lv_aload_n hx hb dX7_prepare_27 rfl (lv_at hl 0 rfl) ?_
  refine x_get hx hb hts hown V inX7 0 rfl rfl 7 (by decide) tw_527 rfl rfl dX7_prepare_28 ?_
  refine lv_iload_n hx hb dX7_prepare_31 rfl (lv_at hl 1 rfl) ?_
  obtain ⟨i7, hj⟩ := gd_some hj
  refine x_iald hx hb V 5 rfl i7 dX7_prepare_32 ?_
  refine lv_icmp_ge (tgt := 80) hx hb dX7_prepare_33 (by decide) (fun c8 => ?_) (fun c8 => ?_)
  · replace hj := ip _ c8 hj
    obtain ⟨x9, ex9, hj⟩ := nm_some hj
    refine lv_iinc (v := x9) (lv' := [(4, .int x9), (0, .ref o), (1, .int v1), (2, .int v2), (3, .int v3), (5, .int v5)]) hx hb dX7_prepare_80 hl (k := 4) rfl (by rw [ex9]; rfl) (by decide) rfl (fun ls hl => ?_)
    refine lv_goto (tgt := 3) hx hb dX7_prepare_83 (by decide) ?_
    exact hk_3 u v1 v2 v3 x9 hj _ _ _ V (lv_sub hl [1, 2, 3, 4, 0] rfl)
  · replace hj := iq _ c8 hj
    refine lv_iload_n hx hb dX7_prepare_36 rfl (lv_at hl 3 rfl) ?_
    refine lv_iload hx hb dX7_prepare_37 (lv_at hl 5 rfl) ?_
    refine lv_ishr hx hb dX7_prepare_39 ?_
    refine lv_iconst (v := 1) hx hb dX7_prepare_40 (by decide) ?_
    refine lv_iand hx hb dX7_prepare_41 ?_
    refine lv_iconst (v := 1) hx hb dX7_prepare_42 (by decide) ?_
    refine lv_icmp_ne (tgt := 74) hx hb dX7_prepare_43 (by decide) (fun c10 => ?_) (fun c10 => ?_)
    · replace hj := iq _ c10 hj
      obtain ⟨x11, ex11, hj⟩ := nm_some hj
      refine lv_iinc (v := x11) (lv' := [(5, .int x11), (0, .ref o), (1, .int v1), (2, .int v2), (3, .int v3), (4, .int v4)]) hx hb dX7_prepare_74 hl (k := 5) rfl (by rw [ex11]; rfl) (by decide) rfl (fun ls hl => ?_)
      refine lv_goto (tgt := 25) hx hb dX7_prepare_77 (by decide) ?_
      exact hk_25 u v1 v2 v3 v4 x11 hj _ _ _ V (lv_sub hl [1, 2, 3, 4, 5, 0] rfl)
    · replace hj := ip _ c10 hj
      refine lv_aload_n hx hb dX7_prepare_46 rfl (lv_at hl 0 rfl) ?_
      refine lv_iload_n hx hb dX7_prepare_47 rfl (lv_at hl 1 rfl) ?_
      refine lv_iload_n hx hb dX7_prepare_48 rfl (lv_at hl 2 rfl) ?_
      refine lv_iload_n hx hb dX7_prepare_49 rfl (lv_at hl 3 rfl) ?_
      refine lv_iload hx hb dX7_prepare_50 (lv_at hl 5 rfl) ?_
      refine lv_iload hx hb dX7_prepare_52 (lv_at hl 4 rfl) ?_
      obtain ⟨r12, hr12, hj⟩ := bd_some hj
      refine x_allI V _ (rg_map _) (x_runV (n := 5) (rest := []) C V _ (rg_map _) (rg_nd _) (k_X7_isAhead l D tc o ad u v1 v2 v3 v5 v4 hr12) tw_684 tw_686 tp_14 tw_6 tw_687 (by decide +kernel) ⟨Nat.le_trans (Nat.le_of_ble_eq_true rfl) hRf, Nat.le_trans (Nat.le_of_ble_eq_true rfl) hRl⟩ ⟨Nat.zero_le _, Nat.zero_le _⟩ 0 6 rfl rfl rfl hl.1 rfl (Nat.le_of_ble_eq_true rfl) dX7_prepare_54) (fun H locs V zr12 => ?_)
      replace V : Wd D tc A s H locs (Mw tc o ad u) := V
      refine lv_if_eq (tgt := 74) hx hb dX7_prepare_57 (by decide) (fun c13 => ?_) (fun c13 => ?_)
      · replace hj := ip _ c13 hj
        obtain ⟨x14, ex14, hj⟩ := nm_some hj
        refine lv_iinc (v := x14) (lv' := [(5, .int x14), (0, .ref o), (1, .int v1), (2, .int v2), (3, .int v3), (4, .int v4)]) hx hb dX7_prepare_74 hl (k := 5) rfl (by rw [ex14]; rfl) (by decide) rfl (fun ls hl => ?_)
        refine lv_goto (tgt := 25) hx hb dX7_prepare_77 (by decide) ?_
        exact hk_25 u v1 v2 v3 v4 x14 hj _ _ _ V (lv_sub hl [1, 2, 3, 4, 5, 0] rfl)
      · replace hj := iq _ c13 hj
        refine lv_aload_n hx hb dX7_prepare_60 rfl (lv_at hl 0 rfl) ?_
        refine x_get hx hb hts hown V inX7 0 rfl rfl 20 (by decide) tw_540 rfl rfl dX7_prepare_61 ?_
        refine lv_iload hx hb dX7_prepare_64 (lv_at hl 4 rfl) ?_
        refine lv_dup2_11 hx hb dX7_prepare_66 rfl rfl ?_
        obtain ⟨i15, hj⟩ := gd_some hj
        refine x_iald hx hb V 17 rfl i15 dX7_prepare_67 ?_
        refine lv_iconst (v := 1) hx hb dX7_prepare_68 (by decide) ?_
        refine lv_iload hx hb dX7_prepare_69 (lv_at hl 5 rfl) ?_
        refine lv_ishl hx hb dX7_prepare_71 ?_
        refine lv_ior hx hb dX7_prepare_72 ?_
        obtain ⟨i16, hj⟩ := gd_some hj
        obtain ⟨u17, eu17, hj⟩ := nm_some hj
        refine x_iast hx hb V 17 rfl i16 dX7_prepare_73 (fun H locs V => ?_)
        replace V : Wd D tc A s H locs (Mw tc o ad u17) := by rw [eu17]; exact V
        obtain ⟨x18, ex18, hj⟩ := nm_some hj
        refine lv_iinc (v := x18) (lv' := [(5, .int x18), (0, .ref o), (1, .int v1), (2, .int v2), (3, .int v3), (4, .int v4)]) hx hb dX7_prepare_74 hl (k := 5) rfl (by rw [ex18]; rfl) (by decide) rfl (fun ls hl => ?_)
        refine lv_goto (tgt := 25) hx hb dX7_prepare_77 (by decide) ?_
        exact hk_25 u17 v1 v2 v3 v4 x18 hj _ _ _ V (lv_sub hl [1, 2, 3, 4, 5, 0] rfl)
def j_X7_prepare_25 (k_3 : St → Int32 → Int32 → Int32 → Int32 → Option (St)) : Nat → St → Int32 → Int32 → Int32 → Int32 → Int32 → Option (St)
  | 0 => fun _ _ _ _ _ _ => none
  | n + 1 => q_X7_prepare_25 k_3 (j_X7_prepare_25 k_3 n)
theorem lp_X7_prepare_25 {p : Program} {l : Launch} {e : Env} {R : Room} {s : State} {m : MethodId} {args : Array Value} {below : List Frame} {meth : Method} {c : Code} {A : Nat → Prop} {Q : State → Prop} {D : va_G} {tc : Nat → ClassId} (o : Nat) (ad : Nat → Nat) (hRf : 2 ≤ R.frames) (hRl : 53 ≤ R.locals) (C : Cx p s m args meth c cX7_prepare 6 RX7 none) {x0 : St} (hret : RetV p l e R s m args below meth c Q cX7_prepare D tc A (some x0) (fun x : St => Mw tc o ad x)) (k_3 : St → Int32 → Int32 → Int32 → Int32 → Option (St)) (hk_3 : ∀ (u : St) (v1 : Int32) (v2 : Int32) (v3 : Int32) (v4 : Int32), k_3 u v1 v2 v3 v4 = some x0 → ∀ (H : Heap) (locs : List Loc) (ls : Array Slot), Wd D tc A s H locs (Mw tc o ad u) → lv_has ls 6 [(0, .ref o), (1, .int v1), (2, .int v2), (3, .int v3), (4, .int v4)] → W p l e R s m args below meth c H locs 0 0 Q (F0 m 3 ls [])) : ∀ (n : Nat), ∀ (u : St) (v1 : Int32) (v2 : Int32) (v3 : Int32) (v4 : Int32) (v5 : Int32), j_X7_prepare_25 k_3 n u v1 v2 v3 v4 v5 = some x0 → ∀ (H : Heap) (locs : List Loc) (ls : Array Slot), Wd D tc A s H locs (Mw tc o ad u) → lv_has ls 6 [(0, .ref o), (1, .int v1), (2, .int v2), (3, .int v3), (4, .int v4), (5, .int v5)] → W p l e R s m args below meth c H locs 0 0 Q (F0 m 25 ls []) := by
  intro n
  induction n with
  | zero =>
    intro u v1 v2 v3 v4 v5 hj
    have hj : (none : Option (St)) = some x0 := hj
    cases hj
  | succ n ih =>
    intro u v1 v2 v3 v4 v5 hj
    exact b_X7_prepare_25 o ad hRf hRl C hret  k_3 hk_3 (j_X7_prepare_25 k_3 n) ih u v1 v2 v3 v4 v5 hj
def q_X7_prepare_3 (k_3 : St → Int32 → Int32 → Int32 → Int32 → Option (St)) (u : St) (v1 : Int32) (v2 : Int32) (v3 : Int32) (v4 : Int32) : Option (St) :=
  gd v1 12 (if (u.2.1 7 v1.toNatClampNeg) ≤ v4 then (j_X7_begins u).bind (fun u4 => some u4) else gd v4 10 (nm (sA u 20 v4.toNatClampNeg (0 : Int32)) (fun u6 => j_X7_prepare_25 k_3 100 u6 v1 v2 v3 v4 (0 : Int32))))
set_option maxHeartbeats 4000000 in
set_option maxRecDepth 100000 in
theorem b_X7_prepare_3 {p : Program} {l : Launch} {e : Env} {R : Room} {s : State} {m : MethodId} {args : Array Value} {below : List Frame} {meth : Method} {c : Code} {A : Nat → Prop} {Q : State → Prop} {D : va_G} {tc : Nat → ClassId} (o : Nat) (ad : Nat → Nat) (hRf : 2 ≤ R.frames) (hRl : 53 ≤ R.locals) (C : Cx p s m args meth c cX7_prepare 6 RX7 none) {x0 : St} (hret : RetV p l e R s m args below meth c Q cX7_prepare D tc A (some x0) (fun x : St => Mw tc o ad x)) (k_3 : St → Int32 → Int32 → Int32 → Int32 → Option (St)) (hk_3 : ∀ (u : St) (v1 : Int32) (v2 : Int32) (v3 : Int32) (v4 : Int32), k_3 u v1 v2 v3 v4 = some x0 → ∀ (H : Heap) (locs : List Loc) (ls : Array Slot), Wd D tc A s H locs (Mw tc o ad u) → lv_has ls 6 [(0, .ref o), (1, .int v1), (2, .int v2), (3, .int v3), (4, .int v4)] → W p l e R s m args below meth c H locs 0 0 Q (F0 m 3 ls [])) : ∀ (u : St) (v1 : Int32) (v2 : Int32) (v3 : Int32) (v4 : Int32), q_X7_prepare_3 k_3 u v1 v2 v3 v4 = some x0 → ∀ (H : Heap) (locs : List Loc) (ls : Array Slot), Wd D tc A s H locs (Mw tc o ad u) → lv_has ls 6 [(0, .ref o), (1, .int v1), (2, .int v2), (3, .int v3), (4, .int v4)] → W p l e R s m args below meth c H locs 0 0 Q (F0 m 3 ls []) := by
  obtain ⟨hx, hb, hr, hml, hown, hts, hlk, hN⟩ := id C
  intro u v1 v2 v3 v4 hj H locs ls V hl
  unfold q_X7_prepare_3 at hj
  refine lv_iload hx hb dX7_prepare_3 (lv_at hl 4 rfl) ?_
  refine lv_aload_n hx hb dX7_prepare_5 rfl (lv_at hl 0 rfl) ?_
  refine x_get hx hb hts hown V inX7 0 rfl rfl 7 (by decide) tw_527 rfl rfl dX7_prepare_6 ?_
  refine lv_iload_n hx hb dX7_prepare_9 rfl (lv_at hl 1 rfl) ?_
  obtain ⟨i1, hj⟩ := gd_some hj
  refine x_iald hx hb V 5 rfl i1 dX7_prepare_10 ?_
  refine lv_icmp_ge (tgt := 86) hx hb dX7_prepare_11 (by decide) (fun c2 => ?_) (fun c2 => ?_)
  · replace hj := ip _ c2 hj
    refine lv_aload_n hx hb dX7_prepare_86 rfl (lv_at hl 0 rfl) ?_
    obtain ⟨u4, hr3, hj⟩ := bd_some hj
    refine x_allV V _ (rg_map _) (x_runV (n := 0) (rest := []) C V _ (rg_map _) (rg_nd _) (k_X7_begins l D tc o ad u hr3) tw_704 tw_706 tp_18 tw_6 tw_707 (by decide +kernel) ⟨Nat.le_trans (Nat.le_of_ble_eq_true rfl) hRf, Nat.le_trans (Nat.le_of_ble_eq_true rfl) hRl⟩ ⟨Nat.zero_le _, Nat.zero_le _⟩ 0 6 rfl rfl rfl hl.1 rfl (Nat.le_of_ble_eq_true rfl) dX7_prepare_87) (fun H locs V => ?_)
    replace V : Wd D tc A s H locs (Mw tc o ad u4) := V
    exact hret u4 hj V dX7_prepare_90
  · replace hj := iq _ c2 hj
    refine lv_aload_n hx hb dX7_prepare_14 rfl (lv_at hl 0 rfl) ?_
    refine x_get hx hb hts hown V inX7 0 rfl rfl 20 (by decide) tw_540 rfl rfl dX7_prepare_15 ?_
    refine lv_iload hx hb dX7_prepare_18 (lv_at hl 4 rfl) ?_
    refine lv_iconst (v := 0) hx hb dX7_prepare_20 (by decide) ?_
    obtain ⟨i5, hj⟩ := gd_some hj
    obtain ⟨u6, eu6, hj⟩ := nm_some hj
    refine x_iast hx hb V 17 rfl i5 dX7_prepare_21 (fun H locs V => ?_)
    replace V : Wd D tc A s H locs (Mw tc o ad u6) := by rw [eu6]; exact V
    refine lv_iconst (v := 0) hx hb dX7_prepare_22 (by decide) ?_
    refine lv_istore (lv' := [(5, .int (0 : Int32)), (0, .ref o), (1, .int v1), (2, .int v2), (3, .int v3), (4, .int v4)]) hx hb dX7_prepare_23 hl (by decide) rfl (fun ls hl => ?_)
    exact lp_X7_prepare_25 o ad hRf hRl C hret  k_3 hk_3 100 u6 v1 v2 v3 v4 (0 : Int32) hj _ _ _ V (lv_sub hl [1, 2, 3, 4, 5, 0] rfl)
def j_X7_prepare_3  : Nat → St → Int32 → Int32 → Int32 → Int32 → Option (St)
  | 0 => fun _ _ _ _ _ => none
  | n + 1 => q_X7_prepare_3  (j_X7_prepare_3  n)
theorem lp_X7_prepare_3 {p : Program} {l : Launch} {e : Env} {R : Room} {s : State} {m : MethodId} {args : Array Value} {below : List Frame} {meth : Method} {c : Code} {A : Nat → Prop} {Q : State → Prop} {D : va_G} {tc : Nat → ClassId} (o : Nat) (ad : Nat → Nat) (hRf : 2 ≤ R.frames) (hRl : 53 ≤ R.locals) (C : Cx p s m args meth c cX7_prepare 6 RX7 none) {x0 : St} (hret : RetV p l e R s m args below meth c Q cX7_prepare D tc A (some x0) (fun x : St => Mw tc o ad x))  : ∀ (n : Nat), ∀ (u : St) (v1 : Int32) (v2 : Int32) (v3 : Int32) (v4 : Int32), j_X7_prepare_3  n u v1 v2 v3 v4 = some x0 → ∀ (H : Heap) (locs : List Loc) (ls : Array Slot), Wd D tc A s H locs (Mw tc o ad u) → lv_has ls 6 [(0, .ref o), (1, .int v1), (2, .int v2), (3, .int v3), (4, .int v4)] → W p l e R s m args below meth c H locs 0 0 Q (F0 m 3 ls []) := by
  intro n
  induction n with
  | zero =>
    intro u v1 v2 v3 v4 hj
    have hj : (none : Option (St)) = some x0 := hj
    cases hj
  | succ n ih =>
    intro u v1 v2 v3 v4 hj
    exact b_X7_prepare_3 o ad hRf hRl C hret   (j_X7_prepare_3  n) ih u v1 v2 v3 v4 hj
def j_X7_prepare (u : St) (v1 : Int32) (v2 : Int32) (v3 : Int32) : Option (St) :=
  j_X7_prepare_3  100 u v1 v2 v3 (0 : Int32)
set_option maxHeartbeats 4000000 in
set_option maxRecDepth 100000 in
theorem k_X7_prepare (l : Launch) (D : va_G) (tc : Nat → ClassId) (o : Nat) (ad : Nat → Nat) (u : St) (v1 : Int32) (v2 : Int32) (v3 : Int32) {x0 : St} (hj : j_X7_prepare u v1 v2 v3 = some x0) : MetD l D tc yX7_prepare cX7_prepare 6 none 2 53 [.ref o, .int v1, .int v2, .int v3] (Mw tc o ad u) none (Mw tc o ad x0) :=
  x_entV  (fun x : St => Mw tc o ad x) (by decide) (own := RX7) rfl (Nat.le_of_ble_eq_true rfl) (fun p e s m args below meth c A Q ls C V hl hret => by
  obtain ⟨hx, hb, hr, hml, hown, hts, hlk, hN⟩ := id C
  have hRf : 2 ≤ (rmz 2 0 0 53).frames := Nat.le_refl _
  have hRl : 53 ≤ (rmz 2 0 0 53).locals := Nat.le_refl _
  generalize (rmz 2 0 0 53) = R at hret hRf hRl ⊢
  generalize s.heap = H at V ⊢
  generalize ([] : List Loc) = locs at V ⊢
  have hl : lv_has ls 6 [(0, .ref o), (1, .int v1), (2, .int v2), (3, .int v3)] := hl
  unfold j_X7_prepare at hj
  refine lv_iconst (v := 0) hx hb dX7_prepare_0 (by decide) ?_
  refine lv_istore (lv' := [(4, .int (0 : Int32)), (0, .ref o), (1, .int v1), (2, .int v2), (3, .int v3)]) hx hb dX7_prepare_1 hl (by decide) rfl (fun ls hl => ?_)
  exact lp_X7_prepare_3 o ad hRf hRl C hret   100 u v1 v2 v3 (0 : Int32) hj _ _ _ V (lv_sub hl [1, 2, 3, 4, 0] rfl))

def q_X7_answeredOf_5 (u : St) (k_5 : Int32 → Int32 → Int32 → Int32 → Option (Int32)) (v1 : Int32) (v2 : Int32) (v3 : Int32) (v4 : Int32) : Option (Int32) :=
  gd v1 12 (if (u.2.1 7 v1.toNatClampNeg) ≤ v4 then some v3 else if ((v2 >>> (v4 &&& 31)) &&& (1 : Int32)) = (1 : Int32) then (j_X7_isOpen u v1 v4).bind (fun r6 => if r6 = (0 : Int32) then nm (v3 ||| ((1 : Int32) <<< (v4 &&& 31))) (fun x10 => nm (v4 + 1) (fun x11 => k_5 v1 v2 x10 x11)) else nm (v3 ||| (0 : Int32)) (fun x8 => nm (v4 + 1) (fun x9 => k_5 v1 v2 x8 x9))) else nm (v3 ||| (0 : Int32)) (fun x4 => nm (v4 + 1) (fun x5 => k_5 v1 v2 x4 x5)))
set_option maxHeartbeats 4000000 in
set_option maxRecDepth 100000 in
theorem b_X7_answeredOf_5 {p : Program} {l : Launch} {e : Env} {R : Room} {s : State} {m : MethodId} {args : Array Value} {below : List Frame} {meth : Method} {c : Code} {A : Nat → Prop} {Q : State → Prop} {D : va_G} {tc : Nat → ClassId} (o : Nat) (ad : Nat → Nat) (u : St) (hRf : 1 ≤ R.frames) (hRl : 22 ≤ R.locals) (C : Cx p s m args meth c cX7_answeredOf 5 RX7 (some .int)) {x0 : Int32} (hret : RetI p l e R s m args below meth c Q cX7_answeredOf D tc A .int (some x0) (fun x : Int32 => x) (fun _ : Int32 => Mw tc o ad u)) (k_5 : Int32 → Int32 → Int32 → Int32 → Option (Int32)) (hk_5 : ∀ (v1 : Int32) (v2 : Int32) (v3 : Int32) (v4 : Int32), k_5 v1 v2 v3 v4 = some x0 → ∀ (H : Heap) (locs : List Loc) (ls : Array Slot), Wd D tc A s H locs (Mw tc o ad u) → lv_has ls 5 [(0, .ref o), (1, .int v1), (2, .int v2), (3, .int v3), (4, .int v4)] → W p l e R s m args below meth c H locs 0 0 Q (F0 m 5 ls [])) : ∀ (v1 : Int32) (v2 : Int32) (v3 : Int32) (v4 : Int32), q_X7_answeredOf_5 u k_5 v1 v2 v3 v4 = some x0 → ∀ (H : Heap) (locs : List Loc) (ls : Array Slot), Wd D tc A s H locs (Mw tc o ad u) → lv_has ls 5 [(0, .ref o), (1, .int v1), (2, .int v2), (3, .int v3), (4, .int v4)] → W p l e R s m args below meth c H locs 0 0 Q (F0 m 5 ls []) := by
  obtain ⟨hx, hb, hr, hml, hown, hts, hlk, hN⟩ := id C
  intro v1 v2 v3 v4 hj H locs ls V hl
  unfold q_X7_answeredOf_5 at hj
  refine lv_iload hx hb dX7_answeredOf_5 (lv_at hl 4 rfl) ?_
  refine lv_aload_n hx hb dX7_answeredOf_7 rfl (lv_at hl 0 rfl) ?_
  refine x_get hx hb hts hown V inX7 0 rfl rfl 7 (by decide) tw_527 rfl rfl dX7_answeredOf_8 ?_
  refine lv_iload_n hx hb dX7_answeredOf_11 rfl (lv_at hl 1 rfl) ?_
  obtain ⟨i1, hj⟩ := gd_some hj
  refine x_iald hx hb V 5 rfl i1 dX7_answeredOf_12 ?_
  refine lv_icmp_ge (tgt := 53) hx hb dX7_answeredOf_13 (by decide) (fun c2 => ?_) (fun c2 => ?_)
  · replace hj := ip _ c2 hj
    refine lv_iload_n hx hb dX7_answeredOf_53 rfl (lv_at hl 3 rfl) ?_
    exact hret v3 hj rfl V dX7_answeredOf_54
  · replace hj := iq _ c2 hj
    refine lv_iload_n hx hb dX7_answeredOf_16 rfl (lv_at hl 3 rfl) ?_
    refine lv_iload_n hx hb dX7_answeredOf_17 rfl (lv_at hl 2 rfl) ?_
    refine lv_iload hx hb dX7_answeredOf_18 (lv_at hl 4 rfl) ?_
    refine lv_ishr hx hb dX7_answeredOf_20 ?_
    refine lv_iconst (v := 1) hx hb dX7_answeredOf_21 (by decide) ?_
    refine lv_iand hx hb dX7_answeredOf_22 ?_
    refine lv_iconst (v := 1) hx hb dX7_answeredOf_23 (by decide) ?_
    refine lv_icmp_ne (tgt := 44) hx hb dX7_answeredOf_24 (by decide) (fun c3 => ?_) (fun c3 => ?_)
    · replace hj := iq _ c3 hj
      refine lv_iconst (v := 0) hx hb dX7_answeredOf_44 (by decide) ?_
      refine lv_ior hx hb dX7_answeredOf_45 ?_
      obtain ⟨x4, ex4, hj⟩ := nm_some hj
      refine x_topi ex4 ?_
      refine lv_istore_n (lv' := [(3, .int x4), (0, .ref o), (1, .int v1), (2, .int v2), (4, .int v4)]) hx hb dX7_answeredOf_46 rfl hl (by decide) rfl (fun ls hl => ?_)
      obtain ⟨x5, ex5, hj⟩ := nm_some hj
      refine lv_iinc (v := x5) (lv' := [(4, .int x5), (3, .int x4), (0, .ref o), (1, .int v1), (2, .int v2)]) hx hb dX7_answeredOf_47 hl (k := 4) rfl (by rw [ex5]; rfl) (by decide) rfl (fun ls hl => ?_)
      refine lv_goto (tgt := 5) hx hb dX7_answeredOf_50 (by decide) ?_
      exact hk_5 v1 v2 x4 x5 hj _ _ _ V (lv_sub hl [2, 3, 4, 1, 0] rfl)
    · replace hj := ip _ c3 hj
      refine lv_aload_n hx hb dX7_answeredOf_27 rfl (lv_at hl 0 rfl) ?_
      refine lv_iload_n hx hb dX7_answeredOf_28 rfl (lv_at hl 1 rfl) ?_
      refine lv_iload hx hb dX7_answeredOf_29 (lv_at hl 4 rfl) ?_
      obtain ⟨r6, hr6, hj⟩ := bd_some hj
      refine x_allI V _ (rg_map _) (x_runV (n := 2) (rest := [.int v3]) C V _ (rg_map _) (rg_nd _) (k_X7_isOpen l D tc o ad u v1 v4 hr6) tw_641 tw_643 tp_11 tw_6 tw_644 (by decide +kernel) ⟨Nat.le_trans (Nat.le_of_ble_eq_true rfl) hRf, Nat.le_trans (Nat.le_of_ble_eq_true rfl) hRl⟩ ⟨Nat.zero_le _, Nat.zero_le _⟩ 0 6 rfl rfl rfl hl.1 rfl (Nat.le_of_ble_eq_true rfl) dX7_answeredOf_31) (fun H locs V zr6 => ?_)
      replace V : Wd D tc A s H locs (Mw tc o ad u) := V
      refine lv_if_ne (tgt := 44) hx hb dX7_answeredOf_34 (by decide) (fun c7 => ?_) (fun c7 => ?_)
      · replace hj := iq _ c7 hj
        refine lv_iconst (v := 0) hx hb dX7_answeredOf_44 (by decide) ?_
        refine lv_ior hx hb dX7_answeredOf_45 ?_
        obtain ⟨x8, ex8, hj⟩ := nm_some hj
        refine x_topi ex8 ?_
        refine lv_istore_n (lv' := [(3, .int x8), (0, .ref o), (1, .int v1), (2, .int v2), (4, .int v4)]) hx hb dX7_answeredOf_46 rfl hl (by decide) rfl (fun ls hl => ?_)
        obtain ⟨x9, ex9, hj⟩ := nm_some hj
        refine lv_iinc (v := x9) (lv' := [(4, .int x9), (3, .int x8), (0, .ref o), (1, .int v1), (2, .int v2)]) hx hb dX7_answeredOf_47 hl (k := 4) rfl (by rw [ex9]; rfl) (by decide) rfl (fun ls hl => ?_)
        refine lv_goto (tgt := 5) hx hb dX7_answeredOf_50 (by decide) ?_
        exact hk_5 v1 v2 x8 x9 hj _ _ _ V (lv_sub hl [2, 3, 4, 1, 0] rfl)
      · replace hj := ip _ c7 hj
        refine lv_iconst (v := 1) hx hb dX7_answeredOf_37 (by decide) ?_
        refine lv_iload hx hb dX7_answeredOf_38 (lv_at hl 4 rfl) ?_
        refine lv_ishl hx hb dX7_answeredOf_40 ?_
        refine lv_goto (tgt := 45) hx hb dX7_answeredOf_41 (by decide) ?_
        refine lv_ior hx hb dX7_answeredOf_45 ?_
        obtain ⟨x10, ex10, hj⟩ := nm_some hj
        refine x_topi ex10 ?_
        refine lv_istore_n (lv' := [(3, .int x10), (0, .ref o), (1, .int v1), (2, .int v2), (4, .int v4)]) hx hb dX7_answeredOf_46 rfl hl (by decide) rfl (fun ls hl => ?_)
        obtain ⟨x11, ex11, hj⟩ := nm_some hj
        refine lv_iinc (v := x11) (lv' := [(4, .int x11), (3, .int x10), (0, .ref o), (1, .int v1), (2, .int v2)]) hx hb dX7_answeredOf_47 hl (k := 4) rfl (by rw [ex11]; rfl) (by decide) rfl (fun ls hl => ?_)
        refine lv_goto (tgt := 5) hx hb dX7_answeredOf_50 (by decide) ?_
        exact hk_5 v1 v2 x10 x11 hj _ _ _ V (lv_sub hl [2, 3, 4, 1, 0] rfl)
def j_X7_answeredOf_5 (u : St) : Nat → Int32 → Int32 → Int32 → Int32 → Option (Int32)
  | 0 => fun _ _ _ _ => none
  | n + 1 => q_X7_answeredOf_5 u (j_X7_answeredOf_5 u n)
theorem lp_X7_answeredOf_5 {p : Program} {l : Launch} {e : Env} {R : Room} {s : State} {m : MethodId} {args : Array Value} {below : List Frame} {meth : Method} {c : Code} {A : Nat → Prop} {Q : State → Prop} {D : va_G} {tc : Nat → ClassId} (o : Nat) (ad : Nat → Nat) (u : St) (hRf : 1 ≤ R.frames) (hRl : 22 ≤ R.locals) (C : Cx p s m args meth c cX7_answeredOf 5 RX7 (some .int)) {x0 : Int32} (hret : RetI p l e R s m args below meth c Q cX7_answeredOf D tc A .int (some x0) (fun x : Int32 => x) (fun _ : Int32 => Mw tc o ad u))  : ∀ (n : Nat), ∀ (v1 : Int32) (v2 : Int32) (v3 : Int32) (v4 : Int32), j_X7_answeredOf_5 u n v1 v2 v3 v4 = some x0 → ∀ (H : Heap) (locs : List Loc) (ls : Array Slot), Wd D tc A s H locs (Mw tc o ad u) → lv_has ls 5 [(0, .ref o), (1, .int v1), (2, .int v2), (3, .int v3), (4, .int v4)] → W p l e R s m args below meth c H locs 0 0 Q (F0 m 5 ls []) := by
  intro n
  induction n with
  | zero =>
    intro v1 v2 v3 v4 hj
    have hj : (none : Option (Int32)) = some x0 := hj
    cases hj
  | succ n ih =>
    intro v1 v2 v3 v4 hj
    exact b_X7_answeredOf_5 o ad u hRf hRl C hret   (j_X7_answeredOf_5 u n) ih v1 v2 v3 v4 hj
def j_X7_answeredOf (u : St) (v1 : Int32) (v2 : Int32) : Option (Int32) :=
  j_X7_answeredOf_5 u 100 v1 v2 (0 : Int32) (0 : Int32)
set_option maxHeartbeats 4000000 in
set_option maxRecDepth 100000 in
theorem k_X7_answeredOf (l : Launch) (D : va_G) (tc : Nat → ClassId) (o : Nat) (ad : Nat → Nat) (u : St) (v1 : Int32) (v2 : Int32) {x0 : Int32} (hj : j_X7_answeredOf u v1 v2 = some x0) : MetD l D tc yX7_answeredOf cX7_answeredOf 5 (some .int) 1 22 [.ref o, .int v1, .int v2] (Mw tc o ad u) (some (.int x0)) (Mw tc o ad u) :=
  x_entI (fun x : Int32 => x) (fun _ : Int32 => Mw tc o ad u) (by decide) (own := RX7) rfl (Nat.le_of_ble_eq_true rfl) (fun p e s m args below meth c A Q ls C V hl hret => by
  obtain ⟨hx, hb, hr, hml, hown, hts, hlk, hN⟩ := id C
  have hRf : 1 ≤ (rmz 1 0 0 22).frames := Nat.le_refl _
  have hRl : 22 ≤ (rmz 1 0 0 22).locals := Nat.le_refl _
  generalize (rmz 1 0 0 22) = R at hret hRf hRl ⊢
  generalize s.heap = H at V ⊢
  generalize ([] : List Loc) = locs at V ⊢
  have hl : lv_has ls 5 [(0, .ref o), (1, .int v1), (2, .int v2)] := hl
  unfold j_X7_answeredOf at hj
  refine lv_iconst (v := 0) hx hb dX7_answeredOf_0 (by decide) ?_
  refine lv_istore_n (lv' := [(3, .int (0 : Int32)), (0, .ref o), (1, .int v1), (2, .int v2)]) hx hb dX7_answeredOf_1 rfl hl (by decide) rfl (fun ls hl => ?_)
  refine lv_iconst (v := 0) hx hb dX7_answeredOf_2 (by decide) ?_
  refine lv_istore (lv' := [(4, .int (0 : Int32)), (3, .int (0 : Int32)), (0, .ref o), (1, .int v1), (2, .int v2)]) hx hb dX7_answeredOf_3 hl (by decide) rfl (fun ls hl => ?_)
  exact lp_X7_answeredOf_5 o ad u hRf hRl C hret   100 v1 v2 (0 : Int32) (0 : Int32) hj _ _ _ V (lv_sub hl [2, 3, 4, 1, 0] rfl))
