def q_X7_fill_84 (k_84 : St → Int32 → Int32 → Int32 → Option (St)) (u : St) (v4 : Int32) (v5 : Int32) (v6 : Int32) : Option (St) :=
  if v6 ≤ v5 then gd v5 8000 (nm (sA u 25 v5.toNatClampNeg v4) (fun u10 => nm (sI u10 26 ((u10.1 26) + (1 : Int32))) (fun u11 => some u11))) else gd (v6 - (1 : Int32)) 8000 (gd v6 8000 (nm (sA u 25 v6.toNatClampNeg (u.2.1 25 (v6 - (1 : Int32)).toNatClampNeg)) (fun u14 => nm (v6 + (-1)) (fun x15 => k_84 u14 v4 v5 x15))))
set_option maxHeartbeats 4000000 in
set_option maxRecDepth 100000 in
theorem b_X7_fill_84 {p : Program} {l : Launch} {e : Env} {R : Room} {s : State} {m : MethodId} {args : Array Value} {below : List Frame} {meth : Method} {c : Code} {A : Nat → Prop} {Q : State → Prop} {D : va_G} {tc : Nat → ClassId} (o : Nat) (ad : Nat → Nat) (hRf : 0 ≤ R.frames) (hRl : 0 ≤ R.locals) (C : Cx p s m args meth c cX7_fill 7 RX7 none) {x0 : St} (hret : RetV p l e R s m args below meth c Q cX7_fill D tc A (some x0) (fun x : St => Mw tc o ad x)) (k_84 : St → Int32 → Int32 → Int32 → Option (St)) (hk_84 : ∀ (u : St) (v4 : Int32) (v5 : Int32) (v6 : Int32), k_84 u v4 v5 v6 = some x0 → ∀ (H : Heap) (locs : List Loc) (ls : Array Slot), Wd D tc A s H locs (Mw tc o ad u) → lv_has ls 7 [(0, .ref o), (4, .int v4), (5, .int v5), (6, .int v6)] → W p l e R s m args below meth c H locs 0 0 Q (F0 m 84 ls [])) : ∀ (u : St) (v4 : Int32) (v5 : Int32) (v6 : Int32), q_X7_fill_84 k_84 u v4 v5 v6 = some x0 → ∀ (H : Heap) (locs : List Loc) (ls : Array Slot), Wd D tc A s H locs (Mw tc o ad u) → lv_has ls 7 [(0, .ref o), (4, .int v4), (5, .int v5), (6, .int v6)] → W p l e R s m args below meth c H locs 0 0 Q (F0 m 84 ls []) := by
  obtain ⟨hx, hb, hr, hml, hown, hts, hlk, hN⟩ := id C
  intro u v4 v5 v6 hj H locs ls V hl
  unfold q_X7_fill_84 at hj
  refine lv_iload hx hb dX7_fill_84 (lv_at hl 3 rfl) ?_
  refine lv_iload hx hb dX7_fill_86 (lv_at hl 2 rfl) ?_
  refine lv_icmp_le (tgt := 113) hx hb dX7_fill_88 (by decide) (fun c8 => ?_) (fun c8 => ?_)
  · replace hj := ip _ c8 hj
    refine lv_aload_n hx hb dX7_fill_113 rfl (lv_at hl 0 rfl) ?_
    refine x_get hx hb hts hown V inX7 0 rfl rfl 25 (by decide) tw_545 rfl rfl dX7_fill_114 ?_
    refine lv_iload hx hb dX7_fill_117 (lv_at hl 2 rfl) ?_
    refine lv_iload hx hb dX7_fill_119 (lv_at hl 1 rfl) ?_
    obtain ⟨i9, hj⟩ := gd_some hj
    obtain ⟨u10, eu10, hj⟩ := nm_some hj
    refine x_iast hx hb V 18 rfl i9 dX7_fill_121 (fun H locs V => ?_)
    replace V : Wd D tc A s H locs (Mw tc o ad u10) := by rw [eu10]; exact V
    refine lv_aload_n hx hb dX7_fill_122 rfl (lv_at hl 0 rfl) ?_
    refine lv_dup hx hb dX7_fill_123 rfl ?_
    refine x_get hx hb hts hown V inX7 0 rfl rfl 26 (by decide) tw_546 rfl rfl dX7_fill_124 ?_
    refine lv_iconst (v := 1) hx hb dX7_fill_127 (by decide) ?_
    refine lv_iadd hx hb dX7_fill_128 ?_
    refine x_put hx hb hts hown V inX7 tyX7_ok nmX7 0 rfl rfl 26 (by decide) tw_546 rfl rfl rfl rfl (Nat.le_of_ble_eq_true rfl) dX7_fill_129 (fun H locs V => ?_)
    obtain ⟨u11, eu11, hj⟩ := nm_some hj
    replace V : Wd D tc A s H locs (Mw tc o ad u11) := by rw [eu11]; exact V
    exact hret u11 hj V dX7_fill_132
  · replace hj := iq _ c8 hj
    refine lv_aload_n hx hb dX7_fill_91 rfl (lv_at hl 0 rfl) ?_
    refine x_get hx hb hts hown V inX7 0 rfl rfl 25 (by decide) tw_545 rfl rfl dX7_fill_92 ?_
    refine lv_iload hx hb dX7_fill_95 (lv_at hl 3 rfl) ?_
    refine lv_aload_n hx hb dX7_fill_97 rfl (lv_at hl 0 rfl) ?_
    refine x_get hx hb hts hown V inX7 0 rfl rfl 25 (by decide) tw_545 rfl rfl dX7_fill_98 ?_
    refine lv_iload hx hb dX7_fill_101 (lv_at hl 3 rfl) ?_
    refine lv_iconst (v := 1) hx hb dX7_fill_103 (by decide) ?_
    refine lv_isub hx hb dX7_fill_104 ?_
    obtain ⟨i12, hj⟩ := gd_some hj
    refine x_iald hx hb V 18 rfl i12 dX7_fill_105 ?_
    obtain ⟨i13, hj⟩ := gd_some hj
    obtain ⟨u14, eu14, hj⟩ := nm_some hj
    refine x_iast hx hb V 18 rfl i13 dX7_fill_106 (fun H locs V => ?_)
    replace V : Wd D tc A s H locs (Mw tc o ad u14) := by rw [eu14]; exact V
    obtain ⟨x15, ex15, hj⟩ := nm_some hj
    refine lv_iinc (v := x15) (lv' := [(6, .int x15), (0, .ref o), (4, .int v4), (5, .int v5)]) hx hb dX7_fill_107 hl (k := 3) rfl (by rw [ex15]; rfl) (by decide) rfl (fun ls hl => ?_)
    refine lv_goto (tgt := 84) hx hb dX7_fill_110 (by decide) ?_
    exact hk_84 u14 v4 v5 x15 hj _ _ _ V (lv_sub hl [1, 2, 3, 0] rfl)
def j_X7_fill_84  : Nat → St → Int32 → Int32 → Int32 → Option (St)
  | 0 => fun _ _ _ _ => none
  | n + 1 => q_X7_fill_84  (j_X7_fill_84  n)
theorem lp_X7_fill_84 {p : Program} {l : Launch} {e : Env} {R : Room} {s : State} {m : MethodId} {args : Array Value} {below : List Frame} {meth : Method} {c : Code} {A : Nat → Prop} {Q : State → Prop} {D : va_G} {tc : Nat → ClassId} (o : Nat) (ad : Nat → Nat) (hRf : 0 ≤ R.frames) (hRl : 0 ≤ R.locals) (C : Cx p s m args meth c cX7_fill 7 RX7 none) {x0 : St} (hret : RetV p l e R s m args below meth c Q cX7_fill D tc A (some x0) (fun x : St => Mw tc o ad x))  : ∀ (n : Nat), ∀ (u : St) (v4 : Int32) (v5 : Int32) (v6 : Int32), j_X7_fill_84  n u v4 v5 v6 = some x0 → ∀ (H : Heap) (locs : List Loc) (ls : Array Slot), Wd D tc A s H locs (Mw tc o ad u) → lv_has ls 7 [(0, .ref o), (4, .int v4), (5, .int v5), (6, .int v6)] → W p l e R s m args below meth c H locs 0 0 Q (F0 m 84 ls []) := by
  intro n
  induction n with
  | zero =>
    intro u v4 v5 v6 hj
    have hj : (none : Option (St)) = some x0 := hj
    cases hj
  | succ n ih =>
    intro u v4 v5 v6 hj
    exact b_X7_fill_84 o ad hRf hRl C hret   (j_X7_fill_84  n) ih u v4 v5 v6 hj
def q_X7_fill_29 (k_29 : St → Int32 → Int32 → Option (St)) (u : St) (v4 : Int32) (v5 : Int32) : Option (St) :=
  if (u.1 26) ≤ v5 then if (u.1 26) ≤ v5 then nm (u.1 26) (fun x7 => j_X7_fill_84  100 u v4 v5 x7) else gd v5 8000 (if (u.2.1 25 v5.toNatClampNeg) = v4 then some u else nm (u.1 26) (fun x18 => j_X7_fill_84  100 u v4 v5 x18)) else gd v5 8000 (if v4 ≤ (u.2.1 25 v5.toNatClampNeg) then if (u.1 26) ≤ v5 then nm (u.1 26) (fun x22 => j_X7_fill_84  100 u v4 v5 x22) else gd v5 8000 (if (u.2.1 25 v5.toNatClampNeg) = v4 then some u else nm (u.1 26) (fun x25 => j_X7_fill_84  100 u v4 v5 x25)) else nm (v5 + 1) (fun x26 => k_29 u v4 x26))
set_option maxHeartbeats 4000000 in
set_option maxRecDepth 100000 in
theorem b_X7_fill_29 {p : Program} {l : Launch} {e : Env} {R : Room} {s : State} {m : MethodId} {args : Array Value} {below : List Frame} {meth : Method} {c : Code} {A : Nat → Prop} {Q : State → Prop} {D : va_G} {tc : Nat → ClassId} (o : Nat) (ad : Nat → Nat) (hRf : 0 ≤ R.frames) (hRl : 0 ≤ R.locals) (C : Cx p s m args meth c cX7_fill 7 RX7 none) {x0 : St} (hret : RetV p l e R s m args below meth c Q cX7_fill D tc A (some x0) (fun x : St => Mw tc o ad x)) (k_29 : St → Int32 → Int32 → Option (St)) (hk_29 : ∀ (u : St) (v4 : Int32) (v5 : Int32), k_29 u v4 v5 = some x0 → ∀ (H : Heap) (locs : List Loc) (ls : Array Slot), Wd D tc A s H locs (Mw tc o ad u) → lv_has ls 7 [(0, .ref o), (4, .int v4), (5, .int v5)] → W p l e R s m args below meth c H locs 0 0 Q (F0 m 29 ls [])) : ∀ (u : St) (v4 : Int32) (v5 : Int32), q_X7_fill_29 k_29 u v4 v5 = some x0 → ∀ (H : Heap) (locs : List Loc) (ls : Array Slot), Wd D tc A s H locs (Mw tc o ad u) → lv_has ls 7 [(0, .ref o), (4, .int v4), (5, .int v5)] → W p l e R s m args below meth c H locs 0 0 Q (F0 m 29 ls []) := by
  obtain ⟨hx, hb, hr, hml, hown, hts, hlk, hN⟩ := id C
  intro u v4 v5 hj H locs ls V hl
  unfold q_X7_fill_29 at hj
  refine lv_iload hx hb dX7_fill_29 (lv_at hl 2 rfl) ?_
  refine lv_aload_n hx hb dX7_fill_31 rfl (lv_at hl 0 rfl) ?_
  refine x_get hx hb hts hown V inX7 0 rfl rfl 26 (by decide) tw_546 rfl rfl dX7_fill_32 ?_
  refine lv_icmp_ge (tgt := 56) hx hb dX7_fill_35 (by decide) (fun c5 => ?_) (fun c5 => ?_)
  · replace hj := ip _ c5 hj
    refine lv_iload hx hb dX7_fill_56 (lv_at hl 2 rfl) ?_
    refine lv_aload_n hx hb dX7_fill_58 rfl (lv_at hl 0 rfl) ?_
    refine x_get hx hb hts hown V inX7 0 rfl rfl 26 (by decide) tw_546 rfl rfl dX7_fill_59 ?_
    refine lv_icmp_ge (tgt := 78) hx hb dX7_fill_62 (by decide) (fun c6 => ?_) (fun c6 => ?_)
    · replace hj := ip _ c6 hj
      refine lv_aload_n hx hb dX7_fill_78 rfl (lv_at hl 0 rfl) ?_
      refine x_get hx hb hts hown V inX7 0 rfl rfl 26 (by decide) tw_546 rfl rfl dX7_fill_79 ?_
      obtain ⟨x7, ex7, hj⟩ := nm_some hj
      refine x_topi ex7 ?_
      refine lv_istore (lv' := [(6, .int x7), (0, .ref o), (4, .int v4), (5, .int v5)]) hx hb dX7_fill_82 hl (by decide) rfl (fun ls hl => ?_)
      exact lp_X7_fill_84 o ad hRf hRl C hret   100 u v4 v5 x7 hj _ _ _ V (lv_sub hl [1, 2, 3, 0] rfl)
    · replace hj := iq _ c6 hj
      refine lv_aload_n hx hb dX7_fill_65 rfl (lv_at hl 0 rfl) ?_
      refine x_get hx hb hts hown V inX7 0 rfl rfl 25 (by decide) tw_545 rfl rfl dX7_fill_66 ?_
      refine lv_iload hx hb dX7_fill_69 (lv_at hl 2 rfl) ?_
      obtain ⟨i16, hj⟩ := gd_some hj
      refine x_iald hx hb V 18 rfl i16 dX7_fill_71 ?_
      refine lv_iload hx hb dX7_fill_72 (lv_at hl 1 rfl) ?_
      refine lv_icmp_ne (tgt := 78) hx hb dX7_fill_74 (by decide) (fun c17 => ?_) (fun c17 => ?_)
      · replace hj := iq _ c17 hj
        refine lv_aload_n hx hb dX7_fill_78 rfl (lv_at hl 0 rfl) ?_
        refine x_get hx hb hts hown V inX7 0 rfl rfl 26 (by decide) tw_546 rfl rfl dX7_fill_79 ?_
        obtain ⟨x18, ex18, hj⟩ := nm_some hj
        refine x_topi ex18 ?_
        refine lv_istore (lv' := [(6, .int x18), (0, .ref o), (4, .int v4), (5, .int v5)]) hx hb dX7_fill_82 hl (by decide) rfl (fun ls hl => ?_)
        exact lp_X7_fill_84 o ad hRf hRl C hret   100 u v4 v5 x18 hj _ _ _ V (lv_sub hl [1, 2, 3, 0] rfl)
      · replace hj := ip _ c17 hj
        exact hret u hj V dX7_fill_77
  · replace hj := iq _ c5 hj
    refine lv_aload_n hx hb dX7_fill_38 rfl (lv_at hl 0 rfl) ?_
    refine x_get hx hb hts hown V inX7 0 rfl rfl 25 (by decide) tw_545 rfl rfl dX7_fill_39 ?_
    refine lv_iload hx hb dX7_fill_42 (lv_at hl 2 rfl) ?_
    obtain ⟨i19, hj⟩ := gd_some hj
    refine x_iald hx hb V 18 rfl i19 dX7_fill_44 ?_
    refine lv_iload hx hb dX7_fill_45 (lv_at hl 1 rfl) ?_
    refine lv_icmp_ge (tgt := 56) hx hb dX7_fill_47 (by decide) (fun c20 => ?_) (fun c20 => ?_)
    · replace hj := ip _ c20 hj
      refine lv_iload hx hb dX7_fill_56 (lv_at hl 2 rfl) ?_
      refine lv_aload_n hx hb dX7_fill_58 rfl (lv_at hl 0 rfl) ?_
      refine x_get hx hb hts hown V inX7 0 rfl rfl 26 (by decide) tw_546 rfl rfl dX7_fill_59 ?_
      refine lv_icmp_ge (tgt := 78) hx hb dX7_fill_62 (by decide) (fun c21 => ?_) (fun c21 => ?_)
      · replace hj := ip _ c21 hj
        refine lv_aload_n hx hb dX7_fill_78 rfl (lv_at hl 0 rfl) ?_
        refine x_get hx hb hts hown V inX7 0 rfl rfl 26 (by decide) tw_546 rfl rfl dX7_fill_79 ?_
        obtain ⟨x22, ex22, hj⟩ := nm_some hj
        refine x_topi ex22 ?_
        refine lv_istore (lv' := [(6, .int x22), (0, .ref o), (4, .int v4), (5, .int v5)]) hx hb dX7_fill_82 hl (by decide) rfl (fun ls hl => ?_)
        exact lp_X7_fill_84 o ad hRf hRl C hret   100 u v4 v5 x22 hj _ _ _ V (lv_sub hl [1, 2, 3, 0] rfl)
      · replace hj := iq _ c21 hj
        refine lv_aload_n hx hb dX7_fill_65 rfl (lv_at hl 0 rfl) ?_
        refine x_get hx hb hts hown V inX7 0 rfl rfl 25 (by decide) tw_545 rfl rfl dX7_fill_66 ?_
        refine lv_iload hx hb dX7_fill_69 (lv_at hl 2 rfl) ?_
        obtain ⟨i23, hj⟩ := gd_some hj
        refine x_iald hx hb V 18 rfl i23 dX7_fill_71 ?_
        refine lv_iload hx hb dX7_fill_72 (lv_at hl 1 rfl) ?_
        refine lv_icmp_ne (tgt := 78) hx hb dX7_fill_74 (by decide) (fun c24 => ?_) (fun c24 => ?_)
        · replace hj := iq _ c24 hj
          refine lv_aload_n hx hb dX7_fill_78 rfl (lv_at hl 0 rfl) ?_
          refine x_get hx hb hts hown V inX7 0 rfl rfl 26 (by decide) tw_546 rfl rfl dX7_fill_79 ?_
          obtain ⟨x25, ex25, hj⟩ := nm_some hj
          refine x_topi ex25 ?_
          refine lv_istore (lv' := [(6, .int x25), (0, .ref o), (4, .int v4), (5, .int v5)]) hx hb dX7_fill_82 hl (by decide) rfl (fun ls hl => ?_)
          exact lp_X7_fill_84 o ad hRf hRl C hret   100 u v4 v5 x25 hj _ _ _ V (lv_sub hl [1, 2, 3, 0] rfl)
        · replace hj := ip _ c24 hj
          exact hret u hj V dX7_fill_77
    · replace hj := iq _ c20 hj
      obtain ⟨x26, ex26, hj⟩ := nm_some hj
      refine lv_iinc (v := x26) (lv' := [(5, .int x26), (0, .ref o), (4, .int v4)]) hx hb dX7_fill_50 hl (k := 2) rfl (by rw [ex26]; rfl) (by decide) rfl (fun ls hl => ?_)
      refine lv_goto (tgt := 29) hx hb dX7_fill_53 (by decide) ?_
      exact hk_29 u v4 x26 hj _ _ _ V (lv_sub hl [1, 2, 0] rfl)
def j_X7_fill_29  : Nat → St → Int32 → Int32 → Option (St)
  | 0 => fun _ _ _ => none
  | n + 1 => q_X7_fill_29  (j_X7_fill_29  n)
theorem lp_X7_fill_29 {p : Program} {l : Launch} {e : Env} {R : Room} {s : State} {m : MethodId} {args : Array Value} {below : List Frame} {meth : Method} {c : Code} {A : Nat → Prop} {Q : State → Prop} {D : va_G} {tc : Nat → ClassId} (o : Nat) (ad : Nat → Nat) (hRf : 0 ≤ R.frames) (hRl : 0 ≤ R.locals) (C : Cx p s m args meth c cX7_fill 7 RX7 none) {x0 : St} (hret : RetV p l e R s m args below meth c Q cX7_fill D tc A (some x0) (fun x : St => Mw tc o ad x))  : ∀ (n : Nat), ∀ (u : St) (v4 : Int32) (v5 : Int32), j_X7_fill_29  n u v4 v5 = some x0 → ∀ (H : Heap) (locs : List Loc) (ls : Array Slot), Wd D tc A s H locs (Mw tc o ad u) → lv_has ls 7 [(0, .ref o), (4, .int v4), (5, .int v5)] → W p l e R s m args below meth c H locs 0 0 Q (F0 m 29 ls []) := by
  intro n
  induction n with
  | zero =>
    intro u v4 v5 hj
    have hj : (none : Option (St)) = some x0 := hj
    cases hj
  | succ n ih =>
    intro u v4 v5 hj
    exact b_X7_fill_29 o ad hRf hRl C hret   (j_X7_fill_29  n) ih u v4 v5 hj
def q_X7_fill_2 (k_2 : St → Int32 → Option (St)) (u : St) (v3 : Int32) : Option (St) :=
  gd v3 11 (if (u.2.1 18 v3.toNatClampNeg) = (u.1 24) then gd v3 11 (nm (u.2.1 19 v3.toNatClampNeg) (fun x4 => j_X7_fill_29  100 u x4 (0 : Int32))) else nm (v3 + 1) (fun x27 => k_2 u x27))
set_option maxHeartbeats 4000000 in
set_option maxRecDepth 100000 in
theorem b_X7_fill_2 {p : Program} {l : Launch} {e : Env} {R : Room} {s : State} {m : MethodId} {args : Array Value} {below : List Frame} {meth : Method} {c : Code} {A : Nat → Prop} {Q : State → Prop} {D : va_G} {tc : Nat → ClassId} (o : Nat) (ad : Nat → Nat) (hRf : 0 ≤ R.frames) (hRl : 0 ≤ R.locals) (C : Cx p s m args meth c cX7_fill 7 RX7 none) {x0 : St} (hret : RetV p l e R s m args below meth c Q cX7_fill D tc A (some x0) (fun x : St => Mw tc o ad x)) (k_2 : St → Int32 → Option (St)) (hk_2 : ∀ (u : St) (v3 : Int32), k_2 u v3 = some x0 → ∀ (H : Heap) (locs : List Loc) (ls : Array Slot), Wd D tc A s H locs (Mw tc o ad u) → lv_has ls 7 [(0, .ref o), (1, .ref (ad 19)), (3, .int v3)] → W p l e R s m args below meth c H locs 0 0 Q (F0 m 2 ls [])) : ∀ (u : St) (v3 : Int32), q_X7_fill_2 k_2 u v3 = some x0 → ∀ (H : Heap) (locs : List Loc) (ls : Array Slot), Wd D tc A s H locs (Mw tc o ad u) → lv_has ls 7 [(0, .ref o), (1, .ref (ad 19)), (3, .int v3)] → W p l e R s m args below meth c H locs 0 0 Q (F0 m 2 ls []) := by
  obtain ⟨hx, hb, hr, hml, hown, hts, hlk, hN⟩ := id C
  intro u v3 hj H locs ls V hl
  unfold q_X7_fill_2 at hj
  refine lv_aload_n hx hb dX7_fill_2 rfl (lv_at hl 0 rfl) ?_
  refine x_get hx hb hts hown V inX7 0 rfl rfl 18 (by decide) tw_538 rfl rfl dX7_fill_3 ?_
  refine lv_iload_n hx hb dX7_fill_6 rfl (lv_at hl 2 rfl) ?_
  obtain ⟨i1, hj⟩ := gd_some hj
  refine x_iald hx hb V 15 rfl i1 dX7_fill_7 ?_
  refine lv_aload_n hx hb dX7_fill_8 rfl (lv_at hl 0 rfl) ?_
  refine x_get hx hb hts hown V inX7 0 rfl rfl 24 (by decide) tw_544 rfl rfl dX7_fill_9 ?_
  refine lv_icmp_eq (tgt := 21) hx hb dX7_fill_12 (by decide) (fun c2 => ?_) (fun c2 => ?_)
  · replace hj := ip _ c2 hj
    refine lv_aload_n hx hb dX7_fill_21 rfl (lv_at hl 1 rfl) ?_
    refine lv_iload_n hx hb dX7_fill_22 rfl (lv_at hl 2 rfl) ?_
    obtain ⟨i3, hj⟩ := gd_some hj
    refine x_iald hx hb V 16 rfl i3 dX7_fill_23 ?_
    obtain ⟨x4, ex4, hj⟩ := nm_some hj
    refine x_topi ex4 ?_
    refine lv_istore (lv' := [(4, .int x4), (0, .ref o), (1, .ref (ad 19)), (3, .int v3)]) hx hb dX7_fill_24 hl (by decide) rfl (fun ls hl => ?_)
    refine lv_iconst (v := 0) hx hb dX7_fill_26 (by decide) ?_
    refine lv_istore (lv' := [(5, .int (0 : Int32)), (4, .int x4), (0, .ref o), (1, .ref (ad 19)), (3, .int v3)]) hx hb dX7_fill_27 hl (by decide) rfl (fun ls hl => ?_)
    exact lp_X7_fill_29 o ad hRf hRl C hret   100 u x4 (0 : Int32) hj _ _ _ V (lv_sub hl [2, 1, 0] rfl)
  · replace hj := iq _ c2 hj
    obtain ⟨x27, ex27, hj⟩ := nm_some hj
    refine lv_iinc (v := x27) (lv' := [(3, .int x27), (0, .ref o), (1, .ref (ad 19))]) hx hb dX7_fill_15 hl (k := 2) rfl (by rw [ex27]; rfl) (by decide) rfl (fun ls hl => ?_)
    refine lv_goto (tgt := 2) hx hb dX7_fill_18 (by decide) ?_
    exact hk_2 u x27 hj _ _ _ V (lv_sub hl [1, 2, 0] rfl)
def j_X7_fill_2  : Nat → St → Int32 → Option (St)
  | 0 => fun _ _ => none
  | n + 1 => q_X7_fill_2  (j_X7_fill_2  n)
theorem lp_X7_fill_2 {p : Program} {l : Launch} {e : Env} {R : Room} {s : State} {m : MethodId} {args : Array Value} {below : List Frame} {meth : Method} {c : Code} {A : Nat → Prop} {Q : State → Prop} {D : va_G} {tc : Nat → ClassId} (o : Nat) (ad : Nat → Nat) (hRf : 0 ≤ R.frames) (hRl : 0 ≤ R.locals) (C : Cx p s m args meth c cX7_fill 7 RX7 none) {x0 : St} (hret : RetV p l e R s m args below meth c Q cX7_fill D tc A (some x0) (fun x : St => Mw tc o ad x))  : ∀ (n : Nat), ∀ (u : St) (v3 : Int32), j_X7_fill_2  n u v3 = some x0 → ∀ (H : Heap) (locs : List Loc) (ls : Array Slot), Wd D tc A s H locs (Mw tc o ad u) → lv_has ls 7 [(0, .ref o), (1, .ref (ad 19)), (3, .int v3)] → W p l e R s m args below meth c H locs 0 0 Q (F0 m 2 ls []) := by
  intro n
  induction n with
  | zero =>
    intro u v3 hj
    have hj : (none : Option (St)) = some x0 := hj
    cases hj
  | succ n ih =>
    intro u v3 hj
    exact b_X7_fill_2 o ad hRf hRl C hret   (j_X7_fill_2  n) ih u v3 hj
def j_X7_fill (u : St) (v2 : Int32) : Option (St) :=
  j_X7_fill_2  100 u (0 : Int32)
set_option maxHeartbeats 4000000 in
set_option maxRecDepth 100000 in
theorem k_X7_fill (l : Launch) (D : va_G) (tc : Nat → ClassId) (o : Nat) (ad : Nat → Nat) (u : St) (v2 : Int32) {x0 : St} (hj : j_X7_fill u v2 = some x0) : MetD l D tc yX7_fill cX7_fill 7 none 0 0 [.ref o, .ref (ad 19), .int v2] (Mw tc o ad u) none (Mw tc o ad x0) :=
  x_entV  (fun x : St => Mw tc o ad x) (by decide) (own := RX7) rfl (Nat.le_of_ble_eq_true rfl) (fun p e s m args below meth c A Q ls C V hl hret => by
  obtain ⟨hx, hb, hr, hml, hown, hts, hlk, hN⟩ := id C
  have hRf : 0 ≤ (rmz 0 0 0 0).frames := Nat.le_refl _
  have hRl : 0 ≤ (rmz 0 0 0 0).locals := Nat.le_refl _
  generalize (rmz 0 0 0 0) = R at hret hRf hRl ⊢
  generalize s.heap = H at V ⊢
  generalize ([] : List Loc) = locs at V ⊢
  have hl : lv_has ls 7 [(0, .ref o), (1, .ref (ad 19)), (2, .int v2)] := hl
  unfold j_X7_fill at hj
  refine lv_iconst (v := 0) hx hb dX7_fill_0 (by decide) ?_
  refine lv_istore_n (lv' := [(3, .int (0 : Int32)), (0, .ref o), (1, .ref (ad 19)), (2, .int v2)]) hx hb dX7_fill_1 rfl hl (by decide) rfl (fun ls hl => ?_)
  exact lp_X7_fill_2 o ad hRf hRl C hret   100 u (0 : Int32) hj _ _ _ V (lv_sub hl [1, 2, 0] rfl))

def q_X7_goes_67 (rc : St → Int32 → Int32 → Int32 → Int32 → Int32 → Option (Int32 × St)) (k_67 : St → Int32 → Int32 → Int32 → Int32 → Int32 → Int32 → Option (Int32 × St)) (u : St) (v1 : Int32) (v2 : Int32) (v3 : Int32) (v4 : Int32) (v5 : Int32) (v6 : Int32) : Option (Int32 × St) :=
  gd v1 12 (if (u.2.1 7 v1.toNatClampNeg) ≤ v6 then some ((0 : Int32), u) else if ((v2 >>> (v6 &&& 31)) &&& (1 : Int32)) = (0 : Int32) then nm (v6 + 1) (fun x5 => k_67 u v1 v2 v3 v4 v5 x5) else if ((v4 >>> (v6 &&& 31)) &&& (1 : Int32)) = (1 : Int32) then nm (v6 + 1) (fun x7 => k_67 u v1 v2 v3 v4 v5 x7) else gd v6 10 (if ((u.2.1 20 v6.toNatClampNeg) &&& (v4 ^^^ (-1 : Int32))) = (0 : Int32) then (j_X7_comes u v1 v6 v5).bind (fun ⟨r10, u11⟩ => (j_X7_isOpen u11 v1 v6).bind (fun r12 => if r12 = (0 : Int32) then gd (((10 : Int32) * v1) + v6) 120 (if r10 = (u11.2.1 15 (((10 : Int32) * v1) + v6).toNatClampNeg) then gd v5 11 (nm (sA u11 18 v5.toNatClampNeg v6) (fun u25 => gd v5 11 (nm (sA u25 19 v5.toNatClampNeg r10) (fun u27 => (rc u27 v1 v2 v3 (v4 ||| ((1 : Int32) <<< (v6 &&& 31))) (v5 + (1 : Int32))).bind (fun ⟨r28, u29⟩ => if r28 = (0 : Int32) then nm (v6 + 1) (fun x31 => k_67 u29 v1 v2 v3 v4 v5 x31) else some ((1 : Int32), u29)))))) else nm (v6 + 1) (fun x32 => k_67 u11 v1 v2 v3 v4 v5 x32)) else gd v5 11 (nm (sA u11 18 v5.toNatClampNeg v6) (fun u15 => gd v5 11 (nm (sA u15 19 v5.toNatClampNeg r10) (fun u17 => (rc u17 v1 v2 v3 (v4 ||| ((1 : Int32) <<< (v6 &&& 31))) (v5 + (1 : Int32))).bind (fun ⟨r18, u19⟩ => if r18 = (0 : Int32) then nm (v6 + 1) (fun x21 => k_67 u19 v1 v2 v3 v4 v5 x21) else some ((1 : Int32), u19)))))))) else nm (v6 + 1) (fun x33 => k_67 u v1 v2 v3 v4 v5 x33)))
set_option maxHeartbeats 4000000 in
set_option maxRecDepth 100000 in
theorem b_X7_goes_67 {p : Program} {l : Launch} {e : Env} {R : Room} {s : State} {m : MethodId} {args : Array Value} {below : List Frame} {meth : Method} {c : Code} {A : Nat → Prop} {Q : State → Prop} {D : va_G} {tc : Nat → ClassId} (o : Nat) (ad : Nat → Nat) (hRf : 2 ≤ R.frames) (hRl : 57 ≤ R.locals) (C : Cx p s m args meth c cX7_goes 8 RX7 (some .boolean)) {x0 : Int32 × St} (hret : RetI p l e R s m args below meth c Q cX7_goes D tc A .boolean (some x0) (fun x : Int32 × St => x.1) (fun x : Int32 × St => Mw tc o ad x.2)) {frr lor : Nat} (rc : St → Int32 → Int32 → Int32 → Int32 → Int32 → Option (Int32 × St)) (hrc : ∀ (u : St) (v1 : Int32) (v2 : Int32) (v3 : Int32) (v4 : Int32) (v5 : Int32) {x1 : Int32 × St}, rc u v1 v2 v3 v4 v5 = some x1 → MetD l D tc yX7_goes cX7_goes 8 (some .boolean) frr lor [.ref o, .int v1, .int v2, .int v3, .int v4, .int v5] (Mw tc o ad u) (some (.int x1.1)) (Mw tc o ad x1.2)) (hrf : frr + 1 ≤ R.frames) (hrl : 8 + (8 + 11) + lor ≤ R.locals) (k_67 : St → Int32 → Int32 → Int32 → Int32 → Int32 → Int32 → Option (Int32 × St)) (hk_67 : ∀ (u : St) (v1 : Int32) (v2 : Int32) (v3 : Int32) (v4 : Int32) (v5 : Int32) (v6 : Int32), k_67 u v1 v2 v3 v4 v5 v6 = some x0 → ∀ (H : Heap) (locs : List Loc) (ls : Array Slot), Wd D tc A s H locs (Mw tc o ad u) → lv_has ls 8 [(0, .ref o), (1, .int v1), (2, .int v2), (3, .int v3), (4, .int v4), (5, .int v5), (6, .int v6)] → W p l e R s m args below meth c H locs 0 0 Q (F0 m 67 ls [])) : ∀ (u : St) (v1 : Int32) (v2 : Int32) (v3 : Int32) (v4 : Int32) (v5 : Int32) (v6 : Int32), q_X7_goes_67 rc k_67 u v1 v2 v3 v4 v5 v6 = some x0 → ∀ (H : Heap) (locs : List Loc) (ls : Array Slot), Wd D tc A s H locs (Mw tc o ad u) → lv_has ls 8 [(0, .ref o), (1, .int v1), (2, .int v2), (3, .int v3), (4, .int v4), (5, .int v5), (6, .int v6)] → W p l e R s m args below meth c H locs 0 0 Q (F0 m 67 ls []) := by
  obtain ⟨hx, hb, hr, hml, hown, hts, hlk, hN⟩ := id C
  intro u v1 v2 v3 v4 v5 v6 hj H locs ls V hl
  unfold q_X7_goes_67 at hj
  refine lv_iload hx hb dX7_goes_67 (lv_at hl 6 rfl) ?_
  refine lv_aload_n hx hb dX7_goes_69 rfl (lv_at hl 0 rfl) ?_
  refine x_get hx hb hts hown V inX7 0 rfl rfl 7 (by decide) tw_527 rfl rfl dX7_goes_70 ?_
  refine lv_iload_n hx hb dX7_goes_73 rfl (lv_at hl 1 rfl) ?_
  obtain ⟨i2, hj⟩ := gd_some hj
  refine x_iald hx hb V 5 rfl i2 dX7_goes_74 ?_
  refine lv_icmp_ge (tgt := 204) hx hb dX7_goes_75 (by decide) (fun c3 => ?_) (fun c3 => ?_)
  · replace hj := ip _ c3 hj
    refine lv_iconst (v := 0) hx hb dX7_goes_204 (by decide) ?_
    exact hret ((0 : Int32), u) hj zn_0 V dX7_goes_205
  · replace hj := iq _ c3 hj
    refine lv_iload_n hx hb dX7_goes_78 rfl (lv_at hl 2 rfl) ?_
    refine lv_iload hx hb dX7_goes_79 (lv_at hl 6 rfl) ?_
    refine lv_ishr hx hb dX7_goes_81 ?_
    refine lv_iconst (v := 1) hx hb dX7_goes_82 (by decide) ?_
    refine lv_iand hx hb dX7_goes_83 ?_
    refine lv_if_eq (tgt := 198) hx hb dX7_goes_84 (by decide) (fun c4 => ?_) (fun c4 => ?_)
    · replace hj := ip _ c4 hj
      obtain ⟨x5, ex5, hj⟩ := nm_some hj
      refine lv_iinc (v := x5) (lv' := [(6, .int x5), (0, .ref o), (1, .int v1), (2, .int v2), (3, .int v3), (4, .int v4), (5, .int v5)]) hx hb dX7_goes_198 hl (k := 6) rfl (by rw [ex5]; rfl) (by decide) rfl (fun ls hl => ?_)
      refine lv_goto (tgt := 67) hx hb dX7_goes_201 (by decide) ?_
      exact hk_67 u v1 v2 v3 v4 v5 x5 hj _ _ _ V (lv_sub hl [1, 2, 3, 4, 5, 6, 0] rfl)
    · replace hj := iq _ c4 hj
      refine lv_iload hx hb dX7_goes_87 (lv_at hl 4 rfl) ?_
      refine lv_iload hx hb dX7_goes_89 (lv_at hl 6 rfl) ?_
      refine lv_ishr hx hb dX7_goes_91 ?_
      refine lv_iconst (v := 1) hx hb dX7_goes_92 (by decide) ?_
      refine lv_iand hx hb dX7_goes_93 ?_
      refine lv_iconst (v := 1) hx hb dX7_goes_94 (by decide) ?_
      refine lv_icmp_eq (tgt := 198) hx hb dX7_goes_95 (by decide) (fun c6 => ?_) (fun c6 => ?_)
      · replace hj := ip _ c6 hj
        obtain ⟨x7, ex7, hj⟩ := nm_some hj
        refine lv_iinc (v := x7) (lv' := [(6, .int x7), (0, .ref o), (1, .int v1), (2, .int v2), (3, .int v3), (4, .int v4), (5, .int v5)]) hx hb dX7_goes_198 hl (k := 6) rfl (by rw [ex7]; rfl) (by decide) rfl (fun ls hl => ?_)
        refine lv_goto (tgt := 67) hx hb dX7_goes_201 (by decide) ?_
        exact hk_67 u v1 v2 v3 v4 v5 x7 hj _ _ _ V (lv_sub hl [1, 2, 3, 4, 5, 6, 0] rfl)
      · replace hj := iq _ c6 hj
        refine lv_aload_n hx hb dX7_goes_98 rfl (lv_at hl 0 rfl) ?_
        refine x_get hx hb hts hown V inX7 0 rfl rfl 20 (by decide) tw_540 rfl rfl dX7_goes_99 ?_
        refine lv_iload hx hb dX7_goes_102 (lv_at hl 6 rfl) ?_
        obtain ⟨i8, hj⟩ := gd_some hj
        refine x_iald hx hb V 17 rfl i8 dX7_goes_104 ?_
        refine lv_iload hx hb dX7_goes_105 (lv_at hl 4 rfl) ?_
        refine lv_iconst (v := (-1)) hx hb dX7_goes_107 (by decide) ?_
        refine lv_ixor hx hb dX7_goes_108 ?_
        refine lv_iand hx hb dX7_goes_109 ?_
        refine lv_if_eq (tgt := 116) hx hb dX7_goes_110 (by decide) (fun c9 => ?_) (fun c9 => ?_)
        · replace hj := ip _ c9 hj
          refine lv_aload_n hx hb dX7_goes_116 rfl (lv_at hl 0 rfl) ?_
          refine lv_iload_n hx hb dX7_goes_117 rfl (lv_at hl 1 rfl) ?_
          refine lv_iload hx hb dX7_goes_118 (lv_at hl 6 rfl) ?_
          refine lv_iload hx hb dX7_goes_120 (lv_at hl 5 rfl) ?_
          obtain ⟨⟨r10, u11⟩, hr10, hj⟩ := bd_some hj
          refine x_allI V _ (rg_map _) (x_runV (n := 3) (rest := []) C V _ (rg_map _) (rg_nd _) (k_X7_comes l D tc o ad u v1 v6 v5 hr10) tw_720 tw_722 tp_22 tw_6 tw_723 (by decide +kernel) ⟨Nat.le_trans (Nat.le_of_ble_eq_true rfl) hRf, Nat.le_trans (Nat.le_of_ble_eq_true rfl) hRl⟩ ⟨Nat.zero_le _, Nat.zero_le _⟩ 0 6 rfl rfl rfl hl.1 rfl (Nat.le_of_ble_eq_true rfl) dX7_goes_122) (fun H locs V zr10 => ?_)
          replace V : Wd D tc A s H locs (Mw tc o ad u11) := V
          refine lv_istore (lv' := [(7, .int r10), (0, .ref o), (1, .int v1), (2, .int v2), (3, .int v3), (4, .int v4), (5, .int v5), (6, .int v6)]) hx hb dX7_goes_125 hl (by decide) rfl (fun ls hl => ?_)
          refine lv_aload_n hx hb dX7_goes_127 rfl (lv_at hl 1 rfl) ?_
          refine lv_iload_n hx hb dX7_goes_128 rfl (lv_at hl 2 rfl) ?_
          refine lv_iload hx hb dX7_goes_129 (lv_at hl 7 rfl) ?_
          obtain ⟨r12, hr12, hj⟩ := bd_some hj
          refine x_allI V _ (rg_map _) (x_runV (n := 2) (rest := []) C V _ (rg_map _) (rg_nd _) (k_X7_isOpen l D tc o ad u11 v1 v6 hr12) tw_641 tw_643 tp_11 tw_6 tw_644 (by decide +kernel) ⟨Nat.le_trans (Nat.le_of_ble_eq_true rfl) hRf, Nat.le_trans (Nat.le_of_ble_eq_true rfl) hRl⟩ ⟨Nat.zero_le _, Nat.zero_le _⟩ 0 6 rfl rfl rfl hl.1 rfl (Nat.le_of_ble_eq_true rfl) dX7_goes_131) (fun H locs V zr12 => ?_)
          replace V : Wd D tc A s H locs (Mw tc o ad u11) := V
          refine lv_if_ne (tgt := 157) hx hb dX7_goes_134 (by decide) (fun c13 => ?_) (fun c13 => ?_)
          · replace hj := iq _ c13 hj
            refine lv_aload_n hx hb dX7_goes_157 rfl (lv_at hl 1 rfl) ?_
            refine x_get hx hb hts hown V inX7 0 rfl rfl 18 (by decide) tw_538 rfl rfl dX7_goes_158 ?_
            refine lv_iload hx hb dX7_goes_161 (lv_at hl 6 rfl) ?_
            refine lv_iload hx hb dX7_goes_163 (lv_at hl 7 rfl) ?_
            obtain ⟨i14, hj⟩ := gd_some hj
            obtain ⟨u15, eu15, hj⟩ := nm_some hj
            refine x_iast hx hb V 15 rfl i14 dX7_goes_165 (fun H locs V => ?_)
            replace V : Wd D tc A s H locs (Mw tc o ad u15) := by rw [eu15]; exact V
            refine lv_aload_n hx hb dX7_goes_166 rfl (lv_at hl 1 rfl) ?_
            refine x_get hx hb hts hown V inX7 0 rfl rfl 19 (by decide) tw_539 rfl rfl dX7_goes_167 ?_
            refine lv_iload hx hb dX7_goes_170 (lv_at hl 6 rfl) ?_
            refine lv_iload hx hb dX7_goes_172 (lv_at hl 0 rfl) ?_
            obtain ⟨i16, hj⟩ := gd_some hj
            obtain ⟨u17, eu17, hj⟩ := nm_some hj
            refine x_iast hx hb V 16 rfl i16 dX7_goes_174 (fun H locs V => ?_)
            replace V : Wd D tc A s H locs (Mw tc o ad u17) := by rw [eu17]; exact V
            refine lv_aload_n hx hb dX7_goes_175 rfl (lv_at hl 1 rfl) ?_
            refine lv_iload_n hx hb dX7_goes_176 rfl (lv_at hl 2 rfl) ?_
            refine lv_iload_n hx hb dX7_goes_177 rfl (lv_at hl 3 rfl) ?_
            refine lv_iload_n hx hb dX7_goes_178 rfl (lv_at hl 4 rfl) ?_
            refine lv_iload hx hb dX7_goes_179 (lv_at hl 5 rfl) ?_
            refine lv_iconst (v := 1) hx hb dX7_goes_181 (by decide) ?_
            refine lv_iload hx hb dX7_goes_182 (lv_at hl 7 rfl) ?_
            refine lv_ishl hx hb dX7_goes_184 ?_
            refine lv_ior hx hb dX7_goes_185 ?_
            refine lv_iload hx hb dX7_goes_186 (lv_at hl 6 rfl) ?_
            refine lv_iconst (v := 1) hx hb dX7_goes_188 (by decide) ?_
            refine lv_iadd hx hb dX7_goes_189 ?_
            obtain ⟨⟨r18, u19⟩, hr18, hj⟩ := bd_some hj
            refine x_allI V _ (rg_map _) (x_runV (n := 5) (rest := []) C V _ (rg_map _) (rg_nd _) (hrc u17 v1 v2 v3 (v4 ||| ((1 : Int32) <<< (v6 &&& 31))) (v5 + (1 : Int32)) hr18) tw_712 tw_714 tp_20 tw_6 tw_715 (by decide +kernel) ⟨hrf, hrl⟩ ⟨Nat.zero_le _, Nat.zero_le _⟩ 0 6 rfl rfl rfl hl.1 rfl (Nat.le_of_ble_eq_true rfl) dX7_goes_190) (fun H locs V zr18 => ?_)
            replace V : Wd D tc A s H locs (Mw tc o ad u19) := V
            refine lv_if_eq (tgt := 198) hx hb dX7_goes_193 (by decide) (fun c20 => ?_) (fun c20 => ?_)
            · replace hj := ip _ c20 hj
              obtain ⟨x21, ex21, hj⟩ := nm_some hj
              refine lv_iinc (v := x21) (lv' := [(6, .int x21), (7, .int r10), (0, .ref o), (1, .int v1), (2, .int v2), (3, .int v3), (4, .int v4), (5, .int v5)]) hx hb dX7_goes_198 hl (k := 7) rfl (by rw [ex21]; rfl) (by decide) rfl (fun ls hl => ?_)
              refine lv_goto (tgt := 67) hx hb dX7_goes_201 (by decide) ?_
              exact hk_67 u19 v1 v2 v3 v4 v5 x21 hj _ _ _ V (lv_sub hl [2, 3, 4, 5, 6, 7, 0] rfl)
            · replace hj := iq _ c20 hj
              refine lv_iconst (v := 1) hx hb dX7_goes_196 (by decide) ?_
              exact hret ((1 : Int32), u19) hj zn_1 V dX7_goes_197
          · replace hj := ip _ c13 hj
            refine lv_iload hx hb dX7_goes_137 (lv_at hl 0 rfl) ?_
            refine lv_aload_n hx hb dX7_goes_139 rfl (lv_at hl 1 rfl) ?_
            refine x_get hx hb hts hown V inX7 0 rfl rfl 15 (by decide) tw_535 rfl rfl dX7_goes_140 ?_
            refine lv_bipush (v := 10) hx hb dX7_goes_143 (by decide) ?_
            refine lv_iload_n hx hb dX7_goes_145 rfl (lv_at hl 2 rfl) ?_
            refine lv_imul hx hb dX7_goes_146 ?_
            refine lv_iload hx hb dX7_goes_147 (lv_at hl 7 rfl) ?_
            refine lv_iadd hx hb dX7_goes_149 ?_
            obtain ⟨i22, hj⟩ := gd_some hj
            refine x_iald hx hb V 13 rfl i22 dX7_goes_150 ?_
            refine lv_icmp_eq (tgt := 157) hx hb dX7_goes_151 (by decide) (fun c23 => ?_) (fun c23 => ?_)
            · replace hj := ip _ c23 hj
              refine lv_aload_n hx hb dX7_goes_157 rfl (lv_at hl 1 rfl) ?_
              refine x_get hx hb hts hown V inX7 0 rfl rfl 18 (by decide) tw_538 rfl rfl dX7_goes_158 ?_
              refine lv_iload hx hb dX7_goes_161 (lv_at hl 6 rfl) ?_
              refine lv_iload hx hb dX7_goes_163 (lv_at hl 7 rfl) ?_
              obtain ⟨i24, hj⟩ := gd_some hj
              obtain ⟨u25, eu25, hj⟩ := nm_some hj
              refine x_iast hx hb V 15 rfl i24 dX7_goes_165 (fun H locs V => ?_)
              replace V : Wd D tc A s H locs (Mw tc o ad u25) := by rw [eu25]; exact V
              refine lv_aload_n hx hb dX7_goes_166 rfl (lv_at hl 1 rfl) ?_
              refine x_get hx hb hts hown V inX7 0 rfl rfl 19 (by decide) tw_539 rfl rfl dX7_goes_167 ?_
              refine lv_iload hx hb dX7_goes_170 (lv_at hl 6 rfl) ?_
              refine lv_iload hx hb dX7_goes_172 (lv_at hl 0 rfl) ?_
              obtain ⟨i26, hj⟩ := gd_some hj
              obtain ⟨u27, eu27, hj⟩ := nm_some hj
              refine x_iast hx hb V 16 rfl i26 dX7_goes_174 (fun H locs V => ?_)
              replace V : Wd D tc A s H locs (Mw tc o ad u27) := by rw [eu27]; exact V
              refine lv_aload_n hx hb dX7_goes_175 rfl (lv_at hl 1 rfl) ?_
              refine lv_iload_n hx hb dX7_goes_176 rfl (lv_at hl 2 rfl) ?_
              refine lv_iload_n hx hb dX7_goes_177 rfl (lv_at hl 3 rfl) ?_
              refine lv_iload_n hx hb dX7_goes_178 rfl (lv_at hl 4 rfl) ?_
              refine lv_iload hx hb dX7_goes_179 (lv_at hl 5 rfl) ?_
              refine lv_iconst (v := 1) hx hb dX7_goes_181 (by decide) ?_
              refine lv_iload hx hb dX7_goes_182 (lv_at hl 7 rfl) ?_
              refine lv_ishl hx hb dX7_goes_184 ?_
              refine lv_ior hx hb dX7_goes_185 ?_
              refine lv_iload hx hb dX7_goes_186 (lv_at hl 6 rfl) ?_
              refine lv_iconst (v := 1) hx hb dX7_goes_188 (by decide) ?_
              refine lv_iadd hx hb dX7_goes_189 ?_
              obtain ⟨⟨r28, u29⟩, hr28, hj⟩ := bd_some hj
              refine x_allI V _ (rg_map _) (x_runV (n := 5) (rest := []) C V _ (rg_map _) (rg_nd _) (hrc u27 v1 v2 v3 (v4 ||| ((1 : Int32) <<< (v6 &&& 31))) (v5 + (1 : Int32)) hr28) tw_712 tw_714 tp_20 tw_6 tw_715 (by decide +kernel) ⟨hrf, hrl⟩ ⟨Nat.zero_le _, Nat.zero_le _⟩ 0 6 rfl rfl rfl hl.1 rfl (Nat.le_of_ble_eq_true rfl) dX7_goes_190) (fun H locs V zr28 => ?_)
              replace V : Wd D tc A s H locs (Mw tc o ad u29) := V
              refine lv_if_eq (tgt := 198) hx hb dX7_goes_193 (by decide) (fun c30 => ?_) (fun c30 => ?_)
              · replace hj := ip _ c30 hj
                obtain ⟨x31, ex31, hj⟩ := nm_some hj
                refine lv_iinc (v := x31) (lv' := [(6, .int x31), (7, .int r10), (0, .ref o), (1, .int v1), (2, .int v2), (3, .int v3), (4, .int v4), (5, .int v5)]) hx hb dX7_goes_198 hl (k := 7) rfl (by rw [ex31]; rfl) (by decide) rfl (fun ls hl => ?_)
                refine lv_goto (tgt := 67) hx hb dX7_goes_201 (by decide) ?_
                exact hk_67 u29 v1 v2 v3 v4 v5 x31 hj _ _ _ V (lv_sub hl [2, 3, 4, 5, 6, 7, 0] rfl)
              · replace hj := iq _ c30 hj
                refine lv_iconst (v := 1) hx hb dX7_goes_196 (by decide) ?_
                exact hret ((1 : Int32), u29) hj zn_1 V dX7_goes_197
            · replace hj := iq _ c23 hj
              refine lv_goto (tgt := 198) hx hb dX7_goes_154 (by decide) ?_
              obtain ⟨x32, ex32, hj⟩ := nm_some hj
              refine lv_iinc (v := x32) (lv' := [(6, .int x32), (7, .int r10), (0, .ref o), (1, .int v1), (2, .int v2), (3, .int v3), (4, .int v4), (5, .int v5)]) hx hb dX7_goes_198 hl (k := 7) rfl (by rw [ex32]; rfl) (by decide) rfl (fun ls hl => ?_)
              refine lv_goto (tgt := 67) hx hb dX7_goes_201 (by decide) ?_
              exact hk_67 u11 v1 v2 v3 v4 v5 x32 hj _ _ _ V (lv_sub hl [2, 3, 4, 5, 6, 7, 0] rfl)
        · replace hj := iq _ c9 hj
          refine lv_goto (tgt := 198) hx hb dX7_goes_113 (by decide) ?_
          obtain ⟨x33, ex33, hj⟩ := nm_some hj
          refine lv_iinc (v := x33) (lv' := [(6, .int x33), (0, .ref o), (1, .int v1), (2, .int v2), (3, .int v3), (4, .int v4), (5, .int v5)]) hx hb dX7_goes_198 hl (k := 6) rfl (by rw [ex33]; rfl) (by decide) rfl (fun ls hl => ?_)
          refine lv_goto (tgt := 67) hx hb dX7_goes_201 (by decide) ?_
          exact hk_67 u v1 v2 v3 v4 v5 x33 hj _ _ _ V (lv_sub hl [1, 2, 3, 4, 5, 6, 0] rfl)
def j_X7_goes_67 (rc : St → Int32 → Int32 → Int32 → Int32 → Int32 → Option (Int32 × St)) : Nat → St → Int32 → Int32 → Int32 → Int32 → Int32 → Int32 → Option (Int32 × St)
  | 0 => fun _ _ _ _ _ _ _ => none
  | n + 1 => q_X7_goes_67 rc (j_X7_goes_67 rc n)
theorem lp_X7_goes_67 {p : Program} {l : Launch} {e : Env} {R : Room} {s : State} {m : MethodId} {args : Array Value} {below : List Frame} {meth : Method} {c : Code} {A : Nat → Prop} {Q : State → Prop} {D : va_G} {tc : Nat → ClassId} (o : Nat) (ad : Nat → Nat) (hRf : 2 ≤ R.frames) (hRl : 57 ≤ R.locals) (C : Cx p s m args meth c cX7_goes 8 RX7 (some .boolean)) {x0 : Int32 × St} (hret : RetI p l e R s m args below meth c Q cX7_goes D tc A .boolean (some x0) (fun x : Int32 × St => x.1) (fun x : Int32 × St => Mw tc o ad x.2)) {frr lor : Nat} (rc : St → Int32 → Int32 → Int32 → Int32 → Int32 → Option (Int32 × St)) (hrc : ∀ (u : St) (v1 : Int32) (v2 : Int32) (v3 : Int32) (v4 : Int32) (v5 : Int32) {x1 : Int32 × St}, rc u v1 v2 v3 v4 v5 = some x1 → MetD l D tc yX7_goes cX7_goes 8 (some .boolean) frr lor [.ref o, .int v1, .int v2, .int v3, .int v4, .int v5] (Mw tc o ad u) (some (.int x1.1)) (Mw tc o ad x1.2)) (hrf : frr + 1 ≤ R.frames) (hrl : 8 + (8 + 11) + lor ≤ R.locals)  : ∀ (n : Nat), ∀ (u : St) (v1 : Int32) (v2 : Int32) (v3 : Int32) (v4 : Int32) (v5 : Int32) (v6 : Int32), j_X7_goes_67 rc n u v1 v2 v3 v4 v5 v6 = some x0 → ∀ (H : Heap) (locs : List Loc) (ls : Array Slot), Wd D tc A s H locs (Mw tc o ad u) → lv_has ls 8 [(0, .ref o), (1, .int v1), (2, .int v2), (3, .int v3), (4, .int v4), (5, .int v5), (6, .int v6)] → W p l e R s m args below meth c H locs 0 0 Q (F0 m 67 ls []) := by
  intro n
  induction n with
  | zero =>
    intro u v1 v2 v3 v4 v5 v6 hj
    have hj : (none : Option (Int32 × St)) = some x0 := hj
    cases hj
  | succ n ih =>
    intro u v1 v2 v3 v4 v5 v6 hj
    exact b_X7_goes_67 o ad hRf hRl C hret rc hrc hrf hrl  (j_X7_goes_67 rc n) ih u v1 v2 v3 v4 v5 v6 hj
def q_X7_goes_0 (rc : St → Int32 → Int32 → Int32 → Int32 → Int32 → Option (Int32 × St)) (u : St) (v1 : Int32) (v2 : Int32) (v3 : Int32) (v4 : Int32) (v5 : Int32) : Option (Int32 × St) :=
  if (v4 &&& v3) = v3 then nm (sL u 22 0 ((u.2.2 22 0) + (1 : Int64))) (fun u34 => if (u34.1 23) = (0 : Int32) then nm (sI u34 21 v5) (fun u40 => some ((1 : Int32), u40)) else if (u34.1 23) = (2 : Int32) then if ((v4 >>> ((u34.1 24) &&& 31)) &&& (1 : Int32)) = (1 : Int32) then (j_X7_fill u34 v5).bind (fun u39 => j_X7_goes_67 rc 100 u39 v1 v2 v3 v4 v5 (0 : Int32)) else j_X7_goes_67 rc 100 u34 v1 v2 v3 v4 v5 (0 : Int32) else j_X7_goes_67 rc 100 u34 v1 v2 v3 v4 v5 (0 : Int32)) else j_X7_goes_67 rc 100 u v1 v2 v3 v4 v5 (0 : Int32)
set_option maxHeartbeats 4000000 in
set_option maxRecDepth 100000 in
theorem b_X7_goes_0 {p : Program} {l : Launch} {e : Env} {R : Room} {s : State} {m : MethodId} {args : Array Value} {below : List Frame} {meth : Method} {c : Code} {A : Nat → Prop} {Q : State → Prop} {D : va_G} {tc : Nat → ClassId} (o : Nat) (ad : Nat → Nat) (hRf : 2 ≤ R.frames) (hRl : 57 ≤ R.locals) (C : Cx p s m args meth c cX7_goes 8 RX7 (some .boolean)) {x0 : Int32 × St} (hret : RetI p l e R s m args below meth c Q cX7_goes D tc A .boolean (some x0) (fun x : Int32 × St => x.1) (fun x : Int32 × St => Mw tc o ad x.2)) {frr lor : Nat} (rc : St → Int32 → Int32 → Int32 → Int32 → Int32 → Option (Int32 × St)) (hrc : ∀ (u : St) (v1 : Int32) (v2 : Int32) (v3 : Int32) (v4 : Int32) (v5 : Int32) {x1 : Int32 × St}, rc u v1 v2 v3 v4 v5 = some x1 → MetD l D tc yX7_goes cX7_goes 8 (some .boolean) frr lor [.ref o, .int v1, .int v2, .int v3, .int v4, .int v5] (Mw tc o ad u) (some (.int x1.1)) (Mw tc o ad x1.2)) (hrf : frr + 1 ≤ R.frames) (hrl : 8 + (8 + 11) + lor ≤ R.locals)  : ∀ (u : St) (v1 : Int32) (v2 : Int32) (v3 : Int32) (v4 : Int32) (v5 : Int32), q_X7_goes_0 rc u v1 v2 v3 v4 v5 = some x0 → ∀ (H : Heap) (locs : List Loc) (ls : Array Slot), Wd D tc A s H locs (Mw tc o ad u) → lv_has ls 8 [(0, .ref o), (1, .int v1), (2, .int v2), (3, .int v3), (4, .int v4), (5, .int v5)] → W p l e R s m args below meth c H locs 0 0 Q (F0 m 0 ls []) := by
  obtain ⟨hx, hb, hr, hml, hown, hts, hlk, hN⟩ := id C
  intro u v1 v2 v3 v4 v5 hj H locs ls V hl
  unfold q_X7_goes_0 at hj
  refine lv_iload hx hb dX7_goes_0 (lv_at hl 4 rfl) ?_
  refine lv_iload_n hx hb dX7_goes_2 rfl (lv_at hl 3 rfl) ?_
  refine lv_iand hx hb dX7_goes_3 ?_
  refine lv_iload_n hx hb dX7_goes_4 rfl (lv_at hl 3 rfl) ?_
  refine lv_icmp_ne (tgt := 64) hx hb dX7_goes_5 (by decide) (fun c1 => ?_) (fun c1 => ?_)
  · replace hj := iq _ c1 hj
    refine lv_iconst (v := 0) hx hb dX7_goes_64 (by decide) ?_
    refine lv_istore (lv' := [(6, .int (0 : Int32)), (0, .ref o), (1, .int v1), (2, .int v2), (3, .int v3), (4, .int v4), (5, .int v5)]) hx hb dX7_goes_65 hl (by decide) rfl (fun ls hl => ?_)
    exact lp_X7_goes_67 o ad hRf hRl C hret rc hrc hrf hrl  100 u v1 v2 v3 v4 v5 (0 : Int32) hj _ _ _ V (lv_sub hl [1, 2, 3, 4, 5, 6, 0] rfl)
  · replace hj := ip _ c1 hj
    refine lv_aload_n hx hb dX7_goes_8 rfl (lv_at hl 0 rfl) ?_
    refine lv_dup hx hb dX7_goes_9 rfl ?_
    refine x_get hx hb hts hown V inX7 0 rfl rfl 22 (by decide) tw_542 rfl rfl dX7_goes_10 ?_
    refine lv_lconst (v := 1) hx hb dX7_goes_13 (by decide) ?_
    refine lv_ladd hx hb dX7_goes_14 ?_
    refine x_put hx hb hts hown V inX7 tyX7_ok nmX7 0 rfl rfl 22 (by decide) tw_542 rfl rfl rfl rfl (Nat.le_of_ble_eq_true rfl) dX7_goes_15 (fun H locs V => ?_)
    obtain ⟨u34, eu34, hj⟩ := nm_some hj
    replace V : Wd D tc A s H locs (Mw tc o ad u34) := by rw [eu34]; exact V
    refine lv_aload_n hx hb dX7_goes_18 rfl (lv_at hl 0 rfl) ?_
    refine x_get hx hb hts hown V inX7 0 rfl rfl 23 (by decide) tw_543 rfl rfl dX7_goes_19 ?_
    refine lv_if_ne (tgt := 33) hx hb dX7_goes_22 (by decide) (fun c35 => ?_) (fun c35 => ?_)
    · replace hj := iq _ c35 hj
      refine lv_aload_n hx hb dX7_goes_33 rfl (lv_at hl 0 rfl) ?_
      refine x_get hx hb hts hown V inX7 0 rfl rfl 23 (by decide) tw_543 rfl rfl dX7_goes_34 ?_
      refine lv_iconst (v := 2) hx hb dX7_goes_37 (by decide) ?_
      refine lv_icmp_ne (tgt := 64) hx hb dX7_goes_38 (by decide) (fun c36 => ?_) (fun c36 => ?_)
      · replace hj := iq _ c36 hj
        refine lv_iconst (v := 0) hx hb dX7_goes_64 (by decide) ?_
        refine lv_istore (lv' := [(6, .int (0 : Int32)), (0, .ref o), (1, .int v1), (2, .int v2), (3, .int v3), (4, .int v4), (5, .int v5)]) hx hb dX7_goes_65 hl (by decide) rfl (fun ls hl => ?_)
        exact lp_X7_goes_67 o ad hRf hRl C hret rc hrc hrf hrl  100 u34 v1 v2 v3 v4 v5 (0 : Int32) hj _ _ _ V (lv_sub hl [1, 2, 3, 4, 5, 6, 0] rfl)
      · replace hj := ip _ c36 hj
        refine lv_iload hx hb dX7_goes_41 (lv_at hl 4 rfl) ?_
        refine lv_aload_n hx hb dX7_goes_43 rfl (lv_at hl 0 rfl) ?_
        refine x_get hx hb hts hown V inX7 0 rfl rfl 24 (by decide) tw_544 rfl rfl dX7_goes_44 ?_
        refine lv_ishr hx hb dX7_goes_47 ?_
        refine lv_iconst (v := 1) hx hb dX7_goes_48 (by decide) ?_
        refine lv_iand hx hb dX7_goes_49 ?_
        refine lv_iconst (v := 1) hx hb dX7_goes_50 (by decide) ?_
        refine lv_icmp_ne (tgt := 64) hx hb dX7_goes_51 (by decide) (fun c37 => ?_) (fun c37 => ?_)
        · replace hj := iq _ c37 hj
          refine lv_iconst (v := 0) hx hb dX7_goes_64 (by decide) ?_
          refine lv_istore (lv' := [(6, .int (0 : Int32)), (0, .ref o), (1, .int v1), (2, .int v2), (3, .int v3), (4, .int v4), (5, .int v5)]) hx hb dX7_goes_65 hl (by decide) rfl (fun ls hl => ?_)
          exact lp_X7_goes_67 o ad hRf hRl C hret rc hrc hrf hrl  100 u34 v1 v2 v3 v4 v5 (0 : Int32) hj _ _ _ V (lv_sub hl [1, 2, 3, 4, 5, 6, 0] rfl)
        · replace hj := ip _ c37 hj
          refine lv_aload_n hx hb dX7_goes_54 rfl (lv_at hl 0 rfl) ?_
          refine lv_aload_n hx hb dX7_goes_55 rfl (lv_at hl 0 rfl) ?_
          refine x_get hx hb hts hown V inX7 0 rfl rfl 19 (by decide) tw_539 rfl rfl dX7_goes_56 ?_
          refine lv_iload hx hb dX7_goes_59 (lv_at hl 5 rfl) ?_
          obtain ⟨u39, hr38, hj⟩ := bd_some hj
          refine x_allV V _ (rg_map _) (x_runV (n := 2) (rest := []) C V _ (rg_map _) (rg_nd _) (k_X7_fill l D tc o ad u34 v5 hr38) tw_716 tw_718 tp_21 tw_6 tw_719 (by decide +kernel) ⟨Nat.le_trans (Nat.le_of_ble_eq_true rfl) hRf, Nat.le_trans (Nat.le_of_ble_eq_true rfl) hRl⟩ ⟨Nat.zero_le _, Nat.zero_le _⟩ 0 6 rfl rfl rfl hl.1 rfl (Nat.le_of_ble_eq_true rfl) dX7_goes_61) (fun H locs V => ?_)
          replace V : Wd D tc A s H locs (Mw tc o ad u39) := V
          refine lv_iconst (v := 0) hx hb dX7_goes_64 (by decide) ?_
          refine lv_istore (lv' := [(6, .int (0 : Int32)), (0, .ref o), (1, .int v1), (2, .int v2), (3, .int v3), (4, .int v4), (5, .int v5)]) hx hb dX7_goes_65 hl (by decide) rfl (fun ls hl => ?_)
          exact lp_X7_goes_67 o ad hRf hRl C hret rc hrc hrf hrl  100 u39 v1 v2 v3 v4 v5 (0 : Int32) hj _ _ _ V (lv_sub hl [1, 2, 3, 4, 5, 6, 0] rfl)
    · replace hj := ip _ c35 hj
      refine lv_aload_n hx hb dX7_goes_25 rfl (lv_at hl 0 rfl) ?_
      refine lv_iload hx hb dX7_goes_26 (lv_at hl 5 rfl) ?_
      refine x_put hx hb hts hown V inX7 tyX7_ok nmX7 0 rfl rfl 21 (by decide) tw_541 rfl rfl rfl rfl (Nat.le_of_ble_eq_true rfl) dX7_goes_28 (fun H locs V => ?_)
      obtain ⟨u40, eu40, hj⟩ := nm_some hj
      replace V : Wd D tc A s H locs (Mw tc o ad u40) := by rw [eu40]; exact V
      refine lv_iconst (v := 1) hx hb dX7_goes_31 (by decide) ?_
      exact hret ((1 : Int32), u40) hj zn_1 V dX7_goes_32
def j_X7_goes  : Nat → St → Int32 → Int32 → Int32 → Int32 → Int32 → Option (Int32 × St)
  | 0 => fun _ _ _ _ _ _ => none
  | n + 1 => q_X7_goes_0  (j_X7_goes  n)
set_option maxHeartbeats 4000000 in
set_option maxRecDepth 100000 in
theorem k_X7_goes (l : Launch) (D : va_G) (tc : Nat → ClassId) (o : Nat) (ad : Nat → Nat) : ∀ (d : Nat) (u : St) (v1 : Int32) (v2 : Int32) (v3 : Int32) (v4 : Int32) (v5 : Int32) {x0 : Int32 × St}, j_X7_goes  d u v1 v2 v3 v4 v5 = some x0 → MetD l D tc yX7_goes cX7_goes 8 (some .boolean) (2 + d) (57 + d * 27) [.ref o, .int v1, .int v2, .int v3, .int v4, .int v5] (Mw tc o ad u) (some (.int x0.1)) (Mw tc o ad x0.2) := by
  intro d
  induction d with
  | zero =>
    intro u v1 v2 v3 v4 v5 x0 hj
    have hj : (none : Option (Int32 × St)) = some x0 := hj
    cases hj
  | succ n ih =>
    intro u v1 v2 v3 v4 v5 x0 hj
    refine x_entI (fun x : Int32 × St => x.1) (fun x : Int32 × St => Mw tc o ad x.2) (by decide) (own := RX7) rfl (Nat.le_of_ble_eq_true rfl) (fun p e s m args below meth c A Q ls C V hl hret => ?_)
    have hl : lv_has ls 8 [(0, .ref o), (1, .int v1), (2, .int v2), (3, .int v3), (4, .int v4), (5, .int v5)] := hl
    exact b_X7_goes_0 o ad (show 2 ≤ 2 + (n + 1) by omega) (show 57 ≤ 57 + (n + 1) * 27 by omega) C hret (j_X7_goes  n) ih (show 2 + n + 1 ≤ 2 + (n + 1) by omega) (show 8 + (8 + 11) + (57 + n * 27) ≤ 57 + (n + 1) * 27 by omega) u v1 v2 v3 v4 v5 hj _ _ _ V hl

def j_X7_isTaken (u : St) (v1 : Int32) (v2 : Int32) (v3 : Int32) : Option (Int32 × St) :=
  (j_X7_prepare u v1 v2 v3).bind (fun u2 => nm (sI u2 23 (0 : Int32)) (fun u3 => (j_X7_answeredOf u3 v1 v3).bind (fun r4 => (j_X7_goes 12 u3 v1 v3 r4 (0 : Int32) (0 : Int32)).bind (fun ⟨r5, u6⟩ => some (r5, u6)))))
set_option maxHeartbeats 4000000 in
set_option maxRecDepth 100000 in
theorem k_X7_isTaken (l : Launch) (D : va_G) (tc : Nat → ClassId) (o : Nat) (ad : Nat → Nat) (u : St) (v1 : Int32) (v2 : Int32) (v3 : Int32) {x0 : Int32 × St} (hj : j_X7_isTaken u v1 v2 v3 = some x0) : MetD l D tc yX7_isTaken cX7_isTaken 4 (some .boolean) 15 408 [.ref o, .int v1, .int v2, .int v3] (Mw tc o ad u) (some (.int x0.1)) (Mw tc o ad x0.2) :=
  x_entI (fun x : Int32 × St => x.1) (fun x : Int32 × St => Mw tc o ad x.2) (by decide) (own := RX7) rfl (Nat.le_of_ble_eq_true rfl) (fun p e s m args below meth c A Q ls C V hl hret => by
  obtain ⟨hx, hb, hr, hml, hown, hts, hlk, hN⟩ := id C
  have hRf : 15 ≤ (rmz 15 0 0 408).frames := Nat.le_refl _
  have hRl : 408 ≤ (rmz 15 0 0 408).locals := Nat.le_refl _
  generalize (rmz 15 0 0 408) = R at hret hRf hRl ⊢
  generalize s.heap = H at V ⊢
  generalize ([] : List Loc) = locs at V ⊢
  have hl : lv_has ls 4 [(0, .ref o), (1, .int v1), (2, .int v2), (3, .int v3)] := hl
  unfold j_X7_isTaken at hj
  refine lv_aload_n hx hb dX7_isTaken_0 rfl (lv_at hl 0 rfl) ?_
  refine lv_iload_n hx hb dX7_isTaken_1 rfl (lv_at hl 1 rfl) ?_
  refine lv_iload_n hx hb dX7_isTaken_2 rfl (lv_at hl 2 rfl) ?_
  refine lv_iload_n hx hb dX7_isTaken_3 rfl (lv_at hl 3 rfl) ?_
  obtain ⟨u2, hr1, hj⟩ := bd_some hj
  refine x_allV V _ (rg_map _) (x_runV (n := 3) (rest := []) C V _ (rg_map _) (rg_nd _) (k_X7_prepare l D tc o ad u v1 v2 v3 hr1) tw_700 tw_702 tp_17 tw_6 tw_703 (by decide +kernel) ⟨Nat.le_trans (Nat.le_of_ble_eq_true rfl) hRf, Nat.le_trans (Nat.le_of_ble_eq_true rfl) hRl⟩ ⟨Nat.zero_le _, Nat.zero_le _⟩ 0 6 rfl rfl rfl hl.1 rfl (Nat.le_of_ble_eq_true rfl) dX7_isTaken_4) (fun H locs V => ?_)
  replace V : Wd D tc A s H locs (Mw tc o ad u2) := V
  refine lv_aload_n hx hb dX7_isTaken_7 rfl (lv_at hl 0 rfl) ?_
  refine lv_iconst (v := 0) hx hb dX7_isTaken_8 (by decide) ?_
  refine x_put hx hb hts hown V inX7 tyX7_ok nmX7 0 rfl rfl 23 (by decide) tw_543 rfl rfl rfl rfl (Nat.le_of_ble_eq_true rfl) dX7_isTaken_9 (fun H locs V => ?_)
  obtain ⟨u3, eu3, hj⟩ := nm_some hj
  replace V : Wd D tc A s H locs (Mw tc o ad u3) := by rw [eu3]; exact V
  refine lv_aload_n hx hb dX7_isTaken_12 rfl (lv_at hl 0 rfl) ?_
  refine lv_iload_n hx hb dX7_isTaken_13 rfl (lv_at hl 1 rfl) ?_
  refine lv_iload_n hx hb dX7_isTaken_14 rfl (lv_at hl 3 rfl) ?_
  refine lv_aload_n hx hb dX7_isTaken_15 rfl (lv_at hl 0 rfl) ?_
  refine lv_iload_n hx hb dX7_isTaken_16 rfl (lv_at hl 1 rfl) ?_
  refine lv_iload_n hx hb dX7_isTaken_17 rfl (lv_at hl 3 rfl) ?_
  obtain ⟨r4, hr4, hj⟩ := bd_some hj
  refine x_allI V _ (rg_map _) (x_runV (n := 2) (rest := [.int v3, .int v1, .ref o]) C V _ (rg_map _) (rg_nd _) (k_X7_answeredOf l D tc o ad u3 v1 v3 hr4) tw_708 tw_710 tp_19 tw_6 tw_711 (by decide +kernel) ⟨Nat.le_trans (Nat.le_of_ble_eq_true rfl) hRf, Nat.le_trans (Nat.le_of_ble_eq_true rfl) hRl⟩ ⟨Nat.zero_le _, Nat.zero_le _⟩ 0 6 rfl rfl rfl hl.1 rfl (Nat.le_of_ble_eq_true rfl) dX7_isTaken_18) (fun H locs V zr4 => ?_)
  replace V : Wd D tc A s H locs (Mw tc o ad u3) := V
  refine lv_iconst (v := 0) hx hb dX7_isTaken_21 (by decide) ?_
  refine lv_iconst (v := 0) hx hb dX7_isTaken_22 (by decide) ?_
  obtain ⟨⟨r5, u6⟩, hr5, hj⟩ := bd_some hj
  refine x_allI V _ (rg_map _) (x_runV (n := 5) (rest := []) C V _ (rg_map _) (rg_nd _) (k_X7_goes l D tc o ad 12 u3 v1 v3 r4 (0 : Int32) (0 : Int32) hr5) tw_712 tw_714 tp_20 tw_6 tw_715 (by decide +kernel) ⟨Nat.le_trans (Nat.le_of_ble_eq_true rfl) hRf, Nat.le_trans (Nat.le_of_ble_eq_true rfl) hRl⟩ ⟨Nat.zero_le _, Nat.zero_le _⟩ 0 6 rfl rfl rfl hl.1 rfl (Nat.le_of_ble_eq_true rfl) dX7_isTaken_23) (fun H locs V zr5 => ?_)
  replace V : Wd D tc A s H locs (Mw tc o ad u6) := V
  exact hret (r5, u6) hj zr5 V dX7_isTaken_26)

def j_X7_judge (u : St) (v1 : Int32) (v2 : Int32) : Option (Int32 × St) :=
  (j_X7_isHistory u v1).bind (fun r1 => if r1 = (0 : Int32) then some ((-1 : Int32), u) else (j_X7_isRule v2).bind (fun r3 => if r3 = (0 : Int32) then some ((-1 : Int32), u) else (j_X7_all u v1).bind (fun r5 => (j_X7_isTaken u v1 v2 r5).bind (fun ⟨r6, u7⟩ => if r6 = (0 : Int32) then some ((0 : Int32), u7) else some ((1 : Int32), u7)))))
set_option maxHeartbeats 4000000 in
set_option maxRecDepth 100000 in
theorem k_X7_judge (l : Launch) (D : va_G) (tc : Nat → ClassId) (o : Nat) (ad : Nat → Nat) (u : St) (v1 : Int32) (v2 : Int32) {x0 : Int32 × St} (hj : j_X7_judge u v1 v2 = some x0) : MetD l D tc yX7_judge cX7_judge 3 (some .int) 16 431 [.ref o, .int v1, .int v2] (Mw tc o ad u) (some (.int x0.1)) (Mw tc o ad x0.2) :=
  x_entI (fun x : Int32 × St => x.1) (fun x : Int32 × St => Mw tc o ad x.2) (by decide) (own := RX7) rfl (Nat.le_of_ble_eq_true rfl) (fun p e s m args below meth c A Q ls C V hl hret => by
  obtain ⟨hx, hb, hr, hml, hown, hts, hlk, hN⟩ := id C
  have hRf : 16 ≤ (rmz 16 0 0 431).frames := Nat.le_refl _
  have hRl : 431 ≤ (rmz 16 0 0 431).locals := Nat.le_refl _
  generalize (rmz 16 0 0 431) = R at hret hRf hRl ⊢
  generalize s.heap = H at V ⊢
  generalize ([] : List Loc) = locs at V ⊢
  have hl : lv_has ls 3 [(0, .ref o), (1, .int v1), (2, .int v2)] := hl
  unfold j_X7_judge at hj
  refine lv_aload_n hx hb dX7_judge_0 rfl (lv_at hl 0 rfl) ?_
  refine lv_iload_n hx hb dX7_judge_1 rfl (lv_at hl 1 rfl) ?_
  obtain ⟨r1, hr1, hj⟩ := bd_some hj
  refine x_allI V _ (rg_map _) (x_runV (n := 1) (rest := []) C V _ (rg_map _) (rg_nd _) (k_X7_isHistory l D tc o ad u v1 hr1) tw_630 tw_632 tp_10 tw_6 tw_633 (by decide +kernel) ⟨Nat.le_trans (Nat.le_of_ble_eq_true rfl) hRf, Nat.le_trans (Nat.le_of_ble_eq_true rfl) hRl⟩ ⟨Nat.zero_le _, Nat.zero_le _⟩ 0 6 rfl rfl rfl hl.1 rfl (Nat.le_of_ble_eq_true rfl) dX7_judge_2) (fun H locs V zr1 => ?_)
  replace V : Wd D tc A s H locs (Mw tc o ad u) := V
  refine lv_if_eq (tgt := 15) hx hb dX7_judge_5 (by decide) (fun c2 => ?_) (fun c2 => ?_)
  · replace hj := ip _ c2 hj
    refine lv_iconst (v := (-1)) hx hb dX7_judge_15 (by decide) ?_
    exact hret ((-1 : Int32), u) hj rfl V dX7_judge_16
  · replace hj := iq _ c2 hj
    refine lv_iload_n hx hb dX7_judge_8 rfl (lv_at hl 2 rfl) ?_
    obtain ⟨r3, hr3, hj⟩ := bd_some hj
    refine x_allI V _ (rg_map _) (x_runS (n := 1) (rest := []) C V _ (rg_map _) (rg_nd _) (k_X7_isRule l D tc (Mw tc o ad u) v2 hr3) tw_677 tw_678 tw_6 tw_679 (by decide +kernel) ⟨Nat.le_trans (Nat.le_of_ble_eq_true rfl) hRf, Nat.le_trans (Nat.le_of_ble_eq_true rfl) hRl⟩ ⟨Nat.zero_le _, Nat.zero_le _⟩ rfl hl.1 rfl (Nat.le_of_ble_eq_true rfl) dX7_judge_9) (fun H locs V zr3 => ?_)
    replace V : Wd D tc A s H locs (Mw tc o ad u) := V
    refine lv_if_ne (tgt := 17) hx hb dX7_judge_12 (by decide) (fun c4 => ?_) (fun c4 => ?_)
    · replace hj := iq _ c4 hj
      refine lv_aload_n hx hb dX7_judge_17 rfl (lv_at hl 0 rfl) ?_
      refine lv_iload_n hx hb dX7_judge_18 rfl (lv_at hl 1 rfl) ?_
      refine lv_iload_n hx hb dX7_judge_19 rfl (lv_at hl 2 rfl) ?_
      refine lv_aload_n hx hb dX7_judge_20 rfl (lv_at hl 0 rfl) ?_
      refine lv_iload_n hx hb dX7_judge_21 rfl (lv_at hl 1 rfl) ?_
      obtain ⟨r5, hr5, hj⟩ := bd_some hj
      refine x_allI V _ (rg_map _) (x_runV (n := 1) (rest := [.int v2, .int v1, .ref o]) C V _ (rg_map _) (rg_nd _) (k_X7_all l D tc o ad u v1 hr5) tw_680 tw_682 tp_13 tw_6 tw_683 (by decide +kernel) ⟨Nat.le_trans (Nat.le_of_ble_eq_true rfl) hRf, Nat.le_trans (Nat.le_of_ble_eq_true rfl) hRl⟩ ⟨Nat.zero_le _, Nat.zero_le _⟩ 0 6 rfl rfl rfl hl.1 rfl (Nat.le_of_ble_eq_true rfl) dX7_judge_22) (fun H locs V zr5 => ?_)
      replace V : Wd D tc A s H locs (Mw tc o ad u) := V
      obtain ⟨⟨r6, u7⟩, hr6, hj⟩ := bd_some hj
      refine x_allI V _ (rg_map _) (x_runV (n := 3) (rest := []) C V _ (rg_map _) (rg_nd _) (k_X7_isTaken l D tc o ad u v1 v2 r5 hr6) tw_696 tw_698 tp_16 tw_6 tw_699 (by decide +kernel) ⟨Nat.le_trans (Nat.le_of_ble_eq_true rfl) hRf, Nat.le_trans (Nat.le_of_ble_eq_true rfl) hRl⟩ ⟨Nat.zero_le _, Nat.zero_le _⟩ 0 6 rfl rfl rfl hl.1 rfl (Nat.le_of_ble_eq_true rfl) dX7_judge_25) (fun H locs V zr6 => ?_)
      replace V : Wd D tc A s H locs (Mw tc o ad u7) := V
      refine lv_if_eq (tgt := 35) hx hb dX7_judge_28 (by decide) (fun c8 => ?_) (fun c8 => ?_)
      · replace hj := ip _ c8 hj
        refine lv_iconst (v := 0) hx hb dX7_judge_35 (by decide) ?_
        exact hret ((0 : Int32), u7) hj rfl V dX7_judge_36
      · replace hj := iq _ c8 hj
        refine lv_iconst (v := 1) hx hb dX7_judge_31 (by decide) ?_
        refine lv_goto (tgt := 36) hx hb dX7_judge_32 (by decide) ?_
        exact hret ((1 : Int32), u7) hj rfl V dX7_judge_36
    · replace hj := ip _ c4 hj
      refine lv_iconst (v := (-1)) hx hb dX7_judge_15 (by decide) ?_
      exact hret ((-1 : Int32), u) hj rfl V dX7_judge_16)

def j_X7_first (u : St) (v1 : Int32) (v2 : Int32) (v3 : Int32) : Option (Int32 × St) :=
  (j_X7_isHistory u v1).bind (fun r1 => if r1 = (0 : Int32) then some ((-1 : Int32), u) else (j_X7_isRule v2).bind (fun r3 => if r3 = (0 : Int32) then some ((-1 : Int32), u) else (j_X7_all u v1).bind (fun r5 => (j_X7_isTaken u v1 v2 r5).bind (fun ⟨r6, u7⟩ => if r6 = (0 : Int32) then some ((-1 : Int32), u7) else (j_X7_in v3 (0 : Int32) ((u7.1 21) - (1 : Int32))).bind (fun r9 => if r9 = (0 : Int32) then some ((-1 : Int32), u7) else gd v3 11 (some (u7.2.1 18 v3.toNatClampNeg, u7)))))))
set_option maxHeartbeats 4000000 in
set_option maxRecDepth 100000 in
theorem k_X7_first (l : Launch) (D : va_G) (tc : Nat → ClassId) (o : Nat) (ad : Nat → Nat) (u : St) (v1 : Int32) (v2 : Int32) (v3 : Int32) {x0 : Int32 × St} (hj : j_X7_first u v1 v2 v3 = some x0) : MetD l D tc yX7_first cX7_first 4 (some .int) 16 431 [.ref o, .int v1, .int v2, .int v3] (Mw tc o ad u) (some (.int x0.1)) (Mw tc o ad x0.2) :=
  x_entI (fun x : Int32 × St => x.1) (fun x : Int32 × St => Mw tc o ad x.2) (by decide) (own := RX7) rfl (Nat.le_of_ble_eq_true rfl) (fun p e s m args below meth c A Q ls C V hl hret => by
  obtain ⟨hx, hb, hr, hml, hown, hts, hlk, hN⟩ := id C
  have hRf : 16 ≤ (rmz 16 0 0 431).frames := Nat.le_refl _
  have hRl : 431 ≤ (rmz 16 0 0 431).locals := Nat.le_refl _
  generalize (rmz 16 0 0 431) = R at hret hRf hRl ⊢
  generalize s.heap = H at V ⊢
  generalize ([] : List Loc) = locs at V ⊢
  have hl : lv_has ls 4 [(0, .ref o), (1, .int v1), (2, .int v2), (3, .int v3)] := hl
  unfold j_X7_first at hj
  refine lv_aload_n hx hb dX7_first_0 rfl (lv_at hl 0 rfl) ?_
  refine lv_iload_n hx hb dX7_first_1 rfl (lv_at hl 1 rfl) ?_
  obtain ⟨r1, hr1, hj⟩ := bd_some hj
  refine x_allI V _ (rg_map _) (x_runV (n := 1) (rest := []) C V _ (rg_map _) (rg_nd _) (k_X7_isHistory l D tc o ad u v1 hr1) tw_630 tw_632 tp_10 tw_6 tw_633 (by decide +kernel) ⟨Nat.le_trans (Nat.le_of_ble_eq_true rfl) hRf, Nat.le_trans (Nat.le_of_ble_eq_true rfl) hRl⟩ ⟨Nat.zero_le _, Nat.zero_le _⟩ 0 6 rfl rfl rfl hl.1 rfl (Nat.le_of_ble_eq_true rfl) dX7_first_2) (fun H locs V zr1 => ?_)
  replace V : Wd D tc A s H locs (Mw tc o ad u) := V
  refine lv_if_eq (tgt := 29) hx hb dX7_first_5 (by decide) (fun c2 => ?_) (fun c2 => ?_)
  · replace hj := ip _ c2 hj
    refine lv_iconst (v := (-1)) hx hb dX7_first_29 (by decide) ?_
    exact hret ((-1 : Int32), u) hj rfl V dX7_first_30
  · replace hj := iq _ c2 hj
    refine lv_iload_n hx hb dX7_first_8 rfl (lv_at hl 2 rfl) ?_
    obtain ⟨r3, hr3, hj⟩ := bd_some hj
    refine x_allI V _ (rg_map _) (x_runS (n := 1) (rest := []) C V _ (rg_map _) (rg_nd _) (k_X7_isRule l D tc (Mw tc o ad u) v2 hr3) tw_677 tw_678 tw_6 tw_679 (by decide +kernel) ⟨Nat.le_trans (Nat.le_of_ble_eq_true rfl) hRf, Nat.le_trans (Nat.le_of_ble_eq_true rfl) hRl⟩ ⟨Nat.zero_le _, Nat.zero_le _⟩ rfl hl.1 rfl (Nat.le_of_ble_eq_true rfl) dX7_first_9) (fun H locs V zr3 => ?_)
    replace V : Wd D tc A s H locs (Mw tc o ad u) := V
    refine lv_if_eq (tgt := 29) hx hb dX7_first_12 (by decide) (fun c4 => ?_) (fun c4 => ?_)
    · replace hj := ip _ c4 hj
      refine lv_iconst (v := (-1)) hx hb dX7_first_29 (by decide) ?_
      exact hret ((-1 : Int32), u) hj rfl V dX7_first_30
    · replace hj := iq _ c4 hj
      refine lv_aload_n hx hb dX7_first_15 rfl (lv_at hl 0 rfl) ?_
      refine lv_iload_n hx hb dX7_first_16 rfl (lv_at hl 1 rfl) ?_
      refine lv_iload_n hx hb dX7_first_17 rfl (lv_at hl 2 rfl) ?_
      refine lv_aload_n hx hb dX7_first_18 rfl (lv_at hl 0 rfl) ?_
      refine lv_iload_n hx hb dX7_first_19 rfl (lv_at hl 1 rfl) ?_
      obtain ⟨r5, hr5, hj⟩ := bd_some hj
      refine x_allI V _ (rg_map _) (x_runV (n := 1) (rest := [.int v2, .int v1, .ref o]) C V _ (rg_map _) (rg_nd _) (k_X7_all l D tc o ad u v1 hr5) tw_680 tw_682 tp_13 tw_6 tw_683 (by decide +kernel) ⟨Nat.le_trans (Nat.le_of_ble_eq_true rfl) hRf, Nat.le_trans (Nat.le_of_ble_eq_true rfl) hRl⟩ ⟨Nat.zero_le _, Nat.zero_le _⟩ 0 6 rfl rfl rfl hl.1 rfl (Nat.le_of_ble_eq_true rfl) dX7_first_20) (fun H locs V zr5 => ?_)
      replace V : Wd D tc A s H locs (Mw tc o ad u) := V
      obtain ⟨⟨r6, u7⟩, hr6, hj⟩ := bd_some hj
      refine x_allI V _ (rg_map _) (x_runV (n := 3) (rest := []) C V _ (rg_map _) (rg_nd _) (k_X7_isTaken l D tc o ad u v1 v2 r5 hr6) tw_696 tw_698 tp_16 tw_6 tw_699 (by decide +kernel) ⟨Nat.le_trans (Nat.le_of_ble_eq_true rfl) hRf, Nat.le_trans (Nat.le_of_ble_eq_true rfl) hRl⟩ ⟨Nat.zero_le _, Nat.zero_le _⟩ 0 6 rfl rfl rfl hl.1 rfl (Nat.le_of_ble_eq_true rfl) dX7_first_23) (fun H locs V zr6 => ?_)
      replace V : Wd D tc A s H locs (Mw tc o ad u7) := V
      refine lv_if_ne (tgt := 31) hx hb dX7_first_26 (by decide) (fun c8 => ?_) (fun c8 => ?_)
      · replace hj := iq _ c8 hj
        refine lv_iload_n hx hb dX7_first_31 rfl (lv_at hl 3 rfl) ?_
        refine lv_iconst (v := 0) hx hb dX7_first_32 (by decide) ?_
        refine lv_aload_n hx hb dX7_first_33 rfl (lv_at hl 0 rfl) ?_
        refine x_get hx hb hts hown V inX7 0 rfl rfl 21 (by decide) tw_541 rfl rfl dX7_first_34 ?_
        refine lv_iconst (v := 1) hx hb dX7_first_37 (by decide) ?_
        refine lv_isub hx hb dX7_first_38 ?_
        obtain ⟨r9, hr9, hj⟩ := bd_some hj
        refine x_allI V _ (rg_map _) (x_runS (n := 3) (rest := []) C V _ (rg_map _) (rg_nd _) (k_X7_in l D tc (Mw tc o ad u7) v3 (0 : Int32) ((u7.1 21) - (1 : Int32)) hr9) tw_619 tw_620 tw_6 tw_621 (by decide +kernel) ⟨Nat.le_trans (Nat.le_of_ble_eq_true rfl) hRf, Nat.le_trans (Nat.le_of_ble_eq_true rfl) hRl⟩ ⟨Nat.zero_le _, Nat.zero_le _⟩ rfl hl.1 rfl (Nat.le_of_ble_eq_true rfl) dX7_first_39) (fun H locs V zr9 => ?_)
        replace V : Wd D tc A s H locs (Mw tc o ad u7) := V
        refine lv_if_eq (tgt := 54) hx hb dX7_first_42 (by decide) (fun c10 => ?_) (fun c10 => ?_)
        · replace hj := ip _ c10 hj
          refine lv_iconst (v := (-1)) hx hb dX7_first_54 (by decide) ?_
          exact hret ((-1 : Int32), u7) hj rfl V dX7_first_55
        · replace hj := iq _ c10 hj
          refine lv_aload_n hx hb dX7_first_45 rfl (lv_at hl 0 rfl) ?_
          refine x_get hx hb hts hown V inX7 0 rfl rfl 18 (by decide) tw_538 rfl rfl dX7_first_46 ?_
          refine lv_iload_n hx hb dX7_first_49 rfl (lv_at hl 3 rfl) ?_
          obtain ⟨i11, hj⟩ := gd_some hj
          refine x_iald hx hb V 15 rfl i11 dX7_first_50 ?_
          refine lv_goto (tgt := 55) hx hb dX7_first_51 (by decide) ?_
          exact hret (u7.2.1 18 v3.toNatClampNeg, u7) hj rfl V dX7_first_55
      · replace hj := ip _ c8 hj
        refine lv_iconst (v := (-1)) hx hb dX7_first_29 (by decide) ?_
        exact hret ((-1 : Int32), u7) hj rfl V dX7_first_30)

def j_X7_orders (u : St) (v1 : Int32) (v2 : Int32) : Option (Int64 × St) :=
  (j_X7_isHistory u v1).bind (fun r1 => if r1 = (0 : Int32) then some ((-1 : Int64), u) else (j_X7_isRule v2).bind (fun r3 => if r3 = (0 : Int32) then some ((-1 : Int64), u) else (j_X7_all u v1).bind (fun r5 => (j_X7_prepare u v1 v2 r5).bind (fun u7 => nm (sI u7 23 (1 : Int32)) (fun u8 => nm (sL u8 22 0 (0 : Int64)) (fun u9 => (j_X7_all u9 v1).bind (fun r10 => (j_X7_all u9 v1).bind (fun r11 => (j_X7_answeredOf u9 v1 r11).bind (fun r12 => (j_X7_goes 12 u9 v1 r10 r12 (0 : Int32) (0 : Int32)).bind (fun ⟨r13, u14⟩ => some (u14.2.2 22 0, u14)))))))))))
set_option maxHeartbeats 4000000 in
set_option maxRecDepth 100000 in
theorem k_X7_orders (l : Launch) (D : va_G) (tc : Nat → ClassId) (o : Nat) (ad : Nat → Nat) (u : St) (v1 : Int32) (v2 : Int32) {x0 : Int64 × St} (hj : j_X7_orders u v1 v2 = some x0) : MetD l D tc yX7_orders cX7_orders 4 (some .long) 15 408 [.ref o, .int v1, .int v2] (Mw tc o ad u) (some (.long x0.1)) (Mw tc o ad x0.2) :=
  x_entL (fun x : Int64 × St => x.1) (fun x : Int64 × St => Mw tc o ad x.2) (by decide) (own := RX7) rfl (Nat.le_of_ble_eq_true rfl) (fun p e s m args below meth c A Q ls C V hl hret => by
  obtain ⟨hx, hb, hr, hml, hown, hts, hlk, hN⟩ := id C
  have hRf : 15 ≤ (rmz 15 0 0 408).frames := Nat.le_refl _
  have hRl : 408 ≤ (rmz 15 0 0 408).locals := Nat.le_refl _
  generalize (rmz 15 0 0 408) = R at hret hRf hRl ⊢
  generalize s.heap = H at V ⊢
  generalize ([] : List Loc) = locs at V ⊢
  have hl : lv_has ls 4 [(0, .ref o), (1, .int v1), (2, .int v2)] := hl
  unfold j_X7_orders at hj
  refine lv_aload_n hx hb dX7_orders_0 rfl (lv_at hl 0 rfl) ?_
  refine lv_iload_n hx hb dX7_orders_1 rfl (lv_at hl 1 rfl) ?_
  obtain ⟨r1, hr1, hj⟩ := bd_some hj
  refine x_allI V _ (rg_map _) (x_runV (n := 1) (rest := []) C V _ (rg_map _) (rg_nd _) (k_X7_isHistory l D tc o ad u v1 hr1) tw_630 tw_632 tp_10 tw_6 tw_633 (by decide +kernel) ⟨Nat.le_trans (Nat.le_of_ble_eq_true rfl) hRf, Nat.le_trans (Nat.le_of_ble_eq_true rfl) hRl⟩ ⟨Nat.zero_le _, Nat.zero_le _⟩ 0 6 rfl rfl rfl hl.1 rfl (Nat.le_of_ble_eq_true rfl) dX7_orders_2) (fun H locs V zr1 => ?_)
  replace V : Wd D tc A s H locs (Mw tc o ad u) := V
  refine lv_if_eq (tgt := 15) hx hb dX7_orders_5 (by decide) (fun c2 => ?_) (fun c2 => ?_)
  · replace hj := ip _ c2 hj
    refine lv_ldc2 (v := (-1)) hx hb hown (hts _ tw_740) dX7_orders_15 ?_
    exact hret ((-1 : Int64), u) hj V dX7_orders_18
  · replace hj := iq _ c2 hj
    refine lv_iload_n hx hb dX7_orders_8 rfl (lv_at hl 2 rfl) ?_
    obtain ⟨r3, hr3, hj⟩ := bd_some hj
    refine x_allI V _ (rg_map _) (x_runS (n := 1) (rest := []) C V _ (rg_map _) (rg_nd _) (k_X7_isRule l D tc (Mw tc o ad u) v2 hr3) tw_677 tw_678 tw_6 tw_679 (by decide +kernel) ⟨Nat.le_trans (Nat.le_of_ble_eq_true rfl) hRf, Nat.le_trans (Nat.le_of_ble_eq_true rfl) hRl⟩ ⟨Nat.zero_le _, Nat.zero_le _⟩ rfl hl.1 rfl (Nat.le_of_ble_eq_true rfl) dX7_orders_9) (fun H locs V zr3 => ?_)
    replace V : Wd D tc A s H locs (Mw tc o ad u) := V
    refine lv_if_ne (tgt := 19) hx hb dX7_orders_12 (by decide) (fun c4 => ?_) (fun c4 => ?_)
    · replace hj := iq _ c4 hj
      refine lv_aload_n hx hb dX7_orders_19 rfl (lv_at hl 0 rfl) ?_
      refine lv_iload_n hx hb dX7_orders_20 rfl (lv_at hl 1 rfl) ?_
      refine lv_iload_n hx hb dX7_orders_21 rfl (lv_at hl 2 rfl) ?_
      refine lv_aload_n hx hb dX7_orders_22 rfl (lv_at hl 0 rfl) ?_
      refine lv_iload_n hx hb dX7_orders_23 rfl (lv_at hl 1 rfl) ?_
      obtain ⟨r5, hr5, hj⟩ := bd_some hj
      refine x_allI V _ (rg_map _) (x_runV (n := 1) (rest := [.int v2, .int v1, .ref o]) C V _ (rg_map _) (rg_nd _) (k_X7_all l D tc o ad u v1 hr5) tw_680 tw_682 tp_13 tw_6 tw_683 (by decide +kernel) ⟨Nat.le_trans (Nat.le_of_ble_eq_true rfl) hRf, Nat.le_trans (Nat.le_of_ble_eq_true rfl) hRl⟩ ⟨Nat.zero_le _, Nat.zero_le _⟩ 0 6 rfl rfl rfl hl.1 rfl (Nat.le_of_ble_eq_true rfl) dX7_orders_24) (fun H locs V zr5 => ?_)
      replace V : Wd D tc A s H locs (Mw tc o ad u) := V
      obtain ⟨u7, hr6, hj⟩ := bd_some hj
      refine x_allV V _ (rg_map _) (x_runV (n := 3) (rest := []) C V _ (rg_map _) (rg_nd _) (k_X7_prepare l D tc o ad u v1 v2 r5 hr6) tw_700 tw_702 tp_17 tw_6 tw_703 (by decide +kernel) ⟨Nat.le_trans (Nat.le_of_ble_eq_true rfl) hRf, Nat.le_trans (Nat.le_of_ble_eq_true rfl) hRl⟩ ⟨Nat.zero_le _, Nat.zero_le _⟩ 0 6 rfl rfl rfl hl.1 rfl (Nat.le_of_ble_eq_true rfl) dX7_orders_27) (fun H locs V => ?_)
      replace V : Wd D tc A s H locs (Mw tc o ad u7) := V
      refine lv_aload_n hx hb dX7_orders_30 rfl (lv_at hl 0 rfl) ?_
      refine lv_iconst (v := 1) hx hb dX7_orders_31 (by decide) ?_
      refine x_put hx hb hts hown V inX7 tyX7_ok nmX7 0 rfl rfl 23 (by decide) tw_543 rfl rfl rfl rfl (Nat.le_of_ble_eq_true rfl) dX7_orders_32 (fun H locs V => ?_)
      obtain ⟨u8, eu8, hj⟩ := nm_some hj
      replace V : Wd D tc A s H locs (Mw tc o ad u8) := by rw [eu8]; exact V
      refine lv_aload_n hx hb dX7_orders_35 rfl (lv_at hl 0 rfl) ?_
      refine lv_lconst (v := 0) hx hb dX7_orders_36 (by decide) ?_
      refine x_put hx hb hts hown V inX7 tyX7_ok nmX7 0 rfl rfl 22 (by decide) tw_542 rfl rfl rfl rfl (Nat.le_of_ble_eq_true rfl) dX7_orders_37 (fun H locs V => ?_)
      obtain ⟨u9, eu9, hj⟩ := nm_some hj
      replace V : Wd D tc A s H locs (Mw tc o ad u9) := by rw [eu9]; exact V
      refine lv_aload_n hx hb dX7_orders_40 rfl (lv_at hl 0 rfl) ?_
      refine lv_iload_n hx hb dX7_orders_41 rfl (lv_at hl 1 rfl) ?_
      refine lv_aload_n hx hb dX7_orders_42 rfl (lv_at hl 0 rfl) ?_
      refine lv_iload_n hx hb dX7_orders_43 rfl (lv_at hl 1 rfl) ?_
      obtain ⟨r10, hr10, hj⟩ := bd_some hj
      refine x_allI V _ (rg_map _) (x_runV (n := 1) (rest := [.int v1, .ref o]) C V _ (rg_map _) (rg_nd _) (k_X7_all l D tc o ad u9 v1 hr10) tw_680 tw_682 tp_13 tw_6 tw_683 (by decide +kernel) ⟨Nat.le_trans (Nat.le_of_ble_eq_true rfl) hRf, Nat.le_trans (Nat.le_of_ble_eq_true rfl) hRl⟩ ⟨Nat.zero_le _, Nat.zero_le _⟩ 0 6 rfl rfl rfl hl.1 rfl (Nat.le_of_ble_eq_true rfl) dX7_orders_44) (fun H locs V zr10 => ?_)
      replace V : Wd D tc A s H locs (Mw tc o ad u9) := V
      refine lv_aload_n hx hb dX7_orders_47 rfl (lv_at hl 0 rfl) ?_
      refine lv_iload_n hx hb dX7_orders_48 rfl (lv_at hl 1 rfl) ?_
      refine lv_aload_n hx hb dX7_orders_49 rfl (lv_at hl 0 rfl) ?_
      refine lv_iload_n hx hb dX7_orders_50 rfl (lv_at hl 1 rfl) ?_
      obtain ⟨r11, hr11, hj⟩ := bd_some hj
      refine x_allI V _ (rg_map _) (x_runV (n := 1) (rest := [.int v1, .ref o, .int r10, .int v1, .ref o]) C V _ (rg_map _) (rg_nd _) (k_X7_all l D tc o ad u9 v1 hr11) tw_680 tw_682 tp_13 tw_6 tw_683 (by decide +kernel) ⟨Nat.le_trans (Nat.le_of_ble_eq_true rfl) hRf, Nat.le_trans (Nat.le_of_ble_eq_true rfl) hRl⟩ ⟨Nat.zero_le _, Nat.zero_le _⟩ 0 6 rfl rfl rfl hl.1 rfl (Nat.le_of_ble_eq_true rfl) dX7_orders_51) (fun H locs V zr11 => ?_)
      replace V : Wd D tc A s H locs (Mw tc o ad u9) := V
      obtain ⟨r12, hr12, hj⟩ := bd_some hj
      refine x_allI V _ (rg_map _) (x_runV (n := 2) (rest := [.int r10, .int v1, .ref o]) C V _ (rg_map _) (rg_nd _) (k_X7_answeredOf l D tc o ad u9 v1 r11 hr12) tw_708 tw_710 tp_19 tw_6 tw_711 (by decide +kernel) ⟨Nat.le_trans (Nat.le_of_ble_eq_true rfl) hRf, Nat.le_trans (Nat.le_of_ble_eq_true rfl) hRl⟩ ⟨Nat.zero_le _, Nat.zero_le _⟩ 0 6 rfl rfl rfl hl.1 rfl (Nat.le_of_ble_eq_true rfl) dX7_orders_54) (fun H locs V zr12 => ?_)
      replace V : Wd D tc A s H locs (Mw tc o ad u9) := V
      refine lv_iconst (v := 0) hx hb dX7_orders_57 (by decide) ?_
      refine lv_iconst (v := 0) hx hb dX7_orders_58 (by decide) ?_
      obtain ⟨⟨r13, u14⟩, hr13, hj⟩ := bd_some hj
      refine x_allI V _ (rg_map _) (x_runV (n := 5) (rest := []) C V _ (rg_map _) (rg_nd _) (k_X7_goes l D tc o ad 12 u9 v1 r10 r12 (0 : Int32) (0 : Int32) hr13) tw_712 tw_714 tp_20 tw_6 tw_715 (by decide +kernel) ⟨Nat.le_trans (Nat.le_of_ble_eq_true rfl) hRf, Nat.le_trans (Nat.le_of_ble_eq_true rfl) hRl⟩ ⟨Nat.zero_le _, Nat.zero_le _⟩ 0 6 rfl rfl rfl hl.1 rfl (Nat.le_of_ble_eq_true rfl) dX7_orders_59) (fun H locs V zr13 => ?_)
      replace V : Wd D tc A s H locs (Mw tc o ad u14) := V
      refine lv_istore_n (lv' := [(3, .int r13), (0, .ref o), (1, .int v1), (2, .int v2)]) hx hb dX7_orders_62 rfl hl (by decide) rfl (fun ls hl => ?_)
      refine lv_aload_n hx hb dX7_orders_63 rfl (lv_at hl 1 rfl) ?_
      refine x_get hx hb hts hown V inX7 0 rfl rfl 22 (by decide) tw_542 rfl rfl dX7_orders_64 ?_
      exact hret (u14.2.2 22 0, u14) hj V dX7_orders_67
    · replace hj := ip _ c4 hj
      refine lv_ldc2 (v := (-1)) hx hb hown (hts _ tw_740) dX7_orders_15 ?_
      exact hret ((-1 : Int64), u) hj V dX7_orders_18)

def q_X7_least_122 (k_122 : St → Int32 → Int32 → Int32 → Option (Int32 × St)) (u : St) (v3 : Int32) (v5 : Int32) (v6 : Int32) : Option (Int32 × St) :=
  if (10 : Int32) ≤ v6 then some (v5, u) else nm (v5 + ((v3 >>> (v6 &&& 31)) &&& (1 : Int32))) (fun x13 => nm (v6 + 1) (fun x14 => k_122 u v3 x13 x14))
set_option maxHeartbeats 4000000 in
set_option maxRecDepth 100000 in
theorem b_X7_least_122 {p : Program} {l : Launch} {e : Env} {R : Room} {s : State} {m : MethodId} {args : Array Value} {below : List Frame} {meth : Method} {c : Code} {A : Nat → Prop} {Q : State → Prop} {D : va_G} {tc : Nat → ClassId} (o : Nat) (ad : Nat → Nat) (hRf : 16 ≤ R.frames) (hRl : 431 ≤ R.locals) (C : Cx p s m args meth c cX7_least 7 RX7 (some .int)) {x0 : Int32 × St} (hret : RetI p l e R s m args below meth c Q cX7_least D tc A .int (some x0) (fun x : Int32 × St => x.1) (fun x : Int32 × St => Mw tc o ad x.2)) (k_122 : St → Int32 → Int32 → Int32 → Option (Int32 × St)) (hk_122 : ∀ (u : St) (v3 : Int32) (v5 : Int32) (v6 : Int32), k_122 u v3 v5 v6 = some x0 → ∀ (H : Heap) (locs : List Loc) (ls : Array Slot), Wd D tc A s H locs (Mw tc o ad u) → lv_has ls 7 [(3, .int v3), (5, .int v5), (6, .int v6)] → W p l e R s m args below meth c H locs 0 0 Q (F0 m 122 ls [])) : ∀ (u : St) (v3 : Int32) (v5 : Int32) (v6 : Int32), q_X7_least_122 k_122 u v3 v5 v6 = some x0 → ∀ (H : Heap) (locs : List Loc) (ls : Array Slot), Wd D tc A s H locs (Mw tc o ad u) → lv_has ls 7 [(3, .int v3), (5, .int v5), (6, .int v6)] → W p l e R s m args below meth c H locs 0 0 Q (F0 m 122 ls []) := by
  obtain ⟨hx, hb, hr, hml, hown, hts, hlk, hN⟩ := id C
  intro u v3 v5 v6 hj H locs ls V hl
  unfold q_X7_least_122 at hj
  refine lv_iload hx hb dX7_least_122 (lv_at hl 2 rfl) ?_
  refine lv_bipush (v := 10) hx hb dX7_least_124 (by decide) ?_
  refine lv_icmp_ge (tgt := 146) hx hb dX7_least_126 (by decide) (fun c12 => ?_) (fun c12 => ?_)
  · replace hj := ip _ c12 hj
    refine lv_iload hx hb dX7_least_146 (lv_at hl 1 rfl) ?_
    exact hret (v5, u) hj rfl V dX7_least_148
  · replace hj := iq _ c12 hj
    refine lv_iload hx hb dX7_least_129 (lv_at hl 1 rfl) ?_
    refine lv_iload_n hx hb dX7_least_131 rfl (lv_at hl 0 rfl) ?_
    refine lv_iload hx hb dX7_least_132 (lv_at hl 2 rfl) ?_
    refine lv_ishr hx hb dX7_least_134 ?_
    refine lv_iconst (v := 1) hx hb dX7_least_135 (by decide) ?_
    refine lv_iand hx hb dX7_least_136 ?_
    refine lv_iadd hx hb dX7_least_137 ?_
    obtain ⟨x13, ex13, hj⟩ := nm_some hj
    refine x_topi ex13 ?_
    refine lv_istore (lv' := [(5, .int x13), (3, .int v3), (6, .int v6)]) hx hb dX7_least_138 hl (by decide) rfl (fun ls hl => ?_)
    obtain ⟨x14, ex14, hj⟩ := nm_some hj
    refine lv_iinc (v := x14) (lv' := [(6, .int x14), (5, .int x13), (3, .int v3)]) hx hb dX7_least_140 hl (k := 2) rfl (by rw [ex14]; rfl) (by decide) rfl (fun ls hl => ?_)
    refine lv_goto (tgt := 122) hx hb dX7_least_143 (by decide) ?_
    exact hk_122 u v3 x13 x14 hj _ _ _ V (lv_sub hl [2, 1, 0] rfl)
def j_X7_least_122  : Nat → St → Int32 → Int32 → Int32 → Option (Int32 × St)
  | 0 => fun _ _ _ _ => none
  | n + 1 => q_X7_least_122  (j_X7_least_122  n)
theorem lp_X7_least_122 {p : Program} {l : Launch} {e : Env} {R : Room} {s : State} {m : MethodId} {args : Array Value} {below : List Frame} {meth : Method} {c : Code} {A : Nat → Prop} {Q : State → Prop} {D : va_G} {tc : Nat → ClassId} (o : Nat) (ad : Nat → Nat) (hRf : 16 ≤ R.frames) (hRl : 431 ≤ R.locals) (C : Cx p s m args meth c cX7_least 7 RX7 (some .int)) {x0 : Int32 × St} (hret : RetI p l e R s m args below meth c Q cX7_least D tc A .int (some x0) (fun x : Int32 × St => x.1) (fun x : Int32 × St => Mw tc o ad x.2))  : ∀ (n : Nat), ∀ (u : St) (v3 : Int32) (v5 : Int32) (v6 : Int32), j_X7_least_122  n u v3 v5 v6 = some x0 → ∀ (H : Heap) (locs : List Loc) (ls : Array Slot), Wd D tc A s H locs (Mw tc o ad u) → lv_has ls 7 [(3, .int v3), (5, .int v5), (6, .int v6)] → W p l e R s m args below meth c H locs 0 0 Q (F0 m 122 ls []) := by
  intro n
  induction n with
  | zero =>
    intro u v3 v5 v6 hj
    have hj : (none : Option (Int32 × St)) = some x0 := hj
    cases hj
  | succ n ih =>
    intro u v3 v5 v6 hj
    exact b_X7_least_122 o ad hRf hRl C hret   (j_X7_least_122  n) ih u v3 v5 v6 hj
def q_X7_least_55 (k_43 : St → Int32 → Int32 → Int32 → Int32 → Option (Int32 × St)) (k_55 : St → Int32 → Int32 → Int32 → Int32 → Int32 → Option (Int32 × St)) (u : St) (v1 : Int32) (v2 : Int32) (v3 : Int32) (v4 : Int32) (v5 : Int32) : Option (Int32 × St) :=
  gd v1 12 (if (u.2.1 7 v1.toNatClampNeg) ≤ v5 then k_43 u v1 v2 v3 v4 else if ((v3 >>> (v5 &&& 31)) &&& (1 : Int32)) = (1 : Int32) then (j_X7_isTaken u v1 v2 (v3 &&& (((1 : Int32) <<< (v5 &&& 31)) ^^^ (-1 : Int32)))).bind (fun ⟨r19, u20⟩ => if r19 = (0 : Int32) then nm (v3 &&& (((1 : Int32) <<< (v5 &&& 31)) ^^^ (-1 : Int32))) (fun x23 => nm (v5 + 1) (fun x24 => k_55 u20 v1 v2 x23 v4 x24)) else nm (v5 + 1) (fun x22 => k_55 u20 v1 v2 v3 v4 x22)) else nm (v5 + 1) (fun x18 => k_55 u v1 v2 v3 v4 x18))
set_option maxHeartbeats 4000000 in
set_option maxRecDepth 100000 in
theorem b_X7_least_55 {p : Program} {l : Launch} {e : Env} {R : Room} {s : State} {m : MethodId} {args : Array Value} {below : List Frame} {meth : Method} {c : Code} {A : Nat → Prop} {Q : State → Prop} {D : va_G} {tc : Nat → ClassId} (o : Nat) (ad : Nat → Nat) (hRf : 16 ≤ R.frames) (hRl : 431 ≤ R.locals) (C : Cx p s m args meth c cX7_least 7 RX7 (some .int)) {x0 : Int32 × St} (hret : RetI p l e R s m args below meth c Q cX7_least D tc A .int (some x0) (fun x : Int32 × St => x.1) (fun x : Int32 × St => Mw tc o ad x.2)) (k_43 : St → Int32 → Int32 → Int32 → Int32 → Option (Int32 × St)) (hk_43 : ∀ (u : St) (v1 : Int32) (v2 : Int32) (v3 : Int32) (v4 : Int32), k_43 u v1 v2 v3 v4 = some x0 → ∀ (H : Heap) (locs : List Loc) (ls : Array Slot), Wd D tc A s H locs (Mw tc o ad u) → lv_has ls 7 [(0, .ref o), (1, .int v1), (2, .int v2), (3, .int v3), (4, .int v4)] → W p l e R s m args below meth c H locs 0 0 Q (F0 m 43 ls [])) (k_55 : St → Int32 → Int32 → Int32 → Int32 → Int32 → Option (Int32 × St)) (hk_55 : ∀ (u : St) (v1 : Int32) (v2 : Int32) (v3 : Int32) (v4 : Int32) (v5 : Int32), k_55 u v1 v2 v3 v4 v5 = some x0 → ∀ (H : Heap) (locs : List Loc) (ls : Array Slot), Wd D tc A s H locs (Mw tc o ad u) → lv_has ls 7 [(0, .ref o), (1, .int v1), (2, .int v2), (3, .int v3), (4, .int v4), (5, .int v5)] → W p l e R s m args below meth c H locs 0 0 Q (F0 m 55 ls [])) : ∀ (u : St) (v1 : Int32) (v2 : Int32) (v3 : Int32) (v4 : Int32) (v5 : Int32), q_X7_least_55 k_43 k_55 u v1 v2 v3 v4 v5 = some x0 → ∀ (H : Heap) (locs : List Loc) (ls : Array Slot), Wd D tc A s H locs (Mw tc o ad u) → lv_has ls 7 [(0, .ref o), (1, .int v1), (2, .int v2), (3, .int v3), (4, .int v4), (5, .int v5)] → W p l e R s m args below meth c H locs 0 0 Q (F0 m 55 ls []) := by
  obtain ⟨hx, hb, hr, hml, hown, hts, hlk, hN⟩ := id C
  intro u v1 v2 v3 v4 v5 hj H locs ls V hl
  unfold q_X7_least_55 at hj
  refine lv_iload hx hb dX7_least_55 (lv_at hl 5 rfl) ?_
  refine lv_aload_n hx hb dX7_least_57 rfl (lv_at hl 0 rfl) ?_
  refine x_get hx hb hts hown V inX7 0 rfl rfl 7 (by decide) tw_527 rfl rfl dX7_least_58 ?_
  refine lv_iload_n hx hb dX7_least_61 rfl (lv_at hl 1 rfl) ?_
  obtain ⟨i15, hj⟩ := gd_some hj
  refine x_iald hx hb V 5 rfl i15 dX7_least_62 ?_
  refine lv_icmp_ge (tgt := 108) hx hb dX7_least_63 (by decide) (fun c16 => ?_) (fun c16 => ?_)
  · replace hj := ip _ c16 hj
    refine lv_goto (tgt := 43) hx hb dX7_least_108 (by decide) ?_
    exact hk_43 u v1 v2 v3 v4 hj _ _ _ V (lv_sub hl [0, 1, 2, 3, 4] rfl)
  · replace hj := iq _ c16 hj
    refine lv_iload_n hx hb dX7_least_66 rfl (lv_at hl 3 rfl) ?_
    refine lv_iload hx hb dX7_least_67 (lv_at hl 5 rfl) ?_
    refine lv_ishr hx hb dX7_least_69 ?_
    refine lv_iconst (v := 1) hx hb dX7_least_70 (by decide) ?_
    refine lv_iand hx hb dX7_least_71 ?_
    refine lv_iconst (v := 1) hx hb dX7_least_72 (by decide) ?_
    refine lv_icmp_ne (tgt := 102) hx hb dX7_least_73 (by decide) (fun c17 => ?_) (fun c17 => ?_)
    · replace hj := iq _ c17 hj
      obtain ⟨x18, ex18, hj⟩ := nm_some hj
      refine lv_iinc (v := x18) (lv' := [(5, .int x18), (0, .ref o), (1, .int v1), (2, .int v2), (3, .int v3), (4, .int v4)]) hx hb dX7_least_102 hl (k := 5) rfl (by rw [ex18]; rfl) (by decide) rfl (fun ls hl => ?_)
      refine lv_goto (tgt := 55) hx hb dX7_least_105 (by decide) ?_
      exact hk_55 u v1 v2 v3 v4 x18 hj _ _ _ V (lv_sub hl [1, 2, 3, 4, 5, 0] rfl)
    · replace hj := ip _ c17 hj
      refine lv_aload_n hx hb dX7_least_76 rfl (lv_at hl 0 rfl) ?_
      refine lv_iload_n hx hb dX7_least_77 rfl (lv_at hl 1 rfl) ?_
      refine lv_iload_n hx hb dX7_least_78 rfl (lv_at hl 2 rfl) ?_
      refine lv_iload_n hx hb dX7_least_79 rfl (lv_at hl 3 rfl) ?_
      refine lv_iconst (v := 1) hx hb dX7_least_80 (by decide) ?_
      refine lv_iload hx hb dX7_least_81 (lv_at hl 5 rfl) ?_
      refine lv_ishl hx hb dX7_least_83 ?_
      refine lv_iconst (v := (-1)) hx hb dX7_least_84 (by decide) ?_
      refine lv_ixor hx hb dX7_least_85 ?_
      refine lv_iand hx hb dX7_least_86 ?_
      obtain ⟨⟨r19, u20⟩, hr19, hj⟩ := bd_some hj
      refine x_allI V _ (rg_map _) (x_runV (n := 3) (rest := []) C V _ (rg_map _) (rg_nd _) (k_X7_isTaken l D tc o ad u v1 v2 (v3 &&& (((1 : Int32) <<< (v5 &&& 31)) ^^^ (-1 : Int32))) hr19) tw_696 tw_698 tp_16 tw_6 tw_699 (by decide +kernel) ⟨Nat.le_trans (Nat.le_of_ble_eq_true rfl) hRf, Nat.le_trans (Nat.le_of_ble_eq_true rfl) hRl⟩ ⟨Nat.zero_le _, Nat.zero_le _⟩ 0 6 rfl rfl rfl hl.1 rfl (Nat.le_of_ble_eq_true rfl) dX7_least_87) (fun H locs V zr19 => ?_)
      replace V : Wd D tc A s H locs (Mw tc o ad u20) := V
      refine lv_if_ne (tgt := 102) hx hb dX7_least_90 (by decide) (fun c21 => ?_) (fun c21 => ?_)
      · replace hj := iq _ c21 hj
        obtain ⟨x22, ex22, hj⟩ := nm_some hj
        refine lv_iinc (v := x22) (lv' := [(5, .int x22), (0, .ref o), (1, .int v1), (2, .int v2), (3, .int v3), (4, .int v4)]) hx hb dX7_least_102 hl (k := 5) rfl (by rw [ex22]; rfl) (by decide) rfl (fun ls hl => ?_)
        refine lv_goto (tgt := 55) hx hb dX7_least_105 (by decide) ?_
        exact hk_55 u20 v1 v2 v3 v4 x22 hj _ _ _ V (lv_sub hl [1, 2, 3, 4, 5, 0] rfl)
      · replace hj := ip _ c21 hj
        refine lv_iload_n hx hb dX7_least_93 rfl (lv_at hl 3 rfl) ?_
        refine lv_iconst (v := 1) hx hb dX7_least_94 (by decide) ?_
        refine lv_iload hx hb dX7_least_95 (lv_at hl 5 rfl) ?_
        refine lv_ishl hx hb dX7_least_97 ?_
        refine lv_iconst (v := (-1)) hx hb dX7_least_98 (by decide) ?_
        refine lv_ixor hx hb dX7_least_99 ?_
        refine lv_iand hx hb dX7_least_100 ?_
        obtain ⟨x23, ex23, hj⟩ := nm_some hj
        refine x_topi ex23 ?_
        refine lv_istore_n (lv' := [(3, .int x23), (0, .ref o), (1, .int v1), (2, .int v2), (4, .int v4), (5, .int v5)]) hx hb dX7_least_101 rfl hl (by decide) rfl (fun ls hl => ?_)
        obtain ⟨x24, ex24, hj⟩ := nm_some hj
        refine lv_iinc (v := x24) (lv' := [(5, .int x24), (3, .int x23), (0, .ref o), (1, .int v1), (2, .int v2), (4, .int v4)]) hx hb dX7_least_102 hl (k := 5) rfl (by rw [ex24]; rfl) (by decide) rfl (fun ls hl => ?_)
        refine lv_goto (tgt := 55) hx hb dX7_least_105 (by decide) ?_
        exact hk_55 u20 v1 v2 x23 v4 x24 hj _ _ _ V (lv_sub hl [2, 3, 4, 1, 5, 0] rfl)
def j_X7_least_55 (k_43 : St → Int32 → Int32 → Int32 → Int32 → Option (Int32 × St)) : Nat → St → Int32 → Int32 → Int32 → Int32 → Int32 → Option (Int32 × St)
  | 0 => fun _ _ _ _ _ _ => none
  | n + 1 => q_X7_least_55 k_43 (j_X7_least_55 k_43 n)
theorem lp_X7_least_55 {p : Program} {l : Launch} {e : Env} {R : Room} {s : State} {m : MethodId} {args : Array Value} {below : List Frame} {meth : Method} {c : Code} {A : Nat → Prop} {Q : State → Prop} {D : va_G} {tc : Nat → ClassId} (o : Nat) (ad : Nat → Nat) (hRf : 16 ≤ R.frames) (hRl : 431 ≤ R.locals) (C : Cx p s m args meth c cX7_least 7 RX7 (some .int)) {x0 : Int32 × St} (hret : RetI p l e R s m args below meth c Q cX7_least D tc A .int (some x0) (fun x : Int32 × St => x.1) (fun x : Int32 × St => Mw tc o ad x.2)) (k_43 : St → Int32 → Int32 → Int32 → Int32 → Option (Int32 × St)) (hk_43 : ∀ (u : St) (v1 : Int32) (v2 : Int32) (v3 : Int32) (v4 : Int32), k_43 u v1 v2 v3 v4 = some x0 → ∀ (H : Heap) (locs : List Loc) (ls : Array Slot), Wd D tc A s H locs (Mw tc o ad u) → lv_has ls 7 [(0, .ref o), (1, .int v1), (2, .int v2), (3, .int v3), (4, .int v4)] → W p l e R s m args below meth c H locs 0 0 Q (F0 m 43 ls [])) : ∀ (n : Nat), ∀ (u : St) (v1 : Int32) (v2 : Int32) (v3 : Int32) (v4 : Int32) (v5 : Int32), j_X7_least_55 k_43 n u v1 v2 v3 v4 v5 = some x0 → ∀ (H : Heap) (locs : List Loc) (ls : Array Slot), Wd D tc A s H locs (Mw tc o ad u) → lv_has ls 7 [(0, .ref o), (1, .int v1), (2, .int v2), (3, .int v3), (4, .int v4), (5, .int v5)] → W p l e R s m args below meth c H locs 0 0 Q (F0 m 55 ls []) := by
  intro n
  induction n with
  | zero =>
    intro u v1 v2 v3 v4 v5 hj
    have hj : (none : Option (Int32 × St)) = some x0 := hj
    cases hj
  | succ n ih =>
    intro u v1 v2 v3 v4 v5 hj
    exact b_X7_least_55 o ad hRf hRl C hret  k_43 hk_43 (j_X7_least_55 k_43 n) ih u v1 v2 v3 v4 v5 hj
def q_X7_least_43 (k_43 : St → Int32 → Int32 → Int32 → Int32 → Option (Int32 × St)) (u : St) (v1 : Int32) (v2 : Int32) (v3 : Int32) (v4 : Int32) : Option (Int32 × St) :=
  if v3 = v4 then nm (sI u 27 v3) (fun u11 => j_X7_least_122  100 u11 v3 (0 : Int32) (0 : Int32)) else j_X7_least_55 k_43 100 u v1 v2 v3 v3 (0 : Int32)
set_option maxHeartbeats 4000000 in
set_option maxRecDepth 100000 in
theorem b_X7_least_43 {p : Program} {l : Launch} {e : Env} {R : Room} {s : State} {m : MethodId} {args : Array Value} {below : List Frame} {meth : Method} {c : Code} {A : Nat → Prop} {Q : State → Prop} {D : va_G} {tc : Nat → ClassId} (o : Nat) (ad : Nat → Nat) (hRf : 16 ≤ R.frames) (hRl : 431 ≤ R.locals) (C : Cx p s m args meth c cX7_least 7 RX7 (some .int)) {x0 : Int32 × St} (hret : RetI p l e R s m args below meth c Q cX7_least D tc A .int (some x0) (fun x : Int32 × St => x.1) (fun x : Int32 × St => Mw tc o ad x.2)) (k_43 : St → Int32 → Int32 → Int32 → Int32 → Option (Int32 × St)) (hk_43 : ∀ (u : St) (v1 : Int32) (v2 : Int32) (v3 : Int32) (v4 : Int32), k_43 u v1 v2 v3 v4 = some x0 → ∀ (H : Heap) (locs : List Loc) (ls : Array Slot), Wd D tc A s H locs (Mw tc o ad u) → lv_has ls 7 [(0, .ref o), (1, .int v1), (2, .int v2), (3, .int v3), (4, .int v4)] → W p l e R s m args below meth c H locs 0 0 Q (F0 m 43 ls [])) : ∀ (u : St) (v1 : Int32) (v2 : Int32) (v3 : Int32) (v4 : Int32), q_X7_least_43 k_43 u v1 v2 v3 v4 = some x0 → ∀ (H : Heap) (locs : List Loc) (ls : Array Slot), Wd D tc A s H locs (Mw tc o ad u) → lv_has ls 7 [(0, .ref o), (1, .int v1), (2, .int v2), (3, .int v3), (4, .int v4)] → W p l e R s m args below meth c H locs 0 0 Q (F0 m 43 ls []) := by
  obtain ⟨hx, hb, hr, hml, hown, hts, hlk, hN⟩ := id C
  intro u v1 v2 v3 v4 hj H locs ls V hl
  unfold q_X7_least_43 at hj
  refine lv_iload_n hx hb dX7_least_43 rfl (lv_at hl 3 rfl) ?_
  refine lv_iload hx hb dX7_least_44 (lv_at hl 4 rfl) ?_
  refine lv_icmp_eq (tgt := 111) hx hb dX7_least_46 (by decide) (fun c10 => ?_) (fun c10 => ?_)
  · replace hj := ip _ c10 hj
    refine lv_aload_n hx hb dX7_least_111 rfl (lv_at hl 0 rfl) ?_
    refine lv_iload_n hx hb dX7_least_112 rfl (lv_at hl 3 rfl) ?_
    refine x_put hx hb hts hown V inX7 tyX7_ok nmX7 0 rfl rfl 27 (by decide) tw_547 rfl rfl rfl rfl (Nat.le_of_ble_eq_true rfl) dX7_least_113 (fun H locs V => ?_)
    obtain ⟨u11, eu11, hj⟩ := nm_some hj
    replace V : Wd D tc A s H locs (Mw tc o ad u11) := by rw [eu11]; exact V
    refine lv_iconst (v := 0) hx hb dX7_least_116 (by decide) ?_
    refine lv_istore (lv' := [(5, .int (0 : Int32)), (0, .ref o), (1, .int v1), (2, .int v2), (3, .int v3), (4, .int v4)]) hx hb dX7_least_117 hl (by decide) rfl (fun ls hl => ?_)
    refine lv_iconst (v := 0) hx hb dX7_least_119 (by decide) ?_
    refine lv_istore (lv' := [(6, .int (0 : Int32)), (5, .int (0 : Int32)), (0, .ref o), (1, .int v1), (2, .int v2), (3, .int v3), (4, .int v4)]) hx hb dX7_least_120 hl (by decide) rfl (fun ls hl => ?_)
    exact lp_X7_least_122 o ad hRf hRl C hret   100 u11 v3 (0 : Int32) (0 : Int32) hj _ _ _ V (lv_sub hl [5, 1, 0] rfl)
  · replace hj := iq _ c10 hj
    refine lv_iload_n hx hb dX7_least_49 rfl (lv_at hl 3 rfl) ?_
    refine lv_istore (lv' := [(4, .int v3), (0, .ref o), (1, .int v1), (2, .int v2), (3, .int v3)]) hx hb dX7_least_50 hl (by decide) rfl (fun ls hl => ?_)
    refine lv_iconst (v := 0) hx hb dX7_least_52 (by decide) ?_
    refine lv_istore (lv' := [(5, .int (0 : Int32)), (4, .int v3), (0, .ref o), (1, .int v1), (2, .int v2), (3, .int v3)]) hx hb dX7_least_53 hl (by decide) rfl (fun ls hl => ?_)
    exact lp_X7_least_55 o ad hRf hRl C hret  k_43 hk_43 100 u v1 v2 v3 v3 (0 : Int32) hj _ _ _ V (lv_sub hl [2, 3, 4, 5, 1, 0] rfl)
def j_X7_least_43  : Nat → St → Int32 → Int32 → Int32 → Int32 → Option (Int32 × St)
  | 0 => fun _ _ _ _ _ => none
  | n + 1 => q_X7_least_43  (j_X7_least_43  n)
theorem lp_X7_least_43 {p : Program} {l : Launch} {e : Env} {R : Room} {s : State} {m : MethodId} {args : Array Value} {below : List Frame} {meth : Method} {c : Code} {A : Nat → Prop} {Q : State → Prop} {D : va_G} {tc : Nat → ClassId} (o : Nat) (ad : Nat → Nat) (hRf : 16 ≤ R.frames) (hRl : 431 ≤ R.locals) (C : Cx p s m args meth c cX7_least 7 RX7 (some .int)) {x0 : Int32 × St} (hret : RetI p l e R s m args below meth c Q cX7_least D tc A .int (some x0) (fun x : Int32 × St => x.1) (fun x : Int32 × St => Mw tc o ad x.2))  : ∀ (n : Nat), ∀ (u : St) (v1 : Int32) (v2 : Int32) (v3 : Int32) (v4 : Int32), j_X7_least_43  n u v1 v2 v3 v4 = some x0 → ∀ (H : Heap) (locs : List Loc) (ls : Array Slot), Wd D tc A s H locs (Mw tc o ad u) → lv_has ls 7 [(0, .ref o), (1, .int v1), (2, .int v2), (3, .int v3), (4, .int v4)] → W p l e R s m args below meth c H locs 0 0 Q (F0 m 43 ls []) := by
  intro n
  induction n with
  | zero =>
    intro u v1 v2 v3 v4 hj
    have hj : (none : Option (Int32 × St)) = some x0 := hj
    cases hj
  | succ n ih =>
    intro u v1 v2 v3 v4 hj
    exact b_X7_least_43 o ad hRf hRl C hret   (j_X7_least_43  n) ih u v1 v2 v3 v4 hj
def j_X7_least (u : St) (v1 : Int32) (v2 : Int32) : Option (Int32 × St) :=
  (j_X7_isHistory u v1).bind (fun r1 => if r1 = (0 : Int32) then some ((-1 : Int32), u) else (j_X7_isRule v2).bind (fun r3 => if r3 = (0 : Int32) then some ((-1 : Int32), u) else (j_X7_all u v1).bind (fun r5 => nm (sI u 27 (0 : Int32)) (fun u6 => (j_X7_isTaken u6 v1 v2 r5).bind (fun ⟨r7, u8⟩ => if r7 = (0 : Int32) then j_X7_least_43  100 u8 v1 v2 r5 (0 : Int32) else some ((0 : Int32), u8))))))
set_option maxHeartbeats 4000000 in
set_option maxRecDepth 100000 in
theorem k_X7_least (l : Launch) (D : va_G) (tc : Nat → ClassId) (o : Nat) (ad : Nat → Nat) (u : St) (v1 : Int32) (v2 : Int32) {x0 : Int32 × St} (hj : j_X7_least u v1 v2 = some x0) : MetD l D tc yX7_least cX7_least 7 (some .int) 16 431 [.ref o, .int v1, .int v2] (Mw tc o ad u) (some (.int x0.1)) (Mw tc o ad x0.2) :=
  x_entI (fun x : Int32 × St => x.1) (fun x : Int32 × St => Mw tc o ad x.2) (by decide) (own := RX7) rfl (Nat.le_of_ble_eq_true rfl) (fun p e s m args below meth c A Q ls C V hl hret => by
  obtain ⟨hx, hb, hr, hml, hown, hts, hlk, hN⟩ := id C
  have hRf : 16 ≤ (rmz 16 0 0 431).frames := Nat.le_refl _
  have hRl : 431 ≤ (rmz 16 0 0 431).locals := Nat.le_refl _
  generalize (rmz 16 0 0 431) = R at hret hRf hRl ⊢
  generalize s.heap = H at V ⊢
  generalize ([] : List Loc) = locs at V ⊢
  have hl : lv_has ls 7 [(0, .ref o), (1, .int v1), (2, .int v2)] := hl
  unfold j_X7_least at hj
  refine lv_aload_n hx hb dX7_least_0 rfl (lv_at hl 0 rfl) ?_
  refine lv_iload_n hx hb dX7_least_1 rfl (lv_at hl 1 rfl) ?_
  obtain ⟨r1, hr1, hj⟩ := bd_some hj
  refine x_allI V _ (rg_map _) (x_runV (n := 1) (rest := []) C V _ (rg_map _) (rg_nd _) (k_X7_isHistory l D tc o ad u v1 hr1) tw_630 tw_632 tp_10 tw_6 tw_633 (by decide +kernel) ⟨Nat.le_trans (Nat.le_of_ble_eq_true rfl) hRf, Nat.le_trans (Nat.le_of_ble_eq_true rfl) hRl⟩ ⟨Nat.zero_le _, Nat.zero_le _⟩ 0 6 rfl rfl rfl hl.1 rfl (Nat.le_of_ble_eq_true rfl) dX7_least_2) (fun H locs V zr1 => ?_)
  replace V : Wd D tc A s H locs (Mw tc o ad u) := V
  refine lv_if_eq (tgt := 15) hx hb dX7_least_5 (by decide) (fun c2 => ?_) (fun c2 => ?_)
  · replace hj := ip _ c2 hj
    refine lv_iconst (v := (-1)) hx hb dX7_least_15 (by decide) ?_
    exact hret ((-1 : Int32), u) hj rfl V dX7_least_16
  · replace hj := iq _ c2 hj
    refine lv_iload_n hx hb dX7_least_8 rfl (lv_at hl 2 rfl) ?_
    obtain ⟨r3, hr3, hj⟩ := bd_some hj
    refine x_allI V _ (rg_map _) (x_runS (n := 1) (rest := []) C V _ (rg_map _) (rg_nd _) (k_X7_isRule l D tc (Mw tc o ad u) v2 hr3) tw_677 tw_678 tw_6 tw_679 (by decide +kernel) ⟨Nat.le_trans (Nat.le_of_ble_eq_true rfl) hRf, Nat.le_trans (Nat.le_of_ble_eq_true rfl) hRl⟩ ⟨Nat.zero_le _, Nat.zero_le _⟩ rfl hl.1 rfl (Nat.le_of_ble_eq_true rfl) dX7_least_9) (fun H locs V zr3 => ?_)
    replace V : Wd D tc A s H locs (Mw tc o ad u) := V
    refine lv_if_ne (tgt := 17) hx hb dX7_least_12 (by decide) (fun c4 => ?_) (fun c4 => ?_)
    · replace hj := iq _ c4 hj
      refine lv_aload_n hx hb dX7_least_17 rfl (lv_at hl 0 rfl) ?_
      refine lv_iload_n hx hb dX7_least_18 rfl (lv_at hl 1 rfl) ?_
      obtain ⟨r5, hr5, hj⟩ := bd_some hj
      refine x_allI V _ (rg_map _) (x_runV (n := 1) (rest := []) C V _ (rg_map _) (rg_nd _) (k_X7_all l D tc o ad u v1 hr5) tw_680 tw_682 tp_13 tw_6 tw_683 (by decide +kernel) ⟨Nat.le_trans (Nat.le_of_ble_eq_true rfl) hRf, Nat.le_trans (Nat.le_of_ble_eq_true rfl) hRl⟩ ⟨Nat.zero_le _, Nat.zero_le _⟩ 0 6 rfl rfl rfl hl.1 rfl (Nat.le_of_ble_eq_true rfl) dX7_least_19) (fun H locs V zr5 => ?_)
      replace V : Wd D tc A s H locs (Mw tc o ad u) := V
      refine lv_istore_n (lv' := [(3, .int r5), (0, .ref o), (1, .int v1), (2, .int v2)]) hx hb dX7_least_22 rfl hl (by decide) rfl (fun ls hl => ?_)
      refine lv_aload_n hx hb dX7_least_23 rfl (lv_at hl 1 rfl) ?_
      refine lv_iconst (v := 0) hx hb dX7_least_24 (by decide) ?_
      refine x_put hx hb hts hown V inX7 tyX7_ok nmX7 0 rfl rfl 27 (by decide) tw_547 rfl rfl rfl rfl (Nat.le_of_ble_eq_true rfl) dX7_least_25 (fun H locs V => ?_)
      obtain ⟨u6, eu6, hj⟩ := nm_some hj
      replace V : Wd D tc A s H locs (Mw tc o ad u6) := by rw [eu6]; exact V
      refine lv_aload_n hx hb dX7_least_28 rfl (lv_at hl 1 rfl) ?_
      refine lv_iload_n hx hb dX7_least_29 rfl (lv_at hl 2 rfl) ?_
      refine lv_iload_n hx hb dX7_least_30 rfl (lv_at hl 3 rfl) ?_
      refine lv_iload_n hx hb dX7_least_31 rfl (lv_at hl 0 rfl) ?_
      obtain ⟨⟨r7, u8⟩, hr7, hj⟩ := bd_some hj
      refine x_allI V _ (rg_map _) (x_runV (n := 3) (rest := []) C V _ (rg_map _) (rg_nd _) (k_X7_isTaken l D tc o ad u6 v1 v2 r5 hr7) tw_696 tw_698 tp_16 tw_6 tw_699 (by decide +kernel) ⟨Nat.le_trans (Nat.le_of_ble_eq_true rfl) hRf, Nat.le_trans (Nat.le_of_ble_eq_true rfl) hRl⟩ ⟨Nat.zero_le _, Nat.zero_le _⟩ 0 6 rfl rfl rfl hl.1 rfl (Nat.le_of_ble_eq_true rfl) dX7_least_32) (fun H locs V zr7 => ?_)
      replace V : Wd D tc A s H locs (Mw tc o ad u8) := V
      refine lv_if_eq (tgt := 40) hx hb dX7_least_35 (by decide) (fun c9 => ?_) (fun c9 => ?_)
      · replace hj := ip _ c9 hj
        refine lv_iconst (v := 0) hx hb dX7_least_40 (by decide) ?_
        refine lv_istore (lv' := [(4, .int (0 : Int32)), (3, .int r5), (0, .ref o), (1, .int v1), (2, .int v2)]) hx hb dX7_least_41 hl (by decide) rfl (fun ls hl => ?_)
        exact lp_X7_least_43 o ad hRf hRl C hret   100 u8 v1 v2 r5 (0 : Int32) hj _ _ _ V (lv_sub hl [2, 3, 4, 1, 0] rfl)
      · replace hj := iq _ c9 hj
        refine lv_iconst (v := 0) hx hb dX7_least_38 (by decide) ?_
        exact hret ((0 : Int32), u8) hj rfl V dX7_least_39
    · replace hj := ip _ c4 hj
      refine lv_iconst (v := (-1)) hx hb dX7_least_15 (by decide) ?_
      exact hret ((-1 : Int32), u) hj rfl V dX7_least_16)

def j_X7_fills (u : St) (v1 : Int32) (v2 : Int32) (v3 : Int32) : Option (Int32 × St) :=
  (j_X7_isCall u v1 v3).bind (fun r1 => if r1 = (0 : Int32) then some ((-1 : Int32), u) else (j_X7_isRule v2).bind (fun r3 => if r3 = (0 : Int32) then some ((-1 : Int32), u) else (j_X7_isOpen u v1 v3).bind (fun r5 => if r5 = (0 : Int32) then some ((-3 : Int32), u) else (j_X7_all u v1).bind (fun r7 => (j_X7_prepare u v1 v2 r7).bind (fun u9 => nm (sI u9 23 (2 : Int32)) (fun u10 => nm (sI u10 24 v3) (fun u11 => nm (sI u11 26 (0 : Int32)) (fun u12 => (j_X7_all u12 v1).bind (fun r13 => (j_X7_all u12 v1).bind (fun r14 => (j_X7_answeredOf u12 v1 r14).bind (fun r15 => (j_X7_goes 12 u12 v1 r13 r15 (0 : Int32) (0 : Int32)).bind (fun ⟨r16, u17⟩ => some (u17.1 26, u17)))))))))))))
set_option maxHeartbeats 4000000 in
set_option maxRecDepth 100000 in
theorem k_X7_fills (l : Launch) (D : va_G) (tc : Nat → ClassId) (o : Nat) (ad : Nat → Nat) (u : St) (v1 : Int32) (v2 : Int32) (v3 : Int32) {x0 : Int32 × St} (hj : j_X7_fills u v1 v2 v3 = some x0) : MetD l D tc yX7_fills cX7_fills 5 (some .int) 15 408 [.ref o, .int v1, .int v2, .int v3] (Mw tc o ad u) (some (.int x0.1)) (Mw tc o ad x0.2) :=
  x_entI (fun x : Int32 × St => x.1) (fun x : Int32 × St => Mw tc o ad x.2) (by decide) (own := RX7) rfl (Nat.le_of_ble_eq_true rfl) (fun p e s m args below meth c A Q ls C V hl hret => by
  obtain ⟨hx, hb, hr, hml, hown, hts, hlk, hN⟩ := id C
  have hRf : 15 ≤ (rmz 15 0 0 408).frames := Nat.le_refl _
  have hRl : 408 ≤ (rmz 15 0 0 408).locals := Nat.le_refl _
  generalize (rmz 15 0 0 408) = R at hret hRf hRl ⊢
  generalize s.heap = H at V ⊢
  generalize ([] : List Loc) = locs at V ⊢
  have hl : lv_has ls 5 [(0, .ref o), (1, .int v1), (2, .int v2), (3, .int v3)] := hl
  unfold j_X7_fills at hj
  refine lv_aload_n hx hb dX7_fills_0 rfl (lv_at hl 0 rfl) ?_
  refine lv_iload_n hx hb dX7_fills_1 rfl (lv_at hl 1 rfl) ?_
  refine lv_iload_n hx hb dX7_fills_2 rfl (lv_at hl 3 rfl) ?_
  obtain ⟨r1, hr1, hj⟩ := bd_some hj
  refine x_allI V _ (rg_map _) (x_runV (n := 2) (rest := []) C V _ (rg_map _) (rg_nd _) (k_X7_isCall l D tc o ad u v1 v3 hr1) tw_649 tw_651 tp_12 tw_6 tw_652 (by decide +kernel) ⟨Nat.le_trans (Nat.le_of_ble_eq_true rfl) hRf, Nat.le_trans (Nat.le_of_ble_eq_true rfl) hRl⟩ ⟨Nat.zero_le _, Nat.zero_le _⟩ 0 6 rfl rfl rfl hl.1 rfl (Nat.le_of_ble_eq_true rfl) dX7_fills_3) (fun H locs V zr1 => ?_)
  replace V : Wd D tc A s H locs (Mw tc o ad u) := V
  refine lv_if_eq (tgt := 16) hx hb dX7_fills_6 (by decide) (fun c2 => ?_) (fun c2 => ?_)
  · replace hj := ip _ c2 hj
    refine lv_iconst (v := (-1)) hx hb dX7_fills_16 (by decide) ?_
    exact hret ((-1 : Int32), u) hj rfl V dX7_fills_17
  · replace hj := iq _ c2 hj
    refine lv_iload_n hx hb dX7_fills_9 rfl (lv_at hl 2 rfl) ?_
    obtain ⟨r3, hr3, hj⟩ := bd_some hj
    refine x_allI V _ (rg_map _) (x_runS (n := 1) (rest := []) C V _ (rg_map _) (rg_nd _) (k_X7_isRule l D tc (Mw tc o ad u) v2 hr3) tw_677 tw_678 tw_6 tw_679 (by decide +kernel) ⟨Nat.le_trans (Nat.le_of_ble_eq_true rfl) hRf, Nat.le_trans (Nat.le_of_ble_eq_true rfl) hRl⟩ ⟨Nat.zero_le _, Nat.zero_le _⟩ rfl hl.1 rfl (Nat.le_of_ble_eq_true rfl) dX7_fills_10) (fun H locs V zr3 => ?_)
    replace V : Wd D tc A s H locs (Mw tc o ad u) := V
    refine lv_if_ne (tgt := 18) hx hb dX7_fills_13 (by decide) (fun c4 => ?_) (fun c4 => ?_)
    · replace hj := iq _ c4 hj
      refine lv_aload_n hx hb dX7_fills_18 rfl (lv_at hl 0 rfl) ?_
      refine lv_iload_n hx hb dX7_fills_19 rfl (lv_at hl 1 rfl) ?_
      refine lv_iload_n hx hb dX7_fills_20 rfl (lv_at hl 3 rfl) ?_
      obtain ⟨r5, hr5, hj⟩ := bd_some hj
      refine x_allI V _ (rg_map _) (x_runV (n := 2) (rest := []) C V _ (rg_map _) (rg_nd _) (k_X7_isOpen l D tc o ad u v1 v3 hr5) tw_641 tw_643 tp_11 tw_6 tw_644 (by decide +kernel) ⟨Nat.le_trans (Nat.le_of_ble_eq_true rfl) hRf, Nat.le_trans (Nat.le_of_ble_eq_true rfl) hRl⟩ ⟨Nat.zero_le _, Nat.zero_le _⟩ 0 6 rfl rfl rfl hl.1 rfl (Nat.le_of_ble_eq_true rfl) dX7_fills_21) (fun H locs V zr5 => ?_)
      replace V : Wd D tc A s H locs (Mw tc o ad u) := V
      refine lv_if_ne (tgt := 30) hx hb dX7_fills_24 (by decide) (fun c6 => ?_) (fun c6 => ?_)
      · replace hj := iq _ c6 hj
        refine lv_aload_n hx hb dX7_fills_30 rfl (lv_at hl 0 rfl) ?_
        refine lv_iload_n hx hb dX7_fills_31 rfl (lv_at hl 1 rfl) ?_
        refine lv_iload_n hx hb dX7_fills_32 rfl (lv_at hl 2 rfl) ?_
        refine lv_aload_n hx hb dX7_fills_33 rfl (lv_at hl 0 rfl) ?_
        refine lv_iload_n hx hb dX7_fills_34 rfl (lv_at hl 1 rfl) ?_
        obtain ⟨r7, hr7, hj⟩ := bd_some hj
        refine x_allI V _ (rg_map _) (x_runV (n := 1) (rest := [.int v2, .int v1, .ref o]) C V _ (rg_map _) (rg_nd _) (k_X7_all l D tc o ad u v1 hr7) tw_680 tw_682 tp_13 tw_6 tw_683 (by decide +kernel) ⟨Nat.le_trans (Nat.le_of_ble_eq_true rfl) hRf, Nat.le_trans (Nat.le_of_ble_eq_true rfl) hRl⟩ ⟨Nat.zero_le _, Nat.zero_le _⟩ 0 6 rfl rfl rfl hl.1 rfl (Nat.le_of_ble_eq_true rfl) dX7_fills_35) (fun H locs V zr7 => ?_)
        replace V : Wd D tc A s H locs (Mw tc o ad u) := V
        obtain ⟨u9, hr8, hj⟩ := bd_some hj
        refine x_allV V _ (rg_map _) (x_runV (n := 3) (rest := []) C V _ (rg_map _) (rg_nd _) (k_X7_prepare l D tc o ad u v1 v2 r7 hr8) tw_700 tw_702 tp_17 tw_6 tw_703 (by decide +kernel) ⟨Nat.le_trans (Nat.le_of_ble_eq_true rfl) hRf, Nat.le_trans (Nat.le_of_ble_eq_true rfl) hRl⟩ ⟨Nat.zero_le _, Nat.zero_le _⟩ 0 6 rfl rfl rfl hl.1 rfl (Nat.le_of_ble_eq_true rfl) dX7_fills_38) (fun H locs V => ?_)
        replace V : Wd D tc A s H locs (Mw tc o ad u9) := V
        refine lv_aload_n hx hb dX7_fills_41 rfl (lv_at hl 0 rfl) ?_
        refine lv_iconst (v := 2) hx hb dX7_fills_42 (by decide) ?_
        refine x_put hx hb hts hown V inX7 tyX7_ok nmX7 0 rfl rfl 23 (by decide) tw_543 rfl rfl rfl rfl (Nat.le_of_ble_eq_true rfl) dX7_fills_43 (fun H locs V => ?_)
        obtain ⟨u10, eu10, hj⟩ := nm_some hj
        replace V : Wd D tc A s H locs (Mw tc o ad u10) := by rw [eu10]; exact V
        refine lv_aload_n hx hb dX7_fills_46 rfl (lv_at hl 0 rfl) ?_
        refine lv_iload_n hx hb dX7_fills_47 rfl (lv_at hl 3 rfl) ?_
        refine x_put hx hb hts hown V inX7 tyX7_ok nmX7 0 rfl rfl 24 (by decide) tw_544 rfl rfl rfl rfl (Nat.le_of_ble_eq_true rfl) dX7_fills_48 (fun H locs V => ?_)
        obtain ⟨u11, eu11, hj⟩ := nm_some hj
        replace V : Wd D tc A s H locs (Mw tc o ad u11) := by rw [eu11]; exact V
        refine lv_aload_n hx hb dX7_fills_51 rfl (lv_at hl 0 rfl) ?_
        refine lv_iconst (v := 0) hx hb dX7_fills_52 (by decide) ?_
        refine x_put hx hb hts hown V inX7 tyX7_ok nmX7 0 rfl rfl 26 (by decide) tw_546 rfl rfl rfl rfl (Nat.le_of_ble_eq_true rfl) dX7_fills_53 (fun H locs V => ?_)
        obtain ⟨u12, eu12, hj⟩ := nm_some hj
        replace V : Wd D tc A s H locs (Mw tc o ad u12) := by rw [eu12]; exact V
        refine lv_aload_n hx hb dX7_fills_56 rfl (lv_at hl 0 rfl) ?_
        refine lv_iload_n hx hb dX7_fills_57 rfl (lv_at hl 1 rfl) ?_
        refine lv_aload_n hx hb dX7_fills_58 rfl (lv_at hl 0 rfl) ?_
        refine lv_iload_n hx hb dX7_fills_59 rfl (lv_at hl 1 rfl) ?_
        obtain ⟨r13, hr13, hj⟩ := bd_some hj
        refine x_allI V _ (rg_map _) (x_runV (n := 1) (rest := [.int v1, .ref o]) C V _ (rg_map _) (rg_nd _) (k_X7_all l D tc o ad u12 v1 hr13) tw_680 tw_682 tp_13 tw_6 tw_683 (by decide +kernel) ⟨Nat.le_trans (Nat.le_of_ble_eq_true rfl) hRf, Nat.le_trans (Nat.le_of_ble_eq_true rfl) hRl⟩ ⟨Nat.zero_le _, Nat.zero_le _⟩ 0 6 rfl rfl rfl hl.1 rfl (Nat.le_of_ble_eq_true rfl) dX7_fills_60) (fun H locs V zr13 => ?_)
        replace V : Wd D tc A s H locs (Mw tc o ad u12) := V
        refine lv_aload_n hx hb dX7_fills_63 rfl (lv_at hl 0 rfl) ?_
        refine lv_iload_n hx hb dX7_fills_64 rfl (lv_at hl 1 rfl) ?_
        refine lv_aload_n hx hb dX7_fills_65 rfl (lv_at hl 0 rfl) ?_
        refine lv_iload_n hx hb dX7_fills_66 rfl (lv_at hl 1 rfl) ?_
        obtain ⟨r14, hr14, hj⟩ := bd_some hj
        refine x_allI V _ (rg_map _) (x_runV (n := 1) (rest := [.int v1, .ref o, .int r13, .int v1, .ref o]) C V _ (rg_map _) (rg_nd _) (k_X7_all l D tc o ad u12 v1 hr14) tw_680 tw_682 tp_13 tw_6 tw_683 (by decide +kernel) ⟨Nat.le_trans (Nat.le_of_ble_eq_true rfl) hRf, Nat.le_trans (Nat.le_of_ble_eq_true rfl) hRl⟩ ⟨Nat.zero_le _, Nat.zero_le _⟩ 0 6 rfl rfl rfl hl.1 rfl (Nat.le_of_ble_eq_true rfl) dX7_fills_67) (fun H locs V zr14 => ?_)
        replace V : Wd D tc A s H locs (Mw tc o ad u12) := V
        obtain ⟨r15, hr15, hj⟩ := bd_some hj
        refine x_allI V _ (rg_map _) (x_runV (n := 2) (rest := [.int r13, .int v1, .ref o]) C V _ (rg_map _) (rg_nd _) (k_X7_answeredOf l D tc o ad u12 v1 r14 hr15) tw_708 tw_710 tp_19 tw_6 tw_711 (by decide +kernel) ⟨Nat.le_trans (Nat.le_of_ble_eq_true rfl) hRf, Nat.le_trans (Nat.le_of_ble_eq_true rfl) hRl⟩ ⟨Nat.zero_le _, Nat.zero_le _⟩ 0 6 rfl rfl rfl hl.1 rfl (Nat.le_of_ble_eq_true rfl) dX7_fills_70) (fun H locs V zr15 => ?_)
        replace V : Wd D tc A s H locs (Mw tc o ad u12) := V
        refine lv_iconst (v := 0) hx hb dX7_fills_73 (by decide) ?_
        refine lv_iconst (v := 0) hx hb dX7_fills_74 (by decide) ?_
        obtain ⟨⟨r16, u17⟩, hr16, hj⟩ := bd_some hj
        refine x_allI V _ (rg_map _) (x_runV (n := 5) (rest := []) C V _ (rg_map _) (rg_nd _) (k_X7_goes l D tc o ad 12 u12 v1 r13 r15 (0 : Int32) (0 : Int32) hr16) tw_712 tw_714 tp_20 tw_6 tw_715 (by decide +kernel) ⟨Nat.le_trans (Nat.le_of_ble_eq_true rfl) hRf, Nat.le_trans (Nat.le_of_ble_eq_true rfl) hRl⟩ ⟨Nat.zero_le _, Nat.zero_le _⟩ 0 6 rfl rfl rfl hl.1 rfl (Nat.le_of_ble_eq_true rfl) dX7_fills_75) (fun H locs V zr16 => ?_)
        replace V : Wd D tc A s H locs (Mw tc o ad u17) := V
        refine lv_istore (lv' := [(4, .int r16), (0, .ref o), (1, .int v1), (2, .int v2), (3, .int v3)]) hx hb dX7_fills_78 hl (by decide) rfl (fun ls hl => ?_)
        refine lv_aload_n hx hb dX7_fills_80 rfl (lv_at hl 1 rfl) ?_
        refine x_get hx hb hts hown V inX7 0 rfl rfl 26 (by decide) tw_546 rfl rfl dX7_fills_81 ?_
        exact hret (u17.1 26, u17) hj rfl V dX7_fills_84
      · replace hj := ip _ c6 hj
        refine lv_bipush (v := (-3)) hx hb dX7_fills_27 (by decide) ?_
        exact hret ((-3 : Int32), u) hj rfl V dX7_fills_29
    · replace hj := ip _ c4 hj
      refine lv_iconst (v := (-1)) hx hb dX7_fills_16 (by decide) ?_
      exact hret ((-1 : Int32), u) hj rfl V dX7_fills_17)

def j_X7_fill_ (u : St) (v1 : Int32) : Option (Int32 × St) :=
  (j_X7_in v1 (0 : Int32) ((u.1 26) - (1 : Int32))).bind (fun r1 => if r1 = (0 : Int32) then nm (sI u 16 (-1 : Int32)) (fun u3 => if (u3.1 16) = (0 : Int32) then gd v1 8000 (some (u3.2.1 25 v1.toNatClampNeg, u3)) else some ((0 : Int32), u3)) else nm (sI u 16 (0 : Int32)) (fun u6 => if (u6.1 16) = (0 : Int32) then gd v1 8000 (some (u6.2.1 25 v1.toNatClampNeg, u6)) else some ((0 : Int32), u6)))
set_option maxHeartbeats 4000000 in
set_option maxRecDepth 100000 in
theorem k_X7_fill_ (l : Launch) (D : va_G) (tc : Nat → ClassId) (o : Nat) (ad : Nat → Nat) (u : St) (v1 : Int32) {x0 : Int32 × St} (hj : j_X7_fill_ u v1 = some x0) : MetD l D tc yX7_fill_ cX7_fill_ 2 (some .int) 1 22 [.ref o, .int v1] (Mw tc o ad u) (some (.int x0.1)) (Mw tc o ad x0.2) :=
  x_entI (fun x : Int32 × St => x.1) (fun x : Int32 × St => Mw tc o ad x.2) (by decide) (own := RX7) rfl (Nat.le_of_ble_eq_true rfl) (fun p e s m args below meth c A Q ls C V hl hret => by
  obtain ⟨hx, hb, hr, hml, hown, hts, hlk, hN⟩ := id C
  have hRf : 1 ≤ (rmz 1 0 0 22).frames := Nat.le_refl _
  have hRl : 22 ≤ (rmz 1 0 0 22).locals := Nat.le_refl _
  generalize (rmz 1 0 0 22) = R at hret hRf hRl ⊢
  generalize s.heap = H at V ⊢
  generalize ([] : List Loc) = locs at V ⊢
  have hl : lv_has ls 2 [(0, .ref o), (1, .int v1)] := hl
  unfold j_X7_fill_ at hj
  refine lv_aload_n hx hb dX7_fill__0 rfl (lv_at hl 0 rfl) ?_
  refine lv_iload_n hx hb dX7_fill__1 rfl (lv_at hl 1 rfl) ?_
  refine lv_iconst (v := 0) hx hb dX7_fill__2 (by decide) ?_
  refine lv_aload_n hx hb dX7_fill__3 rfl (lv_at hl 0 rfl) ?_
  refine x_get hx hb hts hown V inX7 0 rfl rfl 26 (by decide) tw_546 rfl rfl dX7_fill__4 ?_
  refine lv_iconst (v := 1) hx hb dX7_fill__7 (by decide) ?_
  refine lv_isub hx hb dX7_fill__8 ?_
  obtain ⟨r1, hr1, hj⟩ := bd_some hj
  refine x_allI V _ (rg_map _) (x_runS (n := 3) (rest := [.ref o]) C V _ (rg_map _) (rg_nd _) (k_X7_in l D tc (Mw tc o ad u) v1 (0 : Int32) ((u.1 26) - (1 : Int32)) hr1) tw_619 tw_620 tw_6 tw_621 (by decide +kernel) ⟨Nat.le_trans (Nat.le_of_ble_eq_true rfl) hRf, Nat.le_trans (Nat.le_of_ble_eq_true rfl) hRl⟩ ⟨Nat.zero_le _, Nat.zero_le _⟩ rfl hl.1 rfl (Nat.le_of_ble_eq_true rfl) dX7_fill__9) (fun H locs V zr1 => ?_)
  replace V : Wd D tc A s H locs (Mw tc o ad u) := V
  refine lv_if_eq (tgt := 19) hx hb dX7_fill__12 (by decide) (fun c2 => ?_) (fun c2 => ?_)
  · replace hj := ip _ c2 hj
    refine lv_iconst (v := (-1)) hx hb dX7_fill__19 (by decide) ?_
    refine x_put hx hb hts hown V inX7 tyX7_ok nmX7 0 rfl rfl 16 (by decide) tw_536 rfl rfl rfl rfl (Nat.le_of_ble_eq_true rfl) dX7_fill__20 (fun H locs V => ?_)
    obtain ⟨u3, eu3, hj⟩ := nm_some hj
    replace V : Wd D tc A s H locs (Mw tc o ad u3) := by rw [eu3]; exact V
    refine lv_aload_n hx hb dX7_fill__23 rfl (lv_at hl 0 rfl) ?_
    refine x_get hx hb hts hown V inX7 0 rfl rfl 16 (by decide) tw_536 rfl rfl dX7_fill__24 ?_
    refine lv_if_ne (tgt := 39) hx hb dX7_fill__27 (by decide) (fun c4 => ?_) (fun c4 => ?_)
    · replace hj := iq _ c4 hj
      refine lv_iconst (v := 0) hx hb dX7_fill__39 (by decide) ?_
      exact hret ((0 : Int32), u3) hj rfl V dX7_fill__40
    · replace hj := ip _ c4 hj
      refine lv_aload_n hx hb dX7_fill__30 rfl (lv_at hl 0 rfl) ?_
      refine x_get hx hb hts hown V inX7 0 rfl rfl 25 (by decide) tw_545 rfl rfl dX7_fill__31 ?_
      refine lv_iload_n hx hb dX7_fill__34 rfl (lv_at hl 1 rfl) ?_
      obtain ⟨i5, hj⟩ := gd_some hj
      refine x_iald hx hb V 18 rfl i5 dX7_fill__35 ?_
      refine lv_goto (tgt := 40) hx hb dX7_fill__36 (by decide) ?_
      exact hret (u3.2.1 25 v1.toNatClampNeg, u3) hj rfl V dX7_fill__40
  · replace hj := iq _ c2 hj
    refine lv_iconst (v := 0) hx hb dX7_fill__15 (by decide) ?_
    refine lv_goto (tgt := 20) hx hb dX7_fill__16 (by decide) ?_
    refine x_put hx hb hts hown V inX7 tyX7_ok nmX7 0 rfl rfl 16 (by decide) tw_536 rfl rfl rfl rfl (Nat.le_of_ble_eq_true rfl) dX7_fill__20 (fun H locs V => ?_)
    obtain ⟨u6, eu6, hj⟩ := nm_some hj
    replace V : Wd D tc A s H locs (Mw tc o ad u6) := by rw [eu6]; exact V
    refine lv_aload_n hx hb dX7_fill__23 rfl (lv_at hl 0 rfl) ?_
    refine x_get hx hb hts hown V inX7 0 rfl rfl 16 (by decide) tw_536 rfl rfl dX7_fill__24 ?_
    refine lv_if_ne (tgt := 39) hx hb dX7_fill__27 (by decide) (fun c7 => ?_) (fun c7 => ?_)
    · replace hj := iq _ c7 hj
      refine lv_iconst (v := 0) hx hb dX7_fill__39 (by decide) ?_
      exact hret ((0 : Int32), u6) hj rfl V dX7_fill__40
    · replace hj := ip _ c7 hj
      refine lv_aload_n hx hb dX7_fill__30 rfl (lv_at hl 0 rfl) ?_
      refine x_get hx hb hts hown V inX7 0 rfl rfl 25 (by decide) tw_545 rfl rfl dX7_fill__31 ?_
      refine lv_iload_n hx hb dX7_fill__34 rfl (lv_at hl 1 rfl) ?_
      obtain ⟨i8, hj⟩ := gd_some hj
      refine x_iald hx hb V 18 rfl i8 dX7_fill__35 ?_
      refine lv_goto (tgt := 40) hx hb dX7_fill__36 (by decide) ?_
      exact hret (u6.2.1 25 v1.toNatClampNeg, u6) hj rfl V dX7_fill__40)

def q_X7_apart_42 (k_42 : St → Int32 → Int32 → Int32 → Int32 → Int32 → Option (Int32 × St)) (u : St) (v1 : Int32) (v2 : Int32) (v3 : Int32) (v4 : Int32) (v5 : Int32) : Option (Int32 × St) :=
  gd v1 12 (if (u.2.1 7 v1.toNatClampNeg) ≤ v5 then (j_X7_isTaken u v1 v2 v4).bind (fun ⟨r11, u12⟩ => if r11 = (0 : Int32) then some ((0 : Int32), u12) else some ((1 : Int32), u12)) else gd (((10 : Int32) * v1) + v5) 120 (if (u.2.1 11 (((10 : Int32) * v1) + v5).toNatClampNeg) = v3 then nm (v4 ||| ((1 : Int32) <<< (v5 &&& 31))) (fun x18 => nm (v5 + 1) (fun x19 => k_42 u v1 v2 v3 x18 x19)) else nm (v4 ||| (0 : Int32)) (fun x16 => nm (v5 + 1) (fun x17 => k_42 u v1 v2 v3 x16 x17))))
set_option maxHeartbeats 4000000 in
set_option maxRecDepth 100000 in
theorem b_X7_apart_42 {p : Program} {l : Launch} {e : Env} {R : Room} {s : State} {m : MethodId} {args : Array Value} {below : List Frame} {meth : Method} {c : Code} {A : Nat → Prop} {Q : State → Prop} {D : va_G} {tc : Nat → ClassId} (o : Nat) (ad : Nat → Nat) (hRf : 16 ≤ R.frames) (hRl : 431 ≤ R.locals) (C : Cx p s m args meth c cX7_apart 6 RX7 (some .int)) {x0 : Int32 × St} (hret : RetI p l e R s m args below meth c Q cX7_apart D tc A .int (some x0) (fun x : Int32 × St => x.1) (fun x : Int32 × St => Mw tc o ad x.2)) (k_42 : St → Int32 → Int32 → Int32 → Int32 → Int32 → Option (Int32 × St)) (hk_42 : ∀ (u : St) (v1 : Int32) (v2 : Int32) (v3 : Int32) (v4 : Int32) (v5 : Int32), k_42 u v1 v2 v3 v4 v5 = some x0 → ∀ (H : Heap) (locs : List Loc) (ls : Array Slot), Wd D tc A s H locs (Mw tc o ad u) → lv_has ls 6 [(0, .ref o), (1, .int v1), (2, .int v2), (3, .int v3), (4, .int v4), (5, .int v5)] → W p l e R s m args below meth c H locs 0 0 Q (F0 m 42 ls [])) : ∀ (u : St) (v1 : Int32) (v2 : Int32) (v3 : Int32) (v4 : Int32) (v5 : Int32), q_X7_apart_42 k_42 u v1 v2 v3 v4 v5 = some x0 → ∀ (H : Heap) (locs : List Loc) (ls : Array Slot), Wd D tc A s H locs (Mw tc o ad u) → lv_has ls 6 [(0, .ref o), (1, .int v1), (2, .int v2), (3, .int v3), (4, .int v4), (5, .int v5)] → W p l e R s m args below meth c H locs 0 0 Q (F0 m 42 ls []) := by
  obtain ⟨hx, hb, hr, hml, hown, hts, hlk, hN⟩ := id C
  intro u v1 v2 v3 v4 v5 hj H locs ls V hl
  unfold q_X7_apart_42 at hj
  refine lv_iload hx hb dX7_apart_42 (lv_at hl 5 rfl) ?_
  refine lv_aload_n hx hb dX7_apart_44 rfl (lv_at hl 0 rfl) ?_
  refine x_get hx hb hts hown V inX7 0 rfl rfl 7 (by decide) tw_527 rfl rfl dX7_apart_45 ?_
  refine lv_iload_n hx hb dX7_apart_48 rfl (lv_at hl 1 rfl) ?_
  obtain ⟨i9, hj⟩ := gd_some hj
  refine x_iald hx hb V 5 rfl i9 dX7_apart_49 ?_
  refine lv_icmp_ge (tgt := 88) hx hb dX7_apart_50 (by decide) (fun c10 => ?_) (fun c10 => ?_)
  · replace hj := ip _ c10 hj
    refine lv_aload_n hx hb dX7_apart_88 rfl (lv_at hl 0 rfl) ?_
    refine lv_iload_n hx hb dX7_apart_89 rfl (lv_at hl 1 rfl) ?_
    refine lv_iload_n hx hb dX7_apart_90 rfl (lv_at hl 2 rfl) ?_
    refine lv_iload hx hb dX7_apart_91 (lv_at hl 4 rfl) ?_
    obtain ⟨⟨r11, u12⟩, hr11, hj⟩ := bd_some hj
    refine x_allI V _ (rg_map _) (x_runV (n := 3) (rest := []) C V _ (rg_map _) (rg_nd _) (k_X7_isTaken l D tc o ad u v1 v2 v4 hr11) tw_696 tw_698 tp_16 tw_6 tw_699 (by decide +kernel) ⟨Nat.le_trans (Nat.le_of_ble_eq_true rfl) hRf, Nat.le_trans (Nat.le_of_ble_eq_true rfl) hRl⟩ ⟨Nat.zero_le _, Nat.zero_le _⟩ 0 6 rfl rfl rfl hl.1 rfl (Nat.le_of_ble_eq_true rfl) dX7_apart_93) (fun H locs V zr11 => ?_)
    replace V : Wd D tc A s H locs (Mw tc o ad u12) := V
    refine lv_if_eq (tgt := 103) hx hb dX7_apart_96 (by decide) (fun c13 => ?_) (fun c13 => ?_)
    · replace hj := ip _ c13 hj
      refine lv_iconst (v := 0) hx hb dX7_apart_103 (by decide) ?_
      exact hret ((0 : Int32), u12) hj rfl V dX7_apart_104
    · replace hj := iq _ c13 hj
      refine lv_iconst (v := 1) hx hb dX7_apart_99 (by decide) ?_
      refine lv_goto (tgt := 104) hx hb dX7_apart_100 (by decide) ?_
      exact hret ((1 : Int32), u12) hj rfl V dX7_apart_104
  · replace hj := iq _ c10 hj
    refine lv_iload hx hb dX7_apart_53 (lv_at hl 4 rfl) ?_
    refine lv_aload_n hx hb dX7_apart_55 rfl (lv_at hl 0 rfl) ?_
    refine x_get hx hb hts hown V inX7 0 rfl rfl 11 (by decide) tw_531 rfl rfl dX7_apart_56 ?_
    refine lv_bipush (v := 10) hx hb dX7_apart_59 (by decide) ?_
    refine lv_iload_n hx hb dX7_apart_61 rfl (lv_at hl 1 rfl) ?_
    refine lv_imul hx hb dX7_apart_62 ?_
    refine lv_iload hx hb dX7_apart_63 (lv_at hl 5 rfl) ?_
    refine lv_iadd hx hb dX7_apart_65 ?_
    obtain ⟨i14, hj⟩ := gd_some hj
    refine x_iald hx hb V 9 rfl i14 dX7_apart_66 ?_
    refine lv_iload_n hx hb dX7_apart_67 rfl (lv_at hl 3 rfl) ?_
    refine lv_icmp_ne (tgt := 78) hx hb dX7_apart_68 (by decide) (fun c15 => ?_) (fun c15 => ?_)
    · replace hj := iq _ c15 hj
      refine lv_iconst (v := 0) hx hb dX7_apart_78 (by decide) ?_
      refine lv_ior hx hb dX7_apart_79 ?_
      obtain ⟨x16, ex16, hj⟩ := nm_some hj
      refine x_topi ex16 ?_
      refine lv_istore (lv' := [(4, .int x16), (0, .ref o), (1, .int v1), (2, .int v2), (3, .int v3), (5, .int v5)]) hx hb dX7_apart_80 hl (by decide) rfl (fun ls hl => ?_)
      obtain ⟨x17, ex17, hj⟩ := nm_some hj
      refine lv_iinc (v := x17) (lv' := [(5, .int x17), (4, .int x16), (0, .ref o), (1, .int v1), (2, .int v2), (3, .int v3)]) hx hb dX7_apart_82 hl (k := 5) rfl (by rw [ex17]; rfl) (by decide) rfl (fun ls hl => ?_)
      refine lv_goto (tgt := 42) hx hb dX7_apart_85 (by decide) ?_
      exact hk_42 u v1 v2 v3 x16 x17 hj _ _ _ V (lv_sub hl [2, 3, 4, 5, 1, 0] rfl)
    · replace hj := ip _ c15 hj
      refine lv_iconst (v := 1) hx hb dX7_apart_71 (by decide) ?_
      refine lv_iload hx hb dX7_apart_72 (lv_at hl 5 rfl) ?_
      refine lv_ishl hx hb dX7_apart_74 ?_
      refine lv_goto (tgt := 79) hx hb dX7_apart_75 (by decide) ?_
      refine lv_ior hx hb dX7_apart_79 ?_
      obtain ⟨x18, ex18, hj⟩ := nm_some hj
      refine x_topi ex18 ?_
      refine lv_istore (lv' := [(4, .int x18), (0, .ref o), (1, .int v1), (2, .int v2), (3, .int v3), (5, .int v5)]) hx hb dX7_apart_80 hl (by decide) rfl (fun ls hl => ?_)
      obtain ⟨x19, ex19, hj⟩ := nm_some hj
      refine lv_iinc (v := x19) (lv' := [(5, .int x19), (4, .int x18), (0, .ref o), (1, .int v1), (2, .int v2), (3, .int v3)]) hx hb dX7_apart_82 hl (k := 5) rfl (by rw [ex19]; rfl) (by decide) rfl (fun ls hl => ?_)
      refine lv_goto (tgt := 42) hx hb dX7_apart_85 (by decide) ?_
      exact hk_42 u v1 v2 v3 x18 x19 hj _ _ _ V (lv_sub hl [2, 3, 4, 5, 1, 0] rfl)
def j_X7_apart_42  : Nat → St → Int32 → Int32 → Int32 → Int32 → Int32 → Option (Int32 × St)
  | 0 => fun _ _ _ _ _ _ => none
  | n + 1 => q_X7_apart_42  (j_X7_apart_42  n)
theorem lp_X7_apart_42 {p : Program} {l : Launch} {e : Env} {R : Room} {s : State} {m : MethodId} {args : Array Value} {below : List Frame} {meth : Method} {c : Code} {A : Nat → Prop} {Q : State → Prop} {D : va_G} {tc : Nat → ClassId} (o : Nat) (ad : Nat → Nat) (hRf : 16 ≤ R.frames) (hRl : 431 ≤ R.locals) (C : Cx p s m args meth c cX7_apart 6 RX7 (some .int)) {x0 : Int32 × St} (hret : RetI p l e R s m args below meth c Q cX7_apart D tc A .int (some x0) (fun x : Int32 × St => x.1) (fun x : Int32 × St => Mw tc o ad x.2))  : ∀ (n : Nat), ∀ (u : St) (v1 : Int32) (v2 : Int32) (v3 : Int32) (v4 : Int32) (v5 : Int32), j_X7_apart_42  n u v1 v2 v3 v4 v5 = some x0 → ∀ (H : Heap) (locs : List Loc) (ls : Array Slot), Wd D tc A s H locs (Mw tc o ad u) → lv_has ls 6 [(0, .ref o), (1, .int v1), (2, .int v2), (3, .int v3), (4, .int v4), (5, .int v5)] → W p l e R s m args below meth c H locs 0 0 Q (F0 m 42 ls []) := by
  intro n
  induction n with
  | zero =>
    intro u v1 v2 v3 v4 v5 hj
    have hj : (none : Option (Int32 × St)) = some x0 := hj
    cases hj
  | succ n ih =>
    intro u v1 v2 v3 v4 v5 hj
    exact b_X7_apart_42 o ad hRf hRl C hret   (j_X7_apart_42  n) ih u v1 v2 v3 v4 v5 hj
def j_X7_apart (u : St) (v1 : Int32) (v2 : Int32) (v3 : Int32) : Option (Int32 × St) :=
  (j_X7_isHistory u v1).bind (fun r1 => if r1 = (0 : Int32) then some ((-1 : Int32), u) else (j_X7_isRule v2).bind (fun r3 => if r3 = (0 : Int32) then some ((-1 : Int32), u) else gd v1 12 (if (u.2.1 5 v1.toNatClampNeg) = (5 : Int32) then (j_X7_in v3 (0 : Int32) (3 : Int32)).bind (fun r7 => if r7 = (0 : Int32) then some ((-1 : Int32), u) else j_X7_apart_42  100 u v1 v2 v3 (0 : Int32) (0 : Int32)) else some ((-1 : Int32), u))))
set_option maxHeartbeats 4000000 in
set_option maxRecDepth 100000 in
theorem k_X7_apart (l : Launch) (D : va_G) (tc : Nat → ClassId) (o : Nat) (ad : Nat → Nat) (u : St) (v1 : Int32) (v2 : Int32) (v3 : Int32) {x0 : Int32 × St} (hj : j_X7_apart u v1 v2 v3 = some x0) : MetD l D tc yX7_apart cX7_apart 6 (some .int) 16 431 [.ref o, .int v1, .int v2, .int v3] (Mw tc o ad u) (some (.int x0.1)) (Mw tc o ad x0.2) :=
  x_entI (fun x : Int32 × St => x.1) (fun x : Int32 × St => Mw tc o ad x.2) (by decide) (own := RX7) rfl (Nat.le_of_ble_eq_true rfl) (fun p e s m args below meth c A Q ls C V hl hret => by
  obtain ⟨hx, hb, hr, hml, hown, hts, hlk, hN⟩ := id C
  have hRf : 16 ≤ (rmz 16 0 0 431).frames := Nat.le_refl _
  have hRl : 431 ≤ (rmz 16 0 0 431).locals := Nat.le_refl _
  generalize (rmz 16 0 0 431) = R at hret hRf hRl ⊢
  generalize s.heap = H at V ⊢
  generalize ([] : List Loc) = locs at V ⊢
  have hl : lv_has ls 6 [(0, .ref o), (1, .int v1), (2, .int v2), (3, .int v3)] := hl
  unfold j_X7_apart at hj
  refine lv_aload_n hx hb dX7_apart_0 rfl (lv_at hl 0 rfl) ?_
  refine lv_iload_n hx hb dX7_apart_1 rfl (lv_at hl 1 rfl) ?_
  obtain ⟨r1, hr1, hj⟩ := bd_some hj
  refine x_allI V _ (rg_map _) (x_runV (n := 1) (rest := []) C V _ (rg_map _) (rg_nd _) (k_X7_isHistory l D tc o ad u v1 hr1) tw_630 tw_632 tp_10 tw_6 tw_633 (by decide +kernel) ⟨Nat.le_trans (Nat.le_of_ble_eq_true rfl) hRf, Nat.le_trans (Nat.le_of_ble_eq_true rfl) hRl⟩ ⟨Nat.zero_le _, Nat.zero_le _⟩ 0 6 rfl rfl rfl hl.1 rfl (Nat.le_of_ble_eq_true rfl) dX7_apart_2) (fun H locs V zr1 => ?_)
  replace V : Wd D tc A s H locs (Mw tc o ad u) := V
  refine lv_if_eq (tgt := 34) hx hb dX7_apart_5 (by decide) (fun c2 => ?_) (fun c2 => ?_)
  · replace hj := ip _ c2 hj
    refine lv_iconst (v := (-1)) hx hb dX7_apart_34 (by decide) ?_
    exact hret ((-1 : Int32), u) hj rfl V dX7_apart_35
  · replace hj := iq _ c2 hj
    refine lv_iload_n hx hb dX7_apart_8 rfl (lv_at hl 2 rfl) ?_
    obtain ⟨r3, hr3, hj⟩ := bd_some hj
    refine x_allI V _ (rg_map _) (x_runS (n := 1) (rest := []) C V _ (rg_map _) (rg_nd _) (k_X7_isRule l D tc (Mw tc o ad u) v2 hr3) tw_677 tw_678 tw_6 tw_679 (by decide +kernel) ⟨Nat.le_trans (Nat.le_of_ble_eq_true rfl) hRf, Nat.le_trans (Nat.le_of_ble_eq_true rfl) hRl⟩ ⟨Nat.zero_le _, Nat.zero_le _⟩ rfl hl.1 rfl (Nat.le_of_ble_eq_true rfl) dX7_apart_9) (fun H locs V zr3 => ?_)
    replace V : Wd D tc A s H locs (Mw tc o ad u) := V
    refine lv_if_eq (tgt := 34) hx hb dX7_apart_12 (by decide) (fun c4 => ?_) (fun c4 => ?_)
    · replace hj := ip _ c4 hj
      refine lv_iconst (v := (-1)) hx hb dX7_apart_34 (by decide) ?_
      exact hret ((-1 : Int32), u) hj rfl V dX7_apart_35
    · replace hj := iq _ c4 hj
      refine lv_aload_n hx hb dX7_apart_15 rfl (lv_at hl 0 rfl) ?_
      refine x_get hx hb hts hown V inX7 0 rfl rfl 5 (by decide) tw_525 rfl rfl dX7_apart_16 ?_
      refine lv_iload_n hx hb dX7_apart_19 rfl (lv_at hl 1 rfl) ?_
      obtain ⟨i5, hj⟩ := gd_some hj
      refine x_iald hx hb V 3 rfl i5 dX7_apart_20 ?_
      refine lv_iconst (v := 5) hx hb dX7_apart_21 (by decide) ?_
      refine lv_icmp_ne (tgt := 34) hx hb dX7_apart_22 (by decide) (fun c6 => ?_) (fun c6 => ?_)
      · replace hj := iq _ c6 hj
        refine lv_iconst (v := (-1)) hx hb dX7_apart_34 (by decide) ?_
        exact hret ((-1 : Int32), u) hj rfl V dX7_apart_35
      · replace hj := ip _ c6 hj
        refine lv_iload_n hx hb dX7_apart_25 rfl (lv_at hl 3 rfl) ?_
        refine lv_iconst (v := 0) hx hb dX7_apart_26 (by decide) ?_
        refine lv_iconst (v := 3) hx hb dX7_apart_27 (by decide) ?_
        obtain ⟨r7, hr7, hj⟩ := bd_some hj
        refine x_allI V _ (rg_map _) (x_runS (n := 3) (rest := []) C V _ (rg_map _) (rg_nd _) (k_X7_in l D tc (Mw tc o ad u) v3 (0 : Int32) (3 : Int32) hr7) tw_619 tw_620 tw_6 tw_621 (by decide +kernel) ⟨Nat.le_trans (Nat.le_of_ble_eq_true rfl) hRf, Nat.le_trans (Nat.le_of_ble_eq_true rfl) hRl⟩ ⟨Nat.zero_le _, Nat.zero_le _⟩ rfl hl.1 rfl (Nat.le_of_ble_eq_true rfl) dX7_apart_28) (fun H locs V zr7 => ?_)
        replace V : Wd D tc A s H locs (Mw tc o ad u) := V
        refine lv_if_ne (tgt := 36) hx hb dX7_apart_31 (by decide) (fun c8 => ?_) (fun c8 => ?_)
        · replace hj := iq _ c8 hj
          refine lv_iconst (v := 0) hx hb dX7_apart_36 (by decide) ?_
          refine lv_istore (lv' := [(4, .int (0 : Int32)), (0, .ref o), (1, .int v1), (2, .int v2), (3, .int v3)]) hx hb dX7_apart_37 hl (by decide) rfl (fun ls hl => ?_)
          refine lv_iconst (v := 0) hx hb dX7_apart_39 (by decide) ?_
          refine lv_istore (lv' := [(5, .int (0 : Int32)), (4, .int (0 : Int32)), (0, .ref o), (1, .int v1), (2, .int v2), (3, .int v3)]) hx hb dX7_apart_40 hl (by decide) rfl (fun ls hl => ?_)
          exact lp_X7_apart_42 o ad hRf hRl C hret   100 u v1 v2 v3 (0 : Int32) (0 : Int32) hj _ _ _ V (lv_sub hl [2, 3, 4, 5, 1, 0] rfl)
        · replace hj := ip _ c8 hj
          refine lv_iconst (v := (-1)) hx hb dX7_apart_34 (by decide) ?_
          exact hret ((-1 : Int32), u) hj rfl V dX7_apart_35)

def q_X7_rules_14 (k_14 : St → Int32 → Int32 → Int32 → Option (Int32 × St)) (u : St) (v1 : Int32) (v2 : Int32) (v3 : Int32) : Option (Int32 × St) :=
  if (3 : Int32) ≤ v3 then some (v2, u) else (j_X7_all u v1).bind (fun r4 => (j_X7_isTaken u v1 v3 r4).bind (fun ⟨r5, u6⟩ => if r5 = (0 : Int32) then nm (v2 ||| (0 : Int32)) (fun x8 => nm (v3 + 1) (fun x9 => k_14 u6 v1 x8 x9)) else nm (v2 ||| ((1 : Int32) <<< (v3 &&& 31))) (fun x10 => nm (v3 + 1) (fun x11 => k_14 u6 v1 x10 x11))))
set_option maxHeartbeats 4000000 in
set_option maxRecDepth 100000 in
theorem b_X7_rules_14 {p : Program} {l : Launch} {e : Env} {R : Room} {s : State} {m : MethodId} {args : Array Value} {below : List Frame} {meth : Method} {c : Code} {A : Nat → Prop} {Q : State → Prop} {D : va_G} {tc : Nat → ClassId} (o : Nat) (ad : Nat → Nat) (hRf : 16 ≤ R.frames) (hRl : 431 ≤ R.locals) (C : Cx p s m args meth c cX7_rules 4 RX7 (some .int)) {x0 : Int32 × St} (hret : RetI p l e R s m args below meth c Q cX7_rules D tc A .int (some x0) (fun x : Int32 × St => x.1) (fun x : Int32 × St => Mw tc o ad x.2)) (k_14 : St → Int32 → Int32 → Int32 → Option (Int32 × St)) (hk_14 : ∀ (u : St) (v1 : Int32) (v2 : Int32) (v3 : Int32), k_14 u v1 v2 v3 = some x0 → ∀ (H : Heap) (locs : List Loc) (ls : Array Slot), Wd D tc A s H locs (Mw tc o ad u) → lv_has ls 4 [(0, .ref o), (1, .int v1), (2, .int v2), (3, .int v3)] → W p l e R s m args below meth c H locs 0 0 Q (F0 m 14 ls [])) : ∀ (u : St) (v1 : Int32) (v2 : Int32) (v3 : Int32), q_X7_rules_14 k_14 u v1 v2 v3 = some x0 → ∀ (H : Heap) (locs : List Loc) (ls : Array Slot), Wd D tc A s H locs (Mw tc o ad u) → lv_has ls 4 [(0, .ref o), (1, .int v1), (2, .int v2), (3, .int v3)] → W p l e R s m args below meth c H locs 0 0 Q (F0 m 14 ls []) := by
  obtain ⟨hx, hb, hr, hml, hown, hts, hlk, hN⟩ := id C
  intro u v1 v2 v3 hj H locs ls V hl
  unfold q_X7_rules_14 at hj
  refine lv_iload_n hx hb dX7_rules_14 rfl (lv_at hl 3 rfl) ?_
  refine lv_iconst (v := 3) hx hb dX7_rules_15 (by decide) ?_
  refine lv_icmp_ge (tgt := 49) hx hb dX7_rules_16 (by decide) (fun c3 => ?_) (fun c3 => ?_)
  · replace hj := ip _ c3 hj
    refine lv_iload_n hx hb dX7_rules_49 rfl (lv_at hl 2 rfl) ?_
    exact hret (v2, u) hj rfl V dX7_rules_50
  · replace hj := iq _ c3 hj
    refine lv_iload_n hx hb dX7_rules_19 rfl (lv_at hl 2 rfl) ?_
    refine lv_aload_n hx hb dX7_rules_20 rfl (lv_at hl 0 rfl) ?_
    refine lv_iload_n hx hb dX7_rules_21 rfl (lv_at hl 1 rfl) ?_
    refine lv_iload_n hx hb dX7_rules_22 rfl (lv_at hl 3 rfl) ?_
    refine lv_aload_n hx hb dX7_rules_23 rfl (lv_at hl 0 rfl) ?_
    refine lv_iload_n hx hb dX7_rules_24 rfl (lv_at hl 1 rfl) ?_
    obtain ⟨r4, hr4, hj⟩ := bd_some hj
    refine x_allI V _ (rg_map _) (x_runV (n := 1) (rest := [.int v3, .int v1, .ref o, .int v2]) C V _ (rg_map _) (rg_nd _) (k_X7_all l D tc o ad u v1 hr4) tw_680 tw_682 tp_13 tw_6 tw_683 (by decide +kernel) ⟨Nat.le_trans (Nat.le_of_ble_eq_true rfl) hRf, Nat.le_trans (Nat.le_of_ble_eq_true rfl) hRl⟩ ⟨Nat.zero_le _, Nat.zero_le _⟩ 0 6 rfl rfl rfl hl.1 rfl (Nat.le_of_ble_eq_true rfl) dX7_rules_25) (fun H locs V zr4 => ?_)
    replace V : Wd D tc A s H locs (Mw tc o ad u) := V
    obtain ⟨⟨r5, u6⟩, hr5, hj⟩ := bd_some hj
    refine x_allI V _ (rg_map _) (x_runV (n := 3) (rest := [.int v2]) C V _ (rg_map _) (rg_nd _) (k_X7_isTaken l D tc o ad u v1 v3 r4 hr5) tw_696 tw_698 tp_16 tw_6 tw_699 (by decide +kernel) ⟨Nat.le_trans (Nat.le_of_ble_eq_true rfl) hRf, Nat.le_trans (Nat.le_of_ble_eq_true rfl) hRl⟩ ⟨Nat.zero_le _, Nat.zero_le _⟩ 0 6 rfl rfl rfl hl.1 rfl (Nat.le_of_ble_eq_true rfl) dX7_rules_28) (fun H locs V zr5 => ?_)
    replace V : Wd D tc A s H locs (Mw tc o ad u6) := V
    refine lv_if_eq (tgt := 40) hx hb dX7_rules_31 (by decide) (fun c7 => ?_) (fun c7 => ?_)
    · replace hj := ip _ c7 hj
      refine lv_iconst (v := 0) hx hb dX7_rules_40 (by decide) ?_
      refine lv_ior hx hb dX7_rules_41 ?_
      obtain ⟨x8, ex8, hj⟩ := nm_some hj
      refine x_topi ex8 ?_
      refine lv_istore_n (lv' := [(2, .int x8), (0, .ref o), (1, .int v1), (3, .int v3)]) hx hb dX7_rules_42 rfl hl (by decide) rfl (fun ls hl => ?_)
      obtain ⟨x9, ex9, hj⟩ := nm_some hj
      refine lv_iinc (v := x9) (lv' := [(3, .int x9), (2, .int x8), (0, .ref o), (1, .int v1)]) hx hb dX7_rules_43 hl (k := 3) rfl (by rw [ex9]; rfl) (by decide) rfl (fun ls hl => ?_)
      refine lv_goto (tgt := 14) hx hb dX7_rules_46 (by decide) ?_
      exact hk_14 u6 v1 x8 x9 hj _ _ _ V (lv_sub hl [2, 3, 1, 0] rfl)
    · replace hj := iq _ c7 hj
      refine lv_iconst (v := 1) hx hb dX7_rules_34 (by decide) ?_
      refine lv_iload_n hx hb dX7_rules_35 rfl (lv_at hl 3 rfl) ?_
      refine lv_ishl hx hb dX7_rules_36 ?_
      refine lv_goto (tgt := 41) hx hb dX7_rules_37 (by decide) ?_
      refine lv_ior hx hb dX7_rules_41 ?_
      obtain ⟨x10, ex10, hj⟩ := nm_some hj
      refine x_topi ex10 ?_
      refine lv_istore_n (lv' := [(2, .int x10), (0, .ref o), (1, .int v1), (3, .int v3)]) hx hb dX7_rules_42 rfl hl (by decide) rfl (fun ls hl => ?_)
      obtain ⟨x11, ex11, hj⟩ := nm_some hj
      refine lv_iinc (v := x11) (lv' := [(3, .int x11), (2, .int x10), (0, .ref o), (1, .int v1)]) hx hb dX7_rules_43 hl (k := 3) rfl (by rw [ex11]; rfl) (by decide) rfl (fun ls hl => ?_)
      refine lv_goto (tgt := 14) hx hb dX7_rules_46 (by decide) ?_
      exact hk_14 u6 v1 x10 x11 hj _ _ _ V (lv_sub hl [2, 3, 1, 0] rfl)
def j_X7_rules_14  : Nat → St → Int32 → Int32 → Int32 → Option (Int32 × St)
  | 0 => fun _ _ _ _ => none
  | n + 1 => q_X7_rules_14  (j_X7_rules_14  n)
theorem lp_X7_rules_14 {p : Program} {l : Launch} {e : Env} {R : Room} {s : State} {m : MethodId} {args : Array Value} {below : List Frame} {meth : Method} {c : Code} {A : Nat → Prop} {Q : State → Prop} {D : va_G} {tc : Nat → ClassId} (o : Nat) (ad : Nat → Nat) (hRf : 16 ≤ R.frames) (hRl : 431 ≤ R.locals) (C : Cx p s m args meth c cX7_rules 4 RX7 (some .int)) {x0 : Int32 × St} (hret : RetI p l e R s m args below meth c Q cX7_rules D tc A .int (some x0) (fun x : Int32 × St => x.1) (fun x : Int32 × St => Mw tc o ad x.2))  : ∀ (n : Nat), ∀ (u : St) (v1 : Int32) (v2 : Int32) (v3 : Int32), j_X7_rules_14  n u v1 v2 v3 = some x0 → ∀ (H : Heap) (locs : List Loc) (ls : Array Slot), Wd D tc A s H locs (Mw tc o ad u) → lv_has ls 4 [(0, .ref o), (1, .int v1), (2, .int v2), (3, .int v3)] → W p l e R s m args below meth c H locs 0 0 Q (F0 m 14 ls []) := by
  intro n
  induction n with
  | zero =>
    intro u v1 v2 v3 hj
    have hj : (none : Option (Int32 × St)) = some x0 := hj
    cases hj
  | succ n ih =>
    intro u v1 v2 v3 hj
    exact b_X7_rules_14 o ad hRf hRl C hret   (j_X7_rules_14  n) ih u v1 v2 v3 hj
def j_X7_rules (u : St) (v1 : Int32) : Option (Int32 × St) :=
  (j_X7_isHistory u v1).bind (fun r1 => if r1 = (0 : Int32) then some ((-1 : Int32), u) else j_X7_rules_14  100 u v1 (0 : Int32) (0 : Int32))
set_option maxHeartbeats 4000000 in
set_option maxRecDepth 100000 in
theorem k_X7_rules (l : Launch) (D : va_G) (tc : Nat → ClassId) (o : Nat) (ad : Nat → Nat) (u : St) (v1 : Int32) {x0 : Int32 × St} (hj : j_X7_rules u v1 = some x0) : MetD l D tc yX7_rules cX7_rules 4 (some .int) 16 431 [.ref o, .int v1] (Mw tc o ad u) (some (.int x0.1)) (Mw tc o ad x0.2) :=
  x_entI (fun x : Int32 × St => x.1) (fun x : Int32 × St => Mw tc o ad x.2) (by decide) (own := RX7) rfl (Nat.le_of_ble_eq_true rfl) (fun p e s m args below meth c A Q ls C V hl hret => by
  obtain ⟨hx, hb, hr, hml, hown, hts, hlk, hN⟩ := id C
  have hRf : 16 ≤ (rmz 16 0 0 431).frames := Nat.le_refl _
  have hRl : 431 ≤ (rmz 16 0 0 431).locals := Nat.le_refl _
  generalize (rmz 16 0 0 431) = R at hret hRf hRl ⊢
  generalize s.heap = H at V ⊢
  generalize ([] : List Loc) = locs at V ⊢
  have hl : lv_has ls 4 [(0, .ref o), (1, .int v1)] := hl
  unfold j_X7_rules at hj
  refine lv_aload_n hx hb dX7_rules_0 rfl (lv_at hl 0 rfl) ?_
  refine lv_iload_n hx hb dX7_rules_1 rfl (lv_at hl 1 rfl) ?_
  obtain ⟨r1, hr1, hj⟩ := bd_some hj
  refine x_allI V _ (rg_map _) (x_runV (n := 1) (rest := []) C V _ (rg_map _) (rg_nd _) (k_X7_isHistory l D tc o ad u v1 hr1) tw_630 tw_632 tp_10 tw_6 tw_633 (by decide +kernel) ⟨Nat.le_trans (Nat.le_of_ble_eq_true rfl) hRf, Nat.le_trans (Nat.le_of_ble_eq_true rfl) hRl⟩ ⟨Nat.zero_le _, Nat.zero_le _⟩ 0 6 rfl rfl rfl hl.1 rfl (Nat.le_of_ble_eq_true rfl) dX7_rules_2) (fun H locs V zr1 => ?_)
  replace V : Wd D tc A s H locs (Mw tc o ad u) := V
  refine lv_if_ne (tgt := 10) hx hb dX7_rules_5 (by decide) (fun c2 => ?_) (fun c2 => ?_)
  · replace hj := iq _ c2 hj
    refine lv_iconst (v := 0) hx hb dX7_rules_10 (by decide) ?_
    refine lv_istore_n (lv' := [(2, .int (0 : Int32)), (0, .ref o), (1, .int v1)]) hx hb dX7_rules_11 rfl hl (by decide) rfl (fun ls hl => ?_)
    refine lv_iconst (v := 0) hx hb dX7_rules_12 (by decide) ?_
    refine lv_istore_n (lv' := [(3, .int (0 : Int32)), (2, .int (0 : Int32)), (0, .ref o), (1, .int v1)]) hx hb dX7_rules_13 rfl hl (by decide) rfl (fun ls hl => ?_)
    exact lp_X7_rules_14 o ad hRf hRl C hret   100 u v1 (0 : Int32) (0 : Int32) hj _ _ _ V (lv_sub hl [2, 3, 1, 0] rfl)
  · replace hj := ip _ c2 hj
    refine lv_iconst (v := (-1)) hx hb dX7_rules_8 (by decide) ?_
    exact hret ((-1 : Int32), u) hj rfl V dX7_rules_9)

def q_X7_check_44 (k_44 : St → Int32 → Int32 → Int32 → Int32 → Option (Int32 × St)) (u : St) (v1 : Int32) (v3 : Int32) (v4 : Int32) (v5 : Int32) : Option (Int32 × St) :=
  if v3 ≤ v5 then (j_X7_all u v1).bind (fun r11 => (j_X7_answeredOf u v1 r11).bind (fun r12 => if (v4 &&& r12) = r12 then some ((100 : Int32), u) else some (v3, u))) else gd v5 10 (nm (u.2.1 28 v5.toNatClampNeg) (fun x15 => gd v1 12 (if (u.2.1 7 v1.toNatClampNeg) ≤ x15 then some (v5, u) else if ((v4 >>> (x15 &&& 31)) &&& (1 : Int32)) = (1 : Int32) then some (v5, u) else gd x15 10 (if ((u.2.1 20 x15.toNatClampNeg) &&& (v4 ^^^ (-1 : Int32))) = (0 : Int32) then (j_X7_comes u v1 x15 v5).bind (fun ⟨r21, u22⟩ => (j_X7_isOpen u22 v1 x15).bind (fun r23 => if r23 = (0 : Int32) then gd (((10 : Int32) * v1) + x15) 120 (if r21 = (u22.2.1 15 (((10 : Int32) * v1) + x15).toNatClampNeg) then nm (v4 ||| ((1 : Int32) <<< (x15 &&& 31))) (fun x29 => nm (v5 + 1) (fun x30 => k_44 u22 v1 v3 x29 x30)) else some (v5, u22)) else nm (v4 ||| ((1 : Int32) <<< (x15 &&& 31))) (fun x25 => nm (v5 + 1) (fun x26 => k_44 u22 v1 v3 x25 x26)))) else some (v5, u)))))
set_option maxHeartbeats 4000000 in
set_option maxRecDepth 100000 in
theorem b_X7_check_44 {p : Program} {l : Launch} {e : Env} {R : Room} {s : State} {m : MethodId} {args : Array Value} {below : List Frame} {meth : Method} {c : Code} {A : Nat → Prop} {Q : State → Prop} {D : va_G} {tc : Nat → ClassId} (o : Nat) (ad : Nat → Nat) (hRf : 3 ≤ R.frames) (hRl : 78 ≤ R.locals) (C : Cx p s m args meth c cX7_check 8 RX7 (some .int)) {x0 : Int32 × St} (hret : RetI p l e R s m args below meth c Q cX7_check D tc A .int (some x0) (fun x : Int32 × St => x.1) (fun x : Int32 × St => Mw tc o ad x.2)) (k_44 : St → Int32 → Int32 → Int32 → Int32 → Option (Int32 × St)) (hk_44 : ∀ (u : St) (v1 : Int32) (v3 : Int32) (v4 : Int32) (v5 : Int32), k_44 u v1 v3 v4 v5 = some x0 → ∀ (H : Heap) (locs : List Loc) (ls : Array Slot), Wd D tc A s H locs (Mw tc o ad u) → lv_has ls 8 [(0, .ref o), (1, .int v1), (3, .int v3), (4, .int v4), (5, .int v5)] → W p l e R s m args below meth c H locs 0 0 Q (F0 m 44 ls [])) : ∀ (u : St) (v1 : Int32) (v3 : Int32) (v4 : Int32) (v5 : Int32), q_X7_check_44 k_44 u v1 v3 v4 v5 = some x0 → ∀ (H : Heap) (locs : List Loc) (ls : Array Slot), Wd D tc A s H locs (Mw tc o ad u) → lv_has ls 8 [(0, .ref o), (1, .int v1), (3, .int v3), (4, .int v4), (5, .int v5)] → W p l e R s m args below meth c H locs 0 0 Q (F0 m 44 ls []) := by
  obtain ⟨hx, hb, hr, hml, hown, hts, hlk, hN⟩ := id C
  intro u v1 v3 v4 v5 hj H locs ls V hl
  unfold q_X7_check_44 at hj
  refine lv_iload hx hb dX7_check_44 (lv_at hl 4 rfl) ?_
  refine lv_iload_n hx hb dX7_check_46 rfl (lv_at hl 2 rfl) ?_
  refine lv_icmp_ge (tgt := 155) hx hb dX7_check_47 (by decide) (fun c10 => ?_) (fun c10 => ?_)
  · replace hj := ip _ c10 hj
    refine lv_aload_n hx hb dX7_check_155 rfl (lv_at hl 0 rfl) ?_
    refine lv_iload_n hx hb dX7_check_156 rfl (lv_at hl 1 rfl) ?_
    refine lv_aload_n hx hb dX7_check_157 rfl (lv_at hl 0 rfl) ?_
    refine lv_iload_n hx hb dX7_check_158 rfl (lv_at hl 1 rfl) ?_
    obtain ⟨r11, hr11, hj⟩ := bd_some hj
    refine x_allI V _ (rg_map _) (x_runV (n := 1) (rest := [.int v1, .ref o]) C V _ (rg_map _) (rg_nd _) (k_X7_all l D tc o ad u v1 hr11) tw_680 tw_682 tp_13 tw_6 tw_683 (by decide +kernel) ⟨Nat.le_trans (Nat.le_of_ble_eq_true rfl) hRf, Nat.le_trans (Nat.le_of_ble_eq_true rfl) hRl⟩ ⟨Nat.zero_le _, Nat.zero_le _⟩ 0 6 rfl rfl rfl hl.1 rfl (Nat.le_of_ble_eq_true rfl) dX7_check_159) (fun H locs V zr11 => ?_)
    replace V : Wd D tc A s H locs (Mw tc o ad u) := V
    obtain ⟨r12, hr12, hj⟩ := bd_some hj
    refine x_allI V _ (rg_map _) (x_runV (n := 2) (rest := []) C V _ (rg_map _) (rg_nd _) (k_X7_answeredOf l D tc o ad u v1 r11 hr12) tw_708 tw_710 tp_19 tw_6 tw_711 (by decide +kernel) ⟨Nat.le_trans (Nat.le_of_ble_eq_true rfl) hRf, Nat.le_trans (Nat.le_of_ble_eq_true rfl) hRl⟩ ⟨Nat.zero_le _, Nat.zero_le _⟩ 0 6 rfl rfl rfl hl.1 rfl (Nat.le_of_ble_eq_true rfl) dX7_check_162) (fun H locs V zr12 => ?_)
    replace V : Wd D tc A s H locs (Mw tc o ad u) := V
    refine lv_istore (lv' := [(5, .int r12), (0, .ref o), (1, .int v1), (3, .int v3), (4, .int v4)]) hx hb dX7_check_165 hl (by decide) rfl (fun ls hl => ?_)
    refine lv_iload hx hb dX7_check_167 (lv_at hl 4 rfl) ?_
    refine lv_iload hx hb dX7_check_169 (lv_at hl 0 rfl) ?_
    refine lv_iand hx hb dX7_check_171 ?_
    refine lv_iload hx hb dX7_check_172 (lv_at hl 0 rfl) ?_
    refine lv_icmp_ne (tgt := 182) hx hb dX7_check_174 (by decide) (fun c13 => ?_) (fun c13 => ?_)
    · replace hj := iq _ c13 hj
      refine lv_iload_n hx hb dX7_check_182 rfl (lv_at hl 3 rfl) ?_
      exact hret (v3, u) hj rfl V dX7_check_183
    · replace hj := ip _ c13 hj
      refine lv_bipush (v := 100) hx hb dX7_check_177 (by decide) ?_
      refine lv_goto (tgt := 183) hx hb dX7_check_179 (by decide) ?_
      exact hret ((100 : Int32), u) hj rfl V dX7_check_183
  · replace hj := iq _ c10 hj
    refine lv_aload_n hx hb dX7_check_50 rfl (lv_at hl 0 rfl) ?_
    refine x_get hx hb hts hown V inX7 0 rfl rfl 28 (by decide) tw_548 rfl rfl dX7_check_51 ?_
    refine lv_iload hx hb dX7_check_54 (lv_at hl 4 rfl) ?_
    obtain ⟨i14, hj⟩ := gd_some hj
    refine x_iald hx hb V 19 rfl i14 dX7_check_56 ?_
    obtain ⟨x15, ex15, hj⟩ := nm_some hj
    refine x_topi ex15 ?_
    refine lv_istore (lv' := [(6, .int x15), (0, .ref o), (1, .int v1), (3, .int v3), (4, .int v4), (5, .int v5)]) hx hb dX7_check_57 hl (by decide) rfl (fun ls hl => ?_)
    refine lv_iload hx hb dX7_check_59 (lv_at hl 0 rfl) ?_
    refine lv_aload_n hx hb dX7_check_61 rfl (lv_at hl 1 rfl) ?_
    refine x_get hx hb hts hown V inX7 0 rfl rfl 7 (by decide) tw_527 rfl rfl dX7_check_62 ?_
    refine lv_iload_n hx hb dX7_check_65 rfl (lv_at hl 2 rfl) ?_
    obtain ⟨i16, hj⟩ := gd_some hj
    refine x_iald hx hb V 5 rfl i16 dX7_check_66 ?_
    refine lv_icmp_ge (tgt := 96) hx hb dX7_check_67 (by decide) (fun c17 => ?_) (fun c17 => ?_)
    · replace hj := ip _ c17 hj
      refine lv_iload hx hb dX7_check_96 (lv_at hl 5 rfl) ?_
      exact hret (v5, u) hj rfl V dX7_check_98
    · replace hj := iq _ c17 hj
      refine lv_iload hx hb dX7_check_70 (lv_at hl 4 rfl) ?_
      refine lv_iload hx hb dX7_check_72 (lv_at hl 0 rfl) ?_
      refine lv_ishr hx hb dX7_check_74 ?_
      refine lv_iconst (v := 1) hx hb dX7_check_75 (by decide) ?_
      refine lv_iand hx hb dX7_check_76 ?_
      refine lv_iconst (v := 1) hx hb dX7_check_77 (by decide) ?_
      refine lv_icmp_eq (tgt := 96) hx hb dX7_check_78 (by decide) (fun c18 => ?_) (fun c18 => ?_)
      · replace hj := ip _ c18 hj
        refine lv_iload hx hb dX7_check_96 (lv_at hl 5 rfl) ?_
        exact hret (v5, u) hj rfl V dX7_check_98
      · replace hj := iq _ c18 hj
        refine lv_aload_n hx hb dX7_check_81 rfl (lv_at hl 1 rfl) ?_
        refine x_get hx hb hts hown V inX7 0 rfl rfl 20 (by decide) tw_540 rfl rfl dX7_check_82 ?_
        refine lv_iload hx hb dX7_check_85 (lv_at hl 0 rfl) ?_
        obtain ⟨i19, hj⟩ := gd_some hj
        refine x_iald hx hb V 17 rfl i19 dX7_check_87 ?_
        refine lv_iload hx hb dX7_check_88 (lv_at hl 4 rfl) ?_
        refine lv_iconst (v := (-1)) hx hb dX7_check_90 (by decide) ?_
        refine lv_ixor hx hb dX7_check_91 ?_
        refine lv_iand hx hb dX7_check_92 ?_
        refine lv_if_eq (tgt := 99) hx hb dX7_check_93 (by decide) (fun c20 => ?_) (fun c20 => ?_)
        · replace hj := ip _ c20 hj
          refine lv_aload_n hx hb dX7_check_99 rfl (lv_at hl 1 rfl) ?_
          refine lv_iload_n hx hb dX7_check_100 rfl (lv_at hl 2 rfl) ?_
          refine lv_iload hx hb dX7_check_101 (lv_at hl 0 rfl) ?_
          refine lv_iload hx hb dX7_check_103 (lv_at hl 5 rfl) ?_
          obtain ⟨⟨r21, u22⟩, hr21, hj⟩ := bd_some hj
          refine x_allI V _ (rg_map _) (x_runV (n := 3) (rest := []) C V _ (rg_map _) (rg_nd _) (k_X7_comes l D tc o ad u v1 x15 v5 hr21) tw_720 tw_722 tp_22 tw_6 tw_723 (by decide +kernel) ⟨Nat.le_trans (Nat.le_of_ble_eq_true rfl) hRf, Nat.le_trans (Nat.le_of_ble_eq_true rfl) hRl⟩ ⟨Nat.zero_le _, Nat.zero_le _⟩ 0 6 rfl rfl rfl hl.1 rfl (Nat.le_of_ble_eq_true rfl) dX7_check_105) (fun H locs V zr21 => ?_)
          replace V : Wd D tc A s H locs (Mw tc o ad u22) := V
          refine lv_istore (lv' := [(7, .int r21), (6, .int x15), (0, .ref o), (1, .int v1), (3, .int v3), (4, .int v4), (5, .int v5)]) hx hb dX7_check_108 hl (by decide) rfl (fun ls hl => ?_)
          refine lv_aload_n hx hb dX7_check_110 rfl (lv_at hl 2 rfl) ?_
          refine lv_iload_n hx hb dX7_check_111 rfl (lv_at hl 3 rfl) ?_
          refine lv_iload hx hb dX7_check_112 (lv_at hl 1 rfl) ?_
          obtain ⟨r23, hr23, hj⟩ := bd_some hj
          refine x_allI V _ (rg_map _) (x_runV (n := 2) (rest := []) C V _ (rg_map _) (rg_nd _) (k_X7_isOpen l D tc o ad u22 v1 x15 hr23) tw_641 tw_643 tp_11 tw_6 tw_644 (by decide +kernel) ⟨Nat.le_trans (Nat.le_of_ble_eq_true rfl) hRf, Nat.le_trans (Nat.le_of_ble_eq_true rfl) hRl⟩ ⟨Nat.zero_le _, Nat.zero_le _⟩ 0 6 rfl rfl rfl hl.1 rfl (Nat.le_of_ble_eq_true rfl) dX7_check_114) (fun H locs V zr23 => ?_)
          replace V : Wd D tc A s H locs (Mw tc o ad u22) := V
          refine lv_if_ne (tgt := 140) hx hb dX7_check_117 (by decide) (fun c24 => ?_) (fun c24 => ?_)
          · replace hj := iq _ c24 hj
            refine lv_iload hx hb dX7_check_140 (lv_at hl 5 rfl) ?_
            refine lv_iconst (v := 1) hx hb dX7_check_142 (by decide) ?_
            refine lv_iload hx hb dX7_check_143 (lv_at hl 1 rfl) ?_
            refine lv_ishl hx hb dX7_check_145 ?_
            refine lv_ior hx hb dX7_check_146 ?_
            obtain ⟨x25, ex25, hj⟩ := nm_some hj
            refine x_topi ex25 ?_
            refine lv_istore (lv' := [(4, .int x25), (7, .int r21), (6, .int x15), (0, .ref o), (1, .int v1), (3, .int v3), (5, .int v5)]) hx hb dX7_check_147 hl (by decide) rfl (fun ls hl => ?_)
            obtain ⟨x26, ex26, hj⟩ := nm_some hj
            refine lv_iinc (v := x26) (lv' := [(5, .int x26), (4, .int x25), (7, .int r21), (6, .int x15), (0, .ref o), (1, .int v1), (3, .int v3)]) hx hb dX7_check_149 hl (k := 6) rfl (by rw [ex26]; rfl) (by decide) rfl (fun ls hl => ?_)
            refine lv_goto (tgt := 44) hx hb dX7_check_152 (by decide) ?_
            exact hk_44 u22 v1 v3 x25 x26 hj _ _ _ V (lv_sub hl [4, 5, 6, 1, 0] rfl)
          · replace hj := ip _ c24 hj
            refine lv_iload hx hb dX7_check_120 (lv_at hl 0 rfl) ?_
            refine lv_aload_n hx hb dX7_check_122 rfl (lv_at hl 2 rfl) ?_
            refine x_get hx hb hts hown V inX7 0 rfl rfl 15 (by decide) tw_535 rfl rfl dX7_check_123 ?_
            refine lv_bipush (v := 10) hx hb dX7_check_126 (by decide) ?_
            refine lv_iload_n hx hb dX7_check_128 rfl (lv_at hl 3 rfl) ?_
            refine lv_imul hx hb dX7_check_129 ?_
            refine lv_iload hx hb dX7_check_130 (lv_at hl 1 rfl) ?_
            refine lv_iadd hx hb dX7_check_132 ?_
            obtain ⟨i27, hj⟩ := gd_some hj
            refine x_iald hx hb V 13 rfl i27 dX7_check_133 ?_
            refine lv_icmp_eq (tgt := 140) hx hb dX7_check_134 (by decide) (fun c28 => ?_) (fun c28 => ?_)
            · replace hj := ip _ c28 hj
              refine lv_iload hx hb dX7_check_140 (lv_at hl 5 rfl) ?_
              refine lv_iconst (v := 1) hx hb dX7_check_142 (by decide) ?_
              refine lv_iload hx hb dX7_check_143 (lv_at hl 1 rfl) ?_
              refine lv_ishl hx hb dX7_check_145 ?_
              refine lv_ior hx hb dX7_check_146 ?_
              obtain ⟨x29, ex29, hj⟩ := nm_some hj
              refine x_topi ex29 ?_
              refine lv_istore (lv' := [(4, .int x29), (7, .int r21), (6, .int x15), (0, .ref o), (1, .int v1), (3, .int v3), (5, .int v5)]) hx hb dX7_check_147 hl (by decide) rfl (fun ls hl => ?_)
              obtain ⟨x30, ex30, hj⟩ := nm_some hj
              refine lv_iinc (v := x30) (lv' := [(5, .int x30), (4, .int x29), (7, .int r21), (6, .int x15), (0, .ref o), (1, .int v1), (3, .int v3)]) hx hb dX7_check_149 hl (k := 6) rfl (by rw [ex30]; rfl) (by decide) rfl (fun ls hl => ?_)
              refine lv_goto (tgt := 44) hx hb dX7_check_152 (by decide) ?_
              exact hk_44 u22 v1 v3 x29 x30 hj _ _ _ V (lv_sub hl [4, 5, 6, 1, 0] rfl)
            · replace hj := iq _ c28 hj
              refine lv_iload hx hb dX7_check_137 (lv_at hl 6 rfl) ?_
              exact hret (v5, u22) hj rfl V dX7_check_139
        · replace hj := iq _ c20 hj
          refine lv_iload hx hb dX7_check_96 (lv_at hl 5 rfl) ?_
          exact hret (v5, u) hj rfl V dX7_check_98
def j_X7_check_44  : Nat → St → Int32 → Int32 → Int32 → Int32 → Option (Int32 × St)
  | 0 => fun _ _ _ _ _ => none
  | n + 1 => q_X7_check_44  (j_X7_check_44  n)
theorem lp_X7_check_44 {p : Program} {l : Launch} {e : Env} {R : Room} {s : State} {m : MethodId} {args : Array Value} {below : List Frame} {meth : Method} {c : Code} {A : Nat → Prop} {Q : State → Prop} {D : va_G} {tc : Nat → ClassId} (o : Nat) (ad : Nat → Nat) (hRf : 3 ≤ R.frames) (hRl : 78 ≤ R.locals) (C : Cx p s m args meth c cX7_check 8 RX7 (some .int)) {x0 : Int32 × St} (hret : RetI p l e R s m args below meth c Q cX7_check D tc A .int (some x0) (fun x : Int32 × St => x.1) (fun x : Int32 × St => Mw tc o ad x.2))  : ∀ (n : Nat), ∀ (u : St) (v1 : Int32) (v3 : Int32) (v4 : Int32) (v5 : Int32), j_X7_check_44  n u v1 v3 v4 v5 = some x0 → ∀ (H : Heap) (locs : List Loc) (ls : Array Slot), Wd D tc A s H locs (Mw tc o ad u) → lv_has ls 8 [(0, .ref o), (1, .int v1), (3, .int v3), (4, .int v4), (5, .int v5)] → W p l e R s m args below meth c H locs 0 0 Q (F0 m 44 ls []) := by
  intro n
  induction n with
  | zero =>
    intro u v1 v3 v4 v5 hj
    have hj : (none : Option (Int32 × St)) = some x0 := hj
    cases hj
  | succ n ih =>
    intro u v1 v3 v4 v5 hj
    exact b_X7_check_44 o ad hRf hRl C hret   (j_X7_check_44  n) ih u v1 v3 v4 v5 hj
def j_X7_check (u : St) (v1 : Int32) (v2 : Int32) : Option (Int32 × St) :=
  (j_X7_isHistory u v1).bind (fun r1 => if r1 = (0 : Int32) then some ((-1 : Int32), u) else (j_X7_isRule v2).bind (fun r3 => if r3 = (0 : Int32) then some ((-1 : Int32), u) else nm (u.1 29) (fun x5 => nm (sI u 29 (0 : Int32)) (fun u6 => (j_X7_all u6 v1).bind (fun r7 => (j_X7_prepare u6 v1 v2 r7).bind (fun u9 => j_X7_check_44  100 u9 v1 x5 (0 : Int32) (0 : Int32)))))))
set_option maxHeartbeats 4000000 in
set_option maxRecDepth 100000 in
theorem k_X7_check (l : Launch) (D : va_G) (tc : Nat → ClassId) (o : Nat) (ad : Nat → Nat) (u : St) (v1 : Int32) (v2 : Int32) {x0 : Int32 × St} (hj : j_X7_check u v1 v2 = some x0) : MetD l D tc yX7_check cX7_check 8 (some .int) 3 78 [.ref o, .int v1, .int v2] (Mw tc o ad u) (some (.int x0.1)) (Mw tc o ad x0.2) :=
  x_entI (fun x : Int32 × St => x.1) (fun x : Int32 × St => Mw tc o ad x.2) (by decide) (own := RX7) rfl (Nat.le_of_ble_eq_true rfl) (fun p e s m args below meth c A Q ls C V hl hret => by
  obtain ⟨hx, hb, hr, hml, hown, hts, hlk, hN⟩ := id C
  have hRf : 3 ≤ (rmz 3 0 0 78).frames := Nat.le_refl _
  have hRl : 78 ≤ (rmz 3 0 0 78).locals := Nat.le_refl _
  generalize (rmz 3 0 0 78) = R at hret hRf hRl ⊢
  generalize s.heap = H at V ⊢
  generalize ([] : List Loc) = locs at V ⊢
  have hl : lv_has ls 8 [(0, .ref o), (1, .int v1), (2, .int v2)] := hl
  unfold j_X7_check at hj
  refine lv_aload_n hx hb dX7_check_0 rfl (lv_at hl 0 rfl) ?_
  refine lv_iload_n hx hb dX7_check_1 rfl (lv_at hl 1 rfl) ?_
  obtain ⟨r1, hr1, hj⟩ := bd_some hj
  refine x_allI V _ (rg_map _) (x_runV (n := 1) (rest := []) C V _ (rg_map _) (rg_nd _) (k_X7_isHistory l D tc o ad u v1 hr1) tw_630 tw_632 tp_10 tw_6 tw_633 (by decide +kernel) ⟨Nat.le_trans (Nat.le_of_ble_eq_true rfl) hRf, Nat.le_trans (Nat.le_of_ble_eq_true rfl) hRl⟩ ⟨Nat.zero_le _, Nat.zero_le _⟩ 0 6 rfl rfl rfl hl.1 rfl (Nat.le_of_ble_eq_true rfl) dX7_check_2) (fun H locs V zr1 => ?_)
  replace V : Wd D tc A s H locs (Mw tc o ad u) := V
  refine lv_if_eq (tgt := 15) hx hb dX7_check_5 (by decide) (fun c2 => ?_) (fun c2 => ?_)
  · replace hj := ip _ c2 hj
    refine lv_iconst (v := (-1)) hx hb dX7_check_15 (by decide) ?_
    exact hret ((-1 : Int32), u) hj rfl V dX7_check_16
  · replace hj := iq _ c2 hj
    refine lv_iload_n hx hb dX7_check_8 rfl (lv_at hl 2 rfl) ?_
    obtain ⟨r3, hr3, hj⟩ := bd_some hj
    refine x_allI V _ (rg_map _) (x_runS (n := 1) (rest := []) C V _ (rg_map _) (rg_nd _) (k_X7_isRule l D tc (Mw tc o ad u) v2 hr3) tw_677 tw_678 tw_6 tw_679 (by decide +kernel) ⟨Nat.le_trans (Nat.le_of_ble_eq_true rfl) hRf, Nat.le_trans (Nat.le_of_ble_eq_true rfl) hRl⟩ ⟨Nat.zero_le _, Nat.zero_le _⟩ rfl hl.1 rfl (Nat.le_of_ble_eq_true rfl) dX7_check_9) (fun H locs V zr3 => ?_)
    replace V : Wd D tc A s H locs (Mw tc o ad u) := V
    refine lv_if_ne (tgt := 17) hx hb dX7_check_12 (by decide) (fun c4 => ?_) (fun c4 => ?_)
    · replace hj := iq _ c4 hj
      refine lv_aload_n hx hb dX7_check_17 rfl (lv_at hl 0 rfl) ?_
      refine x_get hx hb hts hown V inX7 0 rfl rfl 29 (by decide) tw_549 rfl rfl dX7_check_18 ?_
      obtain ⟨x5, ex5, hj⟩ := nm_some hj
      refine x_topi ex5 ?_
      refine lv_istore_n (lv' := [(3, .int x5), (0, .ref o), (1, .int v1), (2, .int v2)]) hx hb dX7_check_21 rfl hl (by decide) rfl (fun ls hl => ?_)
      refine lv_aload_n hx hb dX7_check_22 rfl (lv_at hl 1 rfl) ?_
      refine lv_iconst (v := 0) hx hb dX7_check_23 (by decide) ?_
      refine x_put hx hb hts hown V inX7 tyX7_ok nmX7 0 rfl rfl 29 (by decide) tw_549 rfl rfl rfl rfl (Nat.le_of_ble_eq_true rfl) dX7_check_24 (fun H locs V => ?_)
      obtain ⟨u6, eu6, hj⟩ := nm_some hj
      replace V : Wd D tc A s H locs (Mw tc o ad u6) := by rw [eu6]; exact V
      refine lv_aload_n hx hb dX7_check_27 rfl (lv_at hl 1 rfl) ?_
      refine lv_iload_n hx hb dX7_check_28 rfl (lv_at hl 2 rfl) ?_
      refine lv_iload_n hx hb dX7_check_29 rfl (lv_at hl 3 rfl) ?_
      refine lv_aload_n hx hb dX7_check_30 rfl (lv_at hl 1 rfl) ?_
      refine lv_iload_n hx hb dX7_check_31 rfl (lv_at hl 2 rfl) ?_
      obtain ⟨r7, hr7, hj⟩ := bd_some hj
      refine x_allI V _ (rg_map _) (x_runV (n := 1) (rest := [.int v2, .int v1, .ref o]) C V _ (rg_map _) (rg_nd _) (k_X7_all l D tc o ad u6 v1 hr7) tw_680 tw_682 tp_13 tw_6 tw_683 (by decide +kernel) ⟨Nat.le_trans (Nat.le_of_ble_eq_true rfl) hRf, Nat.le_trans (Nat.le_of_ble_eq_true rfl) hRl⟩ ⟨Nat.zero_le _, Nat.zero_le _⟩ 0 6 rfl rfl rfl hl.1 rfl (Nat.le_of_ble_eq_true rfl) dX7_check_32) (fun H locs V zr7 => ?_)
      replace V : Wd D tc A s H locs (Mw tc o ad u6) := V
      obtain ⟨u9, hr8, hj⟩ := bd_some hj
      refine x_allV V _ (rg_map _) (x_runV (n := 3) (rest := []) C V _ (rg_map _) (rg_nd _) (k_X7_prepare l D tc o ad u6 v1 v2 r7 hr8) tw_700 tw_702 tp_17 tw_6 tw_703 (by decide +kernel) ⟨Nat.le_trans (Nat.le_of_ble_eq_true rfl) hRf, Nat.le_trans (Nat.le_of_ble_eq_true rfl) hRl⟩ ⟨Nat.zero_le _, Nat.zero_le _⟩ 0 6 rfl rfl rfl hl.1 rfl (Nat.le_of_ble_eq_true rfl) dX7_check_35) (fun H locs V => ?_)
      replace V : Wd D tc A s H locs (Mw tc o ad u9) := V
      refine lv_iconst (v := 0) hx hb dX7_check_38 (by decide) ?_
      refine lv_istore (lv' := [(4, .int (0 : Int32)), (3, .int x5), (0, .ref o), (1, .int v1), (2, .int v2)]) hx hb dX7_check_39 hl (by decide) rfl (fun ls hl => ?_)
      refine lv_iconst (v := 0) hx hb dX7_check_41 (by decide) ?_
      refine lv_istore (lv' := [(5, .int (0 : Int32)), (4, .int (0 : Int32)), (3, .int x5), (0, .ref o), (1, .int v1), (2, .int v2)]) hx hb dX7_check_42 hl (by decide) rfl (fun ls hl => ?_)
      exact lp_X7_check_44 o ad hRf hRl C hret   100 u9 v1 x5 (0 : Int32) (0 : Int32) hj _ _ _ V (lv_sub hl [3, 4, 2, 1, 0] rfl)
    · replace hj := ip _ c4 hj
      refine lv_iconst (v := (-1)) hx hb dX7_check_15 (by decide) ?_
      exact hret ((-1 : Int32), u) hj rfl V dX7_check_16)
