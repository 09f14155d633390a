def j_X6_status (t : Nat → Int32) (u : St) : Option (Int32 × (Nat → Int32) × St) :=
  some (t 44, t, u)
set_option maxHeartbeats 4000000 in
set_option maxRecDepth 100000 in
theorem k_X6_status (l : Launch) (D : va_G) (tc : Nat → ClassId) (xo : Nat) (xa ad : Nat → Nat) (f g : Nat → Option Nat) (nT nH : Int32) (rest : va_W) (t : Nat → Int32) (u : St) {x0 : Int32 × (Nat → Int32) × St} (hj : j_X6_status t u = some x0) : MetD l D tc yX6_status cX6_status 1 (some .int) 0 0 [.ref xo] (Bw tc xo xa ad f g nT nH t ++ (Sw tc ad u ++ rest)) (some (.int x0.1)) (Bw tc xo xa ad f g nT nH x0.2.1 ++ (Sw tc ad x0.2.2 ++ rest)) :=
  x_entI (fun x : Int32 × (Nat → Int32) × St => x.1) (fun x : Int32 × (Nat → Int32) × St => Bw tc xo xa ad f g nT nH x.2.1 ++ (Sw tc ad x.2.2 ++ rest)) (by decide) (own := RX6) rfl (Nat.le_of_ble_eq_true rfl) (fun p e s m args below meth c A Q ls C V hl hret => by
  obtain ⟨hx, hb, hr, hml, hown, hts, hlk, hN⟩ := id C
  have hRf : 0 ≤ (rmz 0 0 0 0).frames := Nat.le_refl _
  have hRl : 0 ≤ (rmz 0 0 0 0).locals := Nat.le_refl _
  generalize (rmz 0 0 0 0) = R at hret hRf hRl ⊢
  generalize s.heap = H at V ⊢
  generalize ([] : List Loc) = locs at V ⊢
  have hl : lv_has ls 1 [(0, .ref xo)] := hl
  unfold j_X6_status at hj
  refine lv_aload_n hx hb dX6_status_0 rfl (lv_at hl 0 rfl) ?_
  refine x_get hx hb hts hown V inX6 0 rfl rfl 9 (by decide) tw_150 rfl rfl dX6_status_1 ?_
  exact hret (t 44, t, u) hj rfl V dX6_status_4)

def q_X6_part_4 (k_4 : (Nat → Int32) → St → Int32 → Int32 → Int32 → Option (Int32 × (Nat → Int32) × St)) (t : Nat → Int32) (u : St) (v1 : Int32) (v2 : Int32) (v3 : Int32) : Option (Int32 × (Nat → Int32) × St) :=
  if (10 : Int32) ≤ v3 then some ((-1 : Int32), t, u) else (j_X6_holds (t 42) v3).bind (fun r2 => if r2 = (0 : Int32) then nm (v3 + 1) (fun x4 => k_4 t u v1 v2 x4) else if v2 = v1 then some (v3, t, u) else nm (v2 + 1) (fun x6 => nm (v3 + 1) (fun x7 => k_4 t u v1 x6 x7)))
set_option maxHeartbeats 4000000 in
set_option maxRecDepth 100000 in
theorem b_X6_part_4 {p : Program} {l : Launch} {e : Env} {R : Room} {s : State} {m : MethodId} {args : Array Value} {below : List Frame} {meth : Method} {c : Code} {A : Nat → Prop} {Q : State → Prop} {D : va_G} {tc : Nat → ClassId} (xo : Nat) (xa ad : Nat → Nat) (f g : Nat → Option Nat) (nT nH : Int32) (rest : va_W) (hRf : 1 ≤ R.frames) (hRl : 21 ≤ R.locals) (C : Cx p s m args meth c cX6_part 4 RX6 (some .int)) {x0 : Int32 × (Nat → Int32) × St} (hret : RetI p l e R s m args below meth c Q cX6_part D tc A .int (some x0) (fun x : Int32 × (Nat → Int32) × St => x.1) (fun x : Int32 × (Nat → Int32) × St => Bw tc xo xa ad f g nT nH x.2.1 ++ (Sw tc ad x.2.2 ++ rest))) (k_4 : (Nat → Int32) → St → Int32 → Int32 → Int32 → Option (Int32 × (Nat → Int32) × St)) (hk_4 : ∀ (t : Nat → Int32) (u : St) (v1 : Int32) (v2 : Int32) (v3 : Int32), k_4 t u v1 v2 v3 = some x0 → ∀ (H : Heap) (locs : List Loc) (ls : Array Slot), Wd D tc A s H locs (Bw tc xo xa ad f g nT nH t ++ (Sw tc ad u ++ rest)) → lv_has ls 4 [(0, .ref xo), (1, .int v1), (2, .int v2), (3, .int v3)] → W p l e R s m args below meth c H locs 0 0 Q (F0 m 4 ls [])) : ∀ (t : Nat → Int32) (u : St) (v1 : Int32) (v2 : Int32) (v3 : Int32), q_X6_part_4 k_4 t u v1 v2 v3 = some x0 → ∀ (H : Heap) (locs : List Loc) (ls : Array Slot), Wd D tc A s H locs (Bw tc xo xa ad f g nT nH t ++ (Sw tc ad u ++ rest)) → lv_has ls 4 [(0, .ref xo), (1, .int v1), (2, .int v2), (3, .int v3)] → W p l e R s m args below meth c H locs 0 0 Q (F0 m 4 ls []) := by
  obtain ⟨hx, hb, hr, hml, hown, hts, hlk, hN⟩ := id C
  intro t u v1 v2 v3 hj H locs ls V hl
  unfold q_X6_part_4 at hj
  refine lv_iload_n hx hb dX6_part_4 rfl (lv_at hl 3 rfl) ?_
  refine lv_bipush (v := 10) hx hb dX6_part_5 (by decide) ?_
  refine lv_icmp_ge (tgt := 37) hx hb dX6_part_7 (by decide) (fun c1 => ?_) (fun c1 => ?_)
  · replace hj := ip _ c1 hj
    refine lv_iconst (v := (-1)) hx hb dX6_part_37 (by decide) ?_
    exact hret ((-1 : Int32), t, u) hj rfl V dX6_part_38
  · replace hj := iq _ c1 hj
    refine lv_aload_n hx hb dX6_part_10 rfl (lv_at hl 0 rfl) ?_
    refine x_get hx hb hts hown V inX6 0 rfl rfl 6 (by decide) tw_147 rfl rfl dX6_part_11 ?_
    refine lv_iload_n hx hb dX6_part_14 rfl (lv_at hl 3 rfl) ?_
    obtain ⟨r2, hr2, hj⟩ := bd_some hj
    refine x_allI V _ (rg_map _) (x_runS (n := 2) (rest := []) C V _ (rg_map _) (rg_nd _) (k_X6_holds l D tc (Bw tc xo xa ad f g nT nH t ++ (Sw tc ad u ++ rest)) (t 42) v3 hr2) tw_470 tw_326 tw_1 tw_327 (by decide +kernel) ⟨Nat.le_trans (Nat.le_of_ble_eq_true rfl) hRf, Nat.le_trans (Nat.le_of_ble_eq_true rfl) hRl⟩ ⟨Nat.zero_le _, Nat.zero_le _⟩ rfl hl.1 rfl (Nat.le_of_ble_eq_true rfl) dX6_part_15) (fun H locs V zr2 => ?_)
    replace V : Wd D tc A s H locs (Bw tc xo xa ad f g nT nH t ++ (Sw tc ad u ++ rest)) := V
    refine lv_if_eq (tgt := 31) hx hb dX6_part_18 (by decide) (fun c3 => ?_) (fun c3 => ?_)
    · replace hj := ip _ c3 hj
      obtain ⟨x4, ex4, hj⟩ := nm_some hj
      refine lv_iinc (v := x4) (lv' := [(3, .int x4), (0, .ref xo), (1, .int v1), (2, .int v2)]) hx hb dX6_part_31 hl (k := 3) rfl (by rw [ex4]; rfl) (by decide) rfl (fun ls hl => ?_)
      refine lv_goto (tgt := 4) hx hb dX6_part_34 (by decide) ?_
      exact hk_4 t u v1 v2 x4 hj _ _ _ V (lv_sub hl [1, 2, 3, 0] rfl)
    · replace hj := iq _ c3 hj
      refine lv_iload_n hx hb dX6_part_21 rfl (lv_at hl 2 rfl) ?_
      refine lv_iload_n hx hb dX6_part_22 rfl (lv_at hl 1 rfl) ?_
      refine lv_icmp_ne (tgt := 28) hx hb dX6_part_23 (by decide) (fun c5 => ?_) (fun c5 => ?_)
      · replace hj := iq _ c5 hj
        obtain ⟨x6, ex6, hj⟩ := nm_some hj
        refine lv_iinc (v := x6) (lv' := [(2, .int x6), (0, .ref xo), (1, .int v1), (3, .int v3)]) hx hb dX6_part_28 hl (k := 2) rfl (by rw [ex6]; rfl) (by decide) rfl (fun ls hl => ?_)
        obtain ⟨x7, ex7, hj⟩ := nm_some hj
        refine lv_iinc (v := x7) (lv' := [(3, .int x7), (2, .int x6), (0, .ref xo), (1, .int v1)]) hx hb dX6_part_31 hl (k := 3) rfl (by rw [ex7]; rfl) (by decide) rfl (fun ls hl => ?_)
        refine lv_goto (tgt := 4) hx hb dX6_part_34 (by decide) ?_
        exact hk_4 t u v1 x6 x7 hj _ _ _ V (lv_sub hl [2, 3, 1, 0] rfl)
      · replace hj := ip _ c5 hj
        refine lv_iload_n hx hb dX6_part_26 rfl (lv_at hl 3 rfl) ?_
        exact hret (v3, t, u) hj rfl V dX6_part_27
def j_X6_part_4  : Nat → (Nat → Int32) → St → Int32 → Int32 → Int32 → Option (Int32 × (Nat → Int32) × St)
  | 0 => fun _ _ _ _ _ => none
  | n + 1 => q_X6_part_4  (j_X6_part_4  n)
theorem lp_X6_part_4 {p : Program} {l : Launch} {e : Env} {R : Room} {s : State} {m : MethodId} {args : Array Value} {below : List Frame} {meth : Method} {c : Code} {A : Nat → Prop} {Q : State → Prop} {D : va_G} {tc : Nat → ClassId} (xo : Nat) (xa ad : Nat → Nat) (f g : Nat → Option Nat) (nT nH : Int32) (rest : va_W) (hRf : 1 ≤ R.frames) (hRl : 21 ≤ R.locals) (C : Cx p s m args meth c cX6_part 4 RX6 (some .int)) {x0 : Int32 × (Nat → Int32) × St} (hret : RetI p l e R s m args below meth c Q cX6_part D tc A .int (some x0) (fun x : Int32 × (Nat → Int32) × St => x.1) (fun x : Int32 × (Nat → Int32) × St => Bw tc xo xa ad f g nT nH x.2.1 ++ (Sw tc ad x.2.2 ++ rest)))  : ∀ (n : Nat), ∀ (t : Nat → Int32) (u : St) (v1 : Int32) (v2 : Int32) (v3 : Int32), j_X6_part_4  n t u v1 v2 v3 = some x0 → ∀ (H : Heap) (locs : List Loc) (ls : Array Slot), Wd D tc A s H locs (Bw tc xo xa ad f g nT nH t ++ (Sw tc ad u ++ rest)) → lv_has ls 4 [(0, .ref xo), (1, .int v1), (2, .int v2), (3, .int v3)] → W p l e R s m args below meth c H locs 0 0 Q (F0 m 4 ls []) := by
  intro n
  induction n with
  | zero =>
    intro t u v1 v2 v3 hj
    have hj : (none : Option (Int32 × (Nat → Int32) × St)) = some x0 := hj
    cases hj
  | succ n ih =>
    intro t u v1 v2 v3 hj
    exact b_X6_part_4 xo xa ad f g nT nH rest hRf hRl C hret   (j_X6_part_4  n) ih t u v1 v2 v3 hj
def j_X6_part (t : Nat → Int32) (u : St) (v1 : Int32) : Option (Int32 × (Nat → Int32) × St) :=
  j_X6_part_4  100 t u v1 (0 : Int32) (0 : Int32)
set_option maxHeartbeats 4000000 in
set_option maxRecDepth 100000 in
theorem k_X6_part (l : Launch) (D : va_G) (tc : Nat → ClassId) (xo : Nat) (xa ad : Nat → Nat) (f g : Nat → Option Nat) (nT nH : Int32) (rest : va_W) (t : Nat → Int32) (u : St) (v1 : Int32) {x0 : Int32 × (Nat → Int32) × St} (hj : j_X6_part t u v1 = some x0) : MetD l D tc yX6_part cX6_part 4 (some .int) 1 21 [.ref xo, .int v1] (Bw tc xo xa ad f g nT nH t ++ (Sw tc ad u ++ rest)) (some (.int x0.1)) (Bw tc xo xa ad f g nT nH x0.2.1 ++ (Sw tc ad x0.2.2 ++ rest)) :=
  x_entI (fun x : Int32 × (Nat → Int32) × St => x.1) (fun x : Int32 × (Nat → Int32) × St => Bw tc xo xa ad f g nT nH x.2.1 ++ (Sw tc ad x.2.2 ++ rest)) (by decide) (own := RX6) rfl (Nat.le_of_ble_eq_true rfl) (fun p e s m args below meth c A Q ls C V hl hret => by
  obtain ⟨hx, hb, hr, hml, hown, hts, hlk, hN⟩ := id C
  have hRf : 1 ≤ (rmz 1 0 0 21).frames := Nat.le_refl _
  have hRl : 21 ≤ (rmz 1 0 0 21).locals := Nat.le_refl _
  generalize (rmz 1 0 0 21) = R at hret hRf hRl ⊢
  generalize s.heap = H at V ⊢
  generalize ([] : List Loc) = locs at V ⊢
  have hl : lv_has ls 4 [(0, .ref xo), (1, .int v1)] := hl
  unfold j_X6_part at hj
  refine lv_iconst (v := 0) hx hb dX6_part_0 (by decide) ?_
  refine lv_istore_n (lv' := [(2, .int (0 : Int32)), (0, .ref xo), (1, .int v1)]) hx hb dX6_part_1 rfl hl (by decide) rfl (fun ls hl => ?_)
  refine lv_iconst (v := 0) hx hb dX6_part_2 (by decide) ?_
  refine lv_istore_n (lv' := [(3, .int (0 : Int32)), (2, .int (0 : Int32)), (0, .ref xo), (1, .int v1)]) hx hb dX6_part_3 rfl hl (by decide) rfl (fun ls hl => ?_)
  exact lp_X6_part_4 xo xa ad f g nT nH rest hRf hRl C hret   100 t u v1 (0 : Int32) (0 : Int32) hj _ _ _ V (lv_sub hl [2, 3, 1, 0] rfl))

def j_X6_fill (t : Nat → Int32) (u : St) (v1 : Int32) : Option (Int32 × (Nat → Int32) × St) :=
  if v1 < (0 : Int32) then nm (upd t 44 (-1 : Int32)) (fun t2 => some ((0 : Int32), t2, u)) else if v1 < (u.1 30) then nm (upd t 44 (0 : Int32)) (fun t4 => gd v1 64 (some (u.2.1 31 v1.toNatClampNeg, t4, u))) else nm (upd t 44 (-1 : Int32)) (fun t6 => some ((0 : Int32), t6, u))
set_option maxHeartbeats 4000000 in
set_option maxRecDepth 100000 in
theorem k_X6_fill (l : Launch) (D : va_G) (tc : Nat → ClassId) (xo : Nat) (xa ad : Nat → Nat) (f g : Nat → Option Nat) (nT nH : Int32) (rest : va_W) (t : Nat → Int32) (u : St) (v1 : Int32) {x0 : Int32 × (Nat → Int32) × St} (hj : j_X6_fill t u v1 = some x0) : MetD l D tc yX6_fill cX6_fill 2 (some .int) 0 0 [.ref xo, .int v1] (Bw tc xo xa ad f g nT nH t ++ (Sw tc ad u ++ rest)) (some (.int x0.1)) (Bw tc xo xa ad f g nT nH x0.2.1 ++ (Sw tc ad x0.2.2 ++ rest)) :=
  x_entI (fun x : Int32 × (Nat → Int32) × St => x.1) (fun x : Int32 × (Nat → Int32) × St => Bw tc xo xa ad f g nT nH x.2.1 ++ (Sw tc ad x.2.2 ++ rest)) (by decide) (own := RX6) rfl (Nat.le_of_ble_eq_true rfl) (fun p e s m args below meth c A Q ls C V hl hret => by
  obtain ⟨hx, hb, hr, hml, hown, hts, hlk, hN⟩ := id C
  have hRf : 0 ≤ (rmz 0 0 0 0).frames := Nat.le_refl _
  have hRl : 0 ≤ (rmz 0 0 0 0).locals := Nat.le_refl _
  generalize (rmz 0 0 0 0) = R at hret hRf hRl ⊢
  generalize s.heap = H at V ⊢
  generalize ([] : List Loc) = locs at V ⊢
  have hl : lv_has ls 2 [(0, .ref xo), (1, .int v1)] := hl
  unfold j_X6_fill at hj
  refine lv_iload_n hx hb dX6_fill_0 rfl (lv_at hl 1 rfl) ?_
  refine lv_if_lt (tgt := 15) hx hb dX6_fill_1 (by decide) (fun c1 => ?_) (fun c1 => ?_)
  · replace hj := ip _ c1 hj
    refine lv_aload_n hx hb dX6_fill_15 rfl (lv_at hl 0 rfl) ?_
    refine lv_iconst (v := (-1)) hx hb dX6_fill_16 (by decide) ?_
    refine x_put hx hb hts hown V inX6 tyX6_ok nmX6 0 rfl rfl 9 (by decide) tw_150 rfl rfl rfl rfl (Nat.le_of_ble_eq_true rfl) dX6_fill_17 (fun H locs V => ?_)
    obtain ⟨t2, et2, hj⟩ := nm_some hj
    replace V : Wd D tc A s H locs (Bw tc xo xa ad f g nT nH t2 ++ (Sw tc ad u ++ rest)) := by rw [et2]; exact V
    refine lv_iconst (v := 0) hx hb dX6_fill_20 (by decide) ?_
    exact hret ((0 : Int32), t2, u) hj rfl V dX6_fill_21
  · replace hj := iq _ c1 hj
    refine lv_iload_n hx hb dX6_fill_4 rfl (lv_at hl 1 rfl) ?_
    refine lv_aload_n hx hb dX6_fill_5 rfl (lv_at hl 0 rfl) ?_
    refine x_get hx hb hts hown V inX6 0 rfl rfl 5 (by decide) tw_146 rfl rfl dX6_fill_6 ?_
    refine x_get hx hb hts hown V inX0 3 rfl rfl 1 (by decide) tw_135 rfl rfl dX6_fill_9 ?_
    refine lv_icmp_lt (tgt := 22) hx hb dX6_fill_12 (by decide) (fun c3 => ?_) (fun c3 => ?_)
    · replace hj := ip _ c3 hj
      refine lv_aload_n hx hb dX6_fill_22 rfl (lv_at hl 0 rfl) ?_
      refine lv_iconst (v := 0) hx hb dX6_fill_23 (by decide) ?_
      refine x_put hx hb hts hown V inX6 tyX6_ok nmX6 0 rfl rfl 9 (by decide) tw_150 rfl rfl rfl rfl (Nat.le_of_ble_eq_true rfl) dX6_fill_24 (fun H locs V => ?_)
      obtain ⟨t4, et4, hj⟩ := nm_some hj
      replace V : Wd D tc A s H locs (Bw tc xo xa ad f g nT nH t4 ++ (Sw tc ad u ++ rest)) := by rw [et4]; exact V
      refine lv_aload_n hx hb dX6_fill_27 rfl (lv_at hl 0 rfl) ?_
      refine x_get hx hb hts hown V inX6 0 rfl rfl 5 (by decide) tw_146 rfl rfl dX6_fill_28 ?_
      refine x_get hx hb hts hown V inX0 3 rfl rfl 0 (by decide) tw_132 rfl rfl dX6_fill_31 ?_
      refine lv_iload_n hx hb dX6_fill_34 rfl (lv_at hl 1 rfl) ?_
      obtain ⟨i5, hj⟩ := gd_some hj
      refine x_iald hx hb V 4 rfl i5 dX6_fill_35 ?_
      exact hret (u.2.1 31 v1.toNatClampNeg, t4, u) hj rfl V dX6_fill_36
    · replace hj := iq _ c3 hj
      refine lv_aload_n hx hb dX6_fill_15 rfl (lv_at hl 0 rfl) ?_
      refine lv_iconst (v := (-1)) hx hb dX6_fill_16 (by decide) ?_
      refine x_put hx hb hts hown V inX6 tyX6_ok nmX6 0 rfl rfl 9 (by decide) tw_150 rfl rfl rfl rfl (Nat.le_of_ble_eq_true rfl) dX6_fill_17 (fun H locs V => ?_)
      obtain ⟨t6, et6, hj⟩ := nm_some hj
      replace V : Wd D tc A s H locs (Bw tc xo xa ad f g nT nH t6 ++ (Sw tc ad u ++ rest)) := by rw [et6]; exact V
      refine lv_iconst (v := 0) hx hb dX6_fill_20 (by decide) ?_
      exact hret ((0 : Int32), t6, u) hj rfl V dX6_fill_21)

def j_X6_say (t : Nat → Int32) (u : St) (v1 : Int32) : Option (Int32 × (Nat → Int32) × St) :=
  if v1 < (0 : Int32) then some ((-2 : Int32), t, u) else if v1 < (10 : Int32) then if (t 43) < (10 : Int32) then gd (t 43) 10 (nm (sA u 32 (t 43).toNatClampNeg v1) (fun u5 => nm (upd t 43 ((t 43) + (1 : Int32))) (fun t6 => some (t6 43, t6, u5)))) else some ((-4 : Int32), t, u) else some ((-2 : Int32), t, u)
set_option maxHeartbeats 4000000 in
set_option maxRecDepth 100000 in
theorem k_X6_say (l : Launch) (D : va_G) (tc : Nat → ClassId) (xo : Nat) (xa ad : Nat → Nat) (f g : Nat → Option Nat) (nT nH : Int32) (rest : va_W) (t : Nat → Int32) (u : St) (v1 : Int32) {x0 : Int32 × (Nat → Int32) × St} (hj : j_X6_say t u v1 = some x0) : MetD l D tc yX6_say cX6_say 2 (some .int) 0 0 [.ref xo, .int v1] (Bw tc xo xa ad f g nT nH t ++ (Sw tc ad u ++ rest)) (some (.int x0.1)) (Bw tc xo xa ad f g nT nH x0.2.1 ++ (Sw tc ad x0.2.2 ++ rest)) :=
  x_entI (fun x : Int32 × (Nat → Int32) × St => x.1) (fun x : Int32 × (Nat → Int32) × St => Bw tc xo xa ad f g nT nH x.2.1 ++ (Sw tc ad x.2.2 ++ rest)) (by decide) (own := RX6) rfl (Nat.le_of_ble_eq_true rfl) (fun p e s m args below meth c A Q ls C V hl hret => by
  obtain ⟨hx, hb, hr, hml, hown, hts, hlk, hN⟩ := id C
  have hRf : 0 ≤ (rmz 0 0 0 0).frames := Nat.le_refl _
  have hRl : 0 ≤ (rmz 0 0 0 0).locals := Nat.le_refl _
  generalize (rmz 0 0 0 0) = R at hret hRf hRl ⊢
  generalize s.heap = H at V ⊢
  generalize ([] : List Loc) = locs at V ⊢
  have hl : lv_has ls 2 [(0, .ref xo), (1, .int v1)] := hl
  unfold j_X6_say at hj
  refine lv_iload_n hx hb dX6_say_0 rfl (lv_at hl 1 rfl) ?_
  refine lv_if_lt (tgt := 10) hx hb dX6_say_1 (by decide) (fun c1 => ?_) (fun c1 => ?_)
  · replace hj := ip _ c1 hj
    refine lv_bipush (v := (-2)) hx hb dX6_say_10 (by decide) ?_
    exact hret ((-2 : Int32), t, u) hj rfl V dX6_say_12
  · replace hj := iq _ c1 hj
    refine lv_iload_n hx hb dX6_say_4 rfl (lv_at hl 1 rfl) ?_
    refine lv_bipush (v := 10) hx hb dX6_say_5 (by decide) ?_
    refine lv_icmp_lt (tgt := 13) hx hb dX6_say_7 (by decide) (fun c2 => ?_) (fun c2 => ?_)
    · replace hj := ip _ c2 hj
      refine lv_aload_n hx hb dX6_say_13 rfl (lv_at hl 0 rfl) ?_
      refine x_get hx hb hts hown V inX6 0 rfl rfl 8 (by decide) tw_149 rfl rfl dX6_say_14 ?_
      refine lv_bipush (v := 10) hx hb dX6_say_17 (by decide) ?_
      refine lv_icmp_lt (tgt := 25) hx hb dX6_say_19 (by decide) (fun c3 => ?_) (fun c3 => ?_)
      · replace hj := ip _ c3 hj
        refine lv_aload_n hx hb dX6_say_25 rfl (lv_at hl 0 rfl) ?_
        refine x_get hx hb hts hown V inX6 0 rfl rfl 7 (by decide) tw_148 rfl rfl dX6_say_26 ?_
        refine lv_aload_n hx hb dX6_say_29 rfl (lv_at hl 0 rfl) ?_
        refine x_get hx hb hts hown V inX6 0 rfl rfl 8 (by decide) tw_149 rfl rfl dX6_say_30 ?_
        refine lv_iload_n hx hb dX6_say_33 rfl (lv_at hl 1 rfl) ?_
        obtain ⟨i4, hj⟩ := gd_some hj
        obtain ⟨u5, eu5, hj⟩ := nm_some hj
        refine x_iast hx hb V 5 rfl i4 dX6_say_34 (fun H locs V => ?_)
        replace V : Wd D tc A s H locs (Bw tc xo xa ad f g nT nH t ++ (Sw tc ad u5 ++ rest)) := by rw [eu5]; exact V
        refine lv_aload_n hx hb dX6_say_35 rfl (lv_at hl 0 rfl) ?_
        refine lv_dup hx hb dX6_say_36 rfl ?_
        refine x_get hx hb hts hown V inX6 0 rfl rfl 8 (by decide) tw_149 rfl rfl dX6_say_37 ?_
        refine lv_iconst (v := 1) hx hb dX6_say_40 (by decide) ?_
        refine lv_iadd hx hb dX6_say_41 ?_
        refine x_put hx hb hts hown V inX6 tyX6_ok nmX6 0 rfl rfl 8 (by decide) tw_149 rfl rfl rfl rfl (Nat.le_of_ble_eq_true rfl) dX6_say_42 (fun H locs V => ?_)
        obtain ⟨t6, et6, hj⟩ := nm_some hj
        replace V : Wd D tc A s H locs (Bw tc xo xa ad f g nT nH t6 ++ (Sw tc ad u5 ++ rest)) := by rw [et6]; exact V
        refine lv_aload_n hx hb dX6_say_45 rfl (lv_at hl 0 rfl) ?_
        refine x_get hx hb hts hown V inX6 0 rfl rfl 8 (by decide) tw_149 rfl rfl dX6_say_46 ?_
        exact hret (t6 43, t6, u5) hj rfl V dX6_say_49
      · replace hj := iq _ c3 hj
        refine lv_bipush (v := (-4)) hx hb dX6_say_22 (by decide) ?_
        exact hret ((-4 : Int32), t, u) hj rfl V dX6_say_24
    · replace hj := iq _ c2 hj
      refine lv_bipush (v := (-2)) hx hb dX6_say_10 (by decide) ?_
      exact hret ((-2 : Int32), t, u) hj rfl V dX6_say_12)

def j_X6_answered_N (t : Nat → Int32) (v1 : Int32) (v2 : Int32) : Option (Int32 × (Nat → Int32)) :=
  nm (upd t 44 (-1 : Int32)) (fun t1 => some ((0 : Int32), t1))
set_option maxHeartbeats 4000000 in
set_option maxRecDepth 100000 in
theorem k_X6_answered_N (l : Launch) (D : va_G) (tc : Nat → ClassId) (xo : Nat) (xa ad : Nat → Nat) (f g : Nat → Option Nat) (nT nH : Int32) (rest : va_W) (t : Nat → Int32) (v1 : Int32) (v2 : Int32) (hfd : FN nH v1) {x0 : Int32 × (Nat → Int32)} (hj : j_X6_answered_N t v1 v2 = some x0) : MetD l D tc yX6_answered cX6_answered 4 (some .int) 2 42 [.ref xo, .int v1, .int v2] (Bw tc xo xa ad f g nT nH t ++ rest) (some (.int x0.1)) (Bw tc xo xa ad f g nT nH x0.2 ++ rest) :=
  x_entI (fun x : Int32 × (Nat → Int32) => x.1) (fun x : Int32 × (Nat → Int32) => Bw tc xo xa ad f g nT nH x.2 ++ rest) (by decide) (own := RX6) rfl (Nat.le_of_ble_eq_true rfl) (fun p e s m args below meth c A Q ls C V hl hret => by
  obtain ⟨hx, hb, hr, hml, hown, hts, hlk, hN⟩ := id C
  have hRf : 2 ≤ (rmz 2 0 0 42).frames := Nat.le_refl _
  have hRl : 42 ≤ (rmz 2 0 0 42).locals := Nat.le_refl _
  generalize (rmz 2 0 0 42) = R at hret hRf hRl ⊢
  generalize s.heap = H at V ⊢
  generalize ([] : List Loc) = locs at V ⊢
  have hl : lv_has ls 4 [(0, .ref xo), (1, .int v1), (2, .int v2)] := hl
  unfold j_X6_answered_N at hj
  refine lv_aload_n hx hb dX6_answered_0 rfl (lv_at hl 0 rfl) ?_
  refine lv_iload_n hx hb dX6_answered_1 rfl (lv_at hl 1 rfl) ?_
  refine x_allR V _ (rg_map _) (x_runV (n := 1) (rest := []) C V _ (rg_map _) (rg_nd _) (kN_historyOf l D tc xo xa ad f g nT nH t rest v1 hfd) tw_227 tw_229 tp_2 tw_1 tw_230 (by decide +kernel) ⟨Nat.le_trans (Nat.le_of_ble_eq_true rfl) hRf, Nat.le_trans (Nat.le_of_ble_eq_true rfl) hRl⟩ ⟨Nat.zero_le _, Nat.zero_le _⟩ 0 5 rfl rfl rfl hl.1 rfl (Nat.le_of_ble_eq_true rfl) dX6_answered_2) (fun H locs V => ?_)
  replace V : Wd D tc A s H locs (Bw tc xo xa ad f g nT nH t ++ rest) := V
  refine lv_astore_nN (lv' := [(3, .null), (0, .ref xo), (1, .int v1), (2, .int v2)]) hx hb dX6_answered_5 rfl hl (by decide) rfl (fun ls hl => ?_)
  refine lv_aload_nN hx hb dX6_answered_6 rfl (lv_at hl 0 rfl) ?_
  refine lv_ifnullN (tgt := 18) hx hb dX6_answered_7 (by decide) ?_
  refine lv_aload_n hx hb dX6_answered_18 rfl (lv_at hl 1 rfl) ?_
  refine lv_iconst (v := (-1)) hx hb dX6_answered_19 (by decide) ?_
  refine x_put hx hb hts hown V inX6 tyX6_ok nmX6 0 rfl rfl 9 (by decide) tw_150 rfl rfl rfl rfl (Nat.le_of_ble_eq_true rfl) dX6_answered_20 (fun H locs V => ?_)
  obtain ⟨t1, et1, hj⟩ := nm_some hj
  replace V : Wd D tc A s H locs (Bw tc xo xa ad f g nT nH t1 ++ rest) := by rw [et1]; exact V
  refine lv_iconst (v := 0) hx hb dX6_answered_23 (by decide) ?_
  exact hret ((0 : Int32), t1) hj rfl V dX6_answered_24)

def j_X6_answer_N (t : Nat → Int32) (v1 : Int32) (v2 : Int32) (v3 : Int32) : Option (Int32 × (Nat → Int32)) :=
  some ((-1 : Int32), t)
set_option maxHeartbeats 4000000 in
set_option maxRecDepth 100000 in
theorem k_X6_answer_N (l : Launch) (D : va_G) (tc : Nat → ClassId) (xo : Nat) (xa ad : Nat → Nat) (f g : Nat → Option Nat) (nT nH : Int32) (rest : va_W) (t : Nat → Int32) (v1 : Int32) (v2 : Int32) (v3 : Int32) (hfd : FN nH v1) {x0 : Int32 × (Nat → Int32)} (hj : j_X6_answer_N t v1 v2 v3 = some x0) : MetD l D tc yX6_answer cX6_answer 5 (some .int) 2 43 [.ref xo, .int v1, .int v2, .int v3] (Bw tc xo xa ad f g nT nH t ++ rest) (some (.int x0.1)) (Bw tc xo xa ad f g nT nH x0.2 ++ rest) :=
  x_entI (fun x : Int32 × (Nat → Int32) => x.1) (fun x : Int32 × (Nat → Int32) => Bw tc xo xa ad f g nT nH x.2 ++ rest) (by decide) (own := RX6) rfl (Nat.le_of_ble_eq_true rfl) (fun p e s m args below meth c A Q ls C V hl hret => by
  obtain ⟨hx, hb, hr, hml, hown, hts, hlk, hN⟩ := id C
  have hRf : 2 ≤ (rmz 2 0 0 43).frames := Nat.le_refl _
  have hRl : 43 ≤ (rmz 2 0 0 43).locals := Nat.le_refl _
  generalize (rmz 2 0 0 43) = R at hret hRf hRl ⊢
  generalize s.heap = H at V ⊢
  generalize ([] : List Loc) = locs at V ⊢
  have hl : lv_has ls 5 [(0, .ref xo), (1, .int v1), (2, .int v2), (3, .int v3)] := hl
  unfold j_X6_answer_N at hj
  refine lv_aload_n hx hb dX6_answer_0 rfl (lv_at hl 0 rfl) ?_
  refine lv_iload_n hx hb dX6_answer_1 rfl (lv_at hl 1 rfl) ?_
  refine x_allR V _ (rg_map _) (x_runV (n := 1) (rest := []) C V _ (rg_map _) (rg_nd _) (kN_historyOf l D tc xo xa ad f g nT nH t rest v1 hfd) tw_227 tw_229 tp_2 tw_1 tw_230 (by decide +kernel) ⟨Nat.le_trans (Nat.le_of_ble_eq_true rfl) hRf, Nat.le_trans (Nat.le_of_ble_eq_true rfl) hRl⟩ ⟨Nat.zero_le _, Nat.zero_le _⟩ 0 5 rfl rfl rfl hl.1 rfl (Nat.le_of_ble_eq_true rfl) dX6_answer_2) (fun H locs V => ?_)
  replace V : Wd D tc A s H locs (Bw tc xo xa ad f g nT nH t ++ rest) := V
  refine lv_astoreN (lv' := [(4, .null), (0, .ref xo), (1, .int v1), (2, .int v2), (3, .int v3)]) hx hb dX6_answer_5 hl (by decide) rfl (fun ls hl => ?_)
  refine lv_aloadN hx hb dX6_answer_7 (lv_at hl 0 rfl) ?_
  refine lv_ifnullN (tgt := 21) hx hb dX6_answer_9 (by decide) ?_
  refine lv_iconst (v := (-1)) hx hb dX6_answer_21 (by decide) ?_
  exact hret ((-1 : Int32), t) hj rfl V dX6_answer_22)

def j_X6_alter_N (t : Nat → Int32) (v1 : Int32) (v2 : Int32) (v3 : Int32) : Option (Int32 × (Nat → Int32)) :=
  (j_X6_answered_N t v1 v2).bind (fun ⟨r1, t2⟩ => if (t2 44) = (0 : Int32) then some (r1, t2) else some (r1, t2))
set_option maxHeartbeats 4000000 in
set_option maxRecDepth 100000 in
theorem k_X6_alter_N (l : Launch) (D : va_G) (tc : Nat → ClassId) (xo : Nat) (xa ad : Nat → Nat) (f g : Nat → Option Nat) (nT nH : Int32) (rest : va_W) (t : Nat → Int32) (v1 : Int32) (v2 : Int32) (v3 : Int32) (hfd : FN nH v1) {x0 : Int32 × (Nat → Int32)} (hj : j_X6_alter_N t v1 v2 v3 = some x0) : MetD l D tc yX6_alter cX6_alter 6 (some .int) 3 65 [.ref xo, .int v1, .int v2, .int v3] (Bw tc xo xa ad f g nT nH t ++ rest) (some (.int x0.1)) (Bw tc xo xa ad f g nT nH x0.2 ++ rest) :=
  x_entI (fun x : Int32 × (Nat → Int32) => x.1) (fun x : Int32 × (Nat → Int32) => Bw tc xo xa ad f g nT nH x.2 ++ rest) (by decide) (own := RX6) rfl (Nat.le_of_ble_eq_true rfl) (fun p e s m args below meth c A Q ls C V hl hret => by
  obtain ⟨hx, hb, hr, hml, hown, hts, hlk, hN⟩ := id C
  have hRf : 3 ≤ (rmz 3 0 0 65).frames := Nat.le_refl _
  have hRl : 65 ≤ (rmz 3 0 0 65).locals := Nat.le_refl _
  generalize (rmz 3 0 0 65) = R at hret hRf hRl ⊢
  generalize s.heap = H at V ⊢
  generalize ([] : List Loc) = locs at V ⊢
  have hl : lv_has ls 6 [(0, .ref xo), (1, .int v1), (2, .int v2), (3, .int v3)] := hl
  unfold j_X6_alter_N at hj
  refine lv_aload_n hx hb dX6_alter_0 rfl (lv_at hl 0 rfl) ?_
  refine lv_iload_n hx hb dX6_alter_1 rfl (lv_at hl 1 rfl) ?_
  refine lv_iload_n hx hb dX6_alter_2 rfl (lv_at hl 2 rfl) ?_
  obtain ⟨⟨r1, t2⟩, hr1, hj⟩ := bd_some hj
  refine x_allI V _ (rg_map _) (x_runV (n := 2) (rest := []) C V _ (rg_map _) (rg_nd _) (k_X6_answered_N l D tc xo xa ad f g nT nH rest t v1 v2 hfd hr1) tw_279 tw_280 tw_281 tw_1 tw_282 (by decide +kernel) ⟨Nat.le_trans (Nat.le_of_ble_eq_true rfl) hRf, Nat.le_trans (Nat.le_of_ble_eq_true rfl) hRl⟩ ⟨Nat.zero_le _, Nat.zero_le _⟩ 0 5 rfl rfl rfl hl.1 rfl (Nat.le_of_ble_eq_true rfl) dX6_alter_3) (fun H locs V zr1 => ?_)
  replace V : Wd D tc A s H locs (Bw tc xo xa ad f g nT nH t2 ++ rest) := V
  refine lv_istore (lv' := [(4, .int r1), (0, .ref xo), (1, .int v1), (2, .int v2), (3, .int v3)]) hx hb dX6_alter_6 hl (by decide) rfl (fun ls hl => ?_)
  refine lv_aload_n hx hb dX6_alter_8 rfl (lv_at hl 1 rfl) ?_
  refine lv_iload_n hx hb dX6_alter_9 rfl (lv_at hl 2 rfl) ?_
  refine x_allR V _ (rg_map _) (x_runV (n := 1) (rest := []) C V _ (rg_map _) (rg_nd _) (kN_historyOf l D tc xo xa ad f g nT nH t2 rest v1 hfd) tw_227 tw_229 tp_2 tw_1 tw_230 (by decide +kernel) ⟨Nat.le_trans (Nat.le_of_ble_eq_true rfl) hRf, Nat.le_trans (Nat.le_of_ble_eq_true rfl) hRl⟩ ⟨Nat.zero_le _, Nat.zero_le _⟩ 0 5 rfl rfl rfl hl.1 rfl (Nat.le_of_ble_eq_true rfl) dX6_alter_10) (fun H locs V => ?_)
  replace V : Wd D tc A s H locs (Bw tc xo xa ad f g nT nH t2 ++ rest) := V
  refine lv_astoreN (lv' := [(5, .null), (4, .int r1), (0, .ref xo), (1, .int v1), (2, .int v2), (3, .int v3)]) hx hb dX6_alter_13 hl (by decide) rfl (fun ls hl => ?_)
  refine lv_aload_n hx hb dX6_alter_15 rfl (lv_at hl 2 rfl) ?_
  refine x_get hx hb hts hown V inX6 0 rfl rfl 9 (by decide) tw_150 rfl rfl dX6_alter_16 ?_
  refine lv_if_ne (tgt := 44) hx hb dX6_alter_19 (by decide) (fun c3 => ?_) (fun c3 => ?_)
  · replace hj := iq _ c3 hj
    refine lv_iload hx hb dX6_alter_44 (lv_at hl 1 rfl) ?_
    exact hret (r1, t2) hj rfl V dX6_alter_46
  · replace hj := ip _ c3 hj
    refine lv_aloadN hx hb dX6_alter_22 (lv_at hl 0 rfl) ?_
    refine lv_ifnullN (tgt := 44) hx hb dX6_alter_24 (by decide) ?_
    refine lv_iload hx hb dX6_alter_44 (lv_at hl 1 rfl) ?_
    exact hret (r1, t2) hj rfl V dX6_alter_46)

def j_X6_call_N (t : Nat → Int32) (v1 : Int32) (v2 : Int32) (v3 : Int32) : Option (Int32 × (Nat → Int32)) :=
  some ((-1 : Int32), t)
set_option maxHeartbeats 4000000 in
set_option maxRecDepth 100000 in
theorem k_X6_call_N (l : Launch) (D : va_G) (tc : Nat → ClassId) (xo : Nat) (xa ad : Nat → Nat) (f g : Nat → Option Nat) (nT nH : Int32) (rest : va_W) (t : Nat → Int32) (v1 : Int32) (v2 : Int32) (v3 : Int32) (hfd : FN nH v1) {x0 : Int32 × (Nat → Int32)} (hj : j_X6_call_N t v1 v2 v3 = some x0) : MetD l D tc yX6_call cX6_call 5 (some .int) 1 21 [.ref xo, .int v1, .int v2, .int v3] (Bw tc xo xa ad f g nT nH t ++ rest) (some (.int x0.1)) (Bw tc xo xa ad f g nT nH x0.2 ++ rest) :=
  x_entI (fun x : Int32 × (Nat → Int32) => x.1) (fun x : Int32 × (Nat → Int32) => Bw tc xo xa ad f g nT nH x.2 ++ rest) (by decide) (own := RX6) rfl (Nat.le_of_ble_eq_true rfl) (fun p e s m args below meth c A Q ls C V hl hret => by
  obtain ⟨hx, hb, hr, hml, hown, hts, hlk, hN⟩ := id C
  have hRf : 1 ≤ (rmz 1 0 0 21).frames := Nat.le_refl _
  have hRl : 21 ≤ (rmz 1 0 0 21).locals := Nat.le_refl _
  generalize (rmz 1 0 0 21) = R at hret hRf hRl ⊢
  generalize s.heap = H at V ⊢
  generalize ([] : List Loc) = locs at V ⊢
  have hl : lv_has ls 5 [(0, .ref xo), (1, .int v1), (2, .int v2), (3, .int v3)] := hl
  unfold j_X6_call_N at hj
  refine lv_aload_n hx hb dX6_call_0 rfl (lv_at hl 0 rfl) ?_
  refine lv_iload_n hx hb dX6_call_1 rfl (lv_at hl 1 rfl) ?_
  refine x_allR V _ (rg_map _) (x_runV (n := 1) (rest := []) C V _ (rg_map _) (rg_nd _) (kN_historyOf l D tc xo xa ad f g nT nH t rest v1 hfd) tw_227 tw_229 tp_2 tw_1 tw_230 (by decide +kernel) ⟨Nat.le_trans (Nat.le_of_ble_eq_true rfl) hRf, Nat.le_trans (Nat.le_of_ble_eq_true rfl) hRl⟩ ⟨Nat.zero_le _, Nat.zero_le _⟩ 0 5 rfl rfl rfl hl.1 rfl (Nat.le_of_ble_eq_true rfl) dX6_call_2) (fun H locs V => ?_)
  replace V : Wd D tc A s H locs (Bw tc xo xa ad f g nT nH t ++ rest) := V
  refine lv_astoreN (lv' := [(4, .null), (0, .ref xo), (1, .int v1), (2, .int v2), (3, .int v3)]) hx hb dX6_call_5 hl (by decide) rfl (fun ls hl => ?_)
  refine lv_aloadN hx hb dX6_call_7 (lv_at hl 0 rfl) ?_
  refine lv_ifnullN (tgt := 21) hx hb dX6_call_9 (by decide) ?_
  refine lv_iconst (v := (-1)) hx hb dX6_call_21 (by decide) ?_
  exact hret ((-1 : Int32), t) hj rfl V dX6_call_22)

def j_X6_about_N (t : Nat → Int32) (v1 : Int32) (v2 : Int32) : Option (Int32 × (Nat → Int32)) :=
  some ((-1 : Int32), t)
set_option maxHeartbeats 4000000 in
set_option maxRecDepth 100000 in
theorem k_X6_about_N (l : Launch) (D : va_G) (tc : Nat → ClassId) (xo : Nat) (xa ad : Nat → Nat) (f g : Nat → Option Nat) (nT nH : Int32) (rest : va_W) (t : Nat → Int32) (v1 : Int32) (v2 : Int32) (hfd : FN nH v1) {x0 : Int32 × (Nat → Int32)} (hj : j_X6_about_N t v1 v2 = some x0) : MetD l D tc yX6_about cX6_about 4 (some .int) 1 22 [.ref xo, .int v1, .int v2] (Bw tc xo xa ad f g nT nH t ++ rest) (some (.int x0.1)) (Bw tc xo xa ad f g nT nH x0.2 ++ rest) :=
  x_entI (fun x : Int32 × (Nat → Int32) => x.1) (fun x : Int32 × (Nat → Int32) => Bw tc xo xa ad f g nT nH x.2 ++ rest) (by decide) (own := RX6) rfl (Nat.le_of_ble_eq_true rfl) (fun p e s m args below meth c A Q ls C V hl hret => by
  obtain ⟨hx, hb, hr, hml, hown, hts, hlk, hN⟩ := id C
  have hRf : 1 ≤ (rmz 1 0 0 22).frames := Nat.le_refl _
  have hRl : 22 ≤ (rmz 1 0 0 22).locals := Nat.le_refl _
  generalize (rmz 1 0 0 22) = R at hret hRf hRl ⊢
  generalize s.heap = H at V ⊢
  generalize ([] : List Loc) = locs at V ⊢
  have hl : lv_has ls 4 [(0, .ref xo), (1, .int v1), (2, .int v2)] := hl
  unfold j_X6_about_N at hj
  refine lv_aload_n hx hb dX6_about_0 rfl (lv_at hl 0 rfl) ?_
  refine lv_iload_n hx hb dX6_about_1 rfl (lv_at hl 1 rfl) ?_
  refine x_allR V _ (rg_map _) (x_runV (n := 1) (rest := []) C V _ (rg_map _) (rg_nd _) (kN_historyOf l D tc xo xa ad f g nT nH t rest v1 hfd) tw_227 tw_229 tp_2 tw_1 tw_230 (by decide +kernel) ⟨Nat.le_trans (Nat.le_of_ble_eq_true rfl) hRf, Nat.le_trans (Nat.le_of_ble_eq_true rfl) hRl⟩ ⟨Nat.zero_le _, Nat.zero_le _⟩ 0 5 rfl rfl rfl hl.1 rfl (Nat.le_of_ble_eq_true rfl) dX6_about_2) (fun H locs V => ?_)
  replace V : Wd D tc A s H locs (Bw tc xo xa ad f g nT nH t ++ rest) := V
  refine lv_astore_nN (lv' := [(3, .null), (0, .ref xo), (1, .int v1), (2, .int v2)]) hx hb dX6_about_5 rfl hl (by decide) rfl (fun ls hl => ?_)
  refine lv_aload_nN hx hb dX6_about_6 rfl (lv_at hl 0 rfl) ?_
  refine lv_ifnonnullN hx hb dX6_about_7 ?_
  refine lv_iconst (v := (-1)) hx hb dX6_about_10 (by decide) ?_
  exact hret ((-1 : Int32), t) hj rfl V dX6_about_11)

def j_X6_ahead_N (t : Nat → Int32) (v1 : Int32) (v2 : Int32) (v3 : Int32) (v4 : Int32) : Option (Int32 × (Nat → Int32)) :=
  some ((-1 : Int32), t)
set_option maxHeartbeats 4000000 in
set_option maxRecDepth 100000 in
theorem k_X6_ahead_N (l : Launch) (D : va_G) (tc : Nat → ClassId) (xo : Nat) (xa ad : Nat → Nat) (f g : Nat → Option Nat) (nT nH : Int32) (rest : va_W) (t : Nat → Int32) (v1 : Int32) (v2 : Int32) (v3 : Int32) (v4 : Int32) (hfd : FN nH v1) {x0 : Int32 × (Nat → Int32)} (hj : j_X6_ahead_N t v1 v2 v3 v4 = some x0) : MetD l D tc yX6_ahead cX6_ahead 6 (some .int) 3 68 [.ref xo, .int v1, .int v2, .int v3, .int v4] (Bw tc xo xa ad f g nT nH t ++ rest) (some (.int x0.1)) (Bw tc xo xa ad f g nT nH x0.2 ++ rest) :=
  x_entI (fun x : Int32 × (Nat → Int32) => x.1) (fun x : Int32 × (Nat → Int32) => Bw tc xo xa ad f g nT nH x.2 ++ rest) (by decide) (own := RX6) rfl (Nat.le_of_ble_eq_true rfl) (fun p e s m args below meth c A Q ls C V hl hret => by
  obtain ⟨hx, hb, hr, hml, hown, hts, hlk, hN⟩ := id C
  have hRf : 3 ≤ (rmz 3 0 0 68).frames := Nat.le_refl _
  have hRl : 68 ≤ (rmz 3 0 0 68).locals := Nat.le_refl _
  generalize (rmz 3 0 0 68) = R at hret hRf hRl ⊢
  generalize s.heap = H at V ⊢
  generalize ([] : List Loc) = locs at V ⊢
  have hl : lv_has ls 6 [(0, .ref xo), (1, .int v1), (2, .int v2), (3, .int v3), (4, .int v4)] := hl
  unfold j_X6_ahead_N at hj
  refine lv_aload_n hx hb dX6_ahead_0 rfl (lv_at hl 0 rfl) ?_
  refine lv_iload_n hx hb dX6_ahead_1 rfl (lv_at hl 1 rfl) ?_
  refine x_allR V _ (rg_map _) (x_runV (n := 1) (rest := []) C V _ (rg_map _) (rg_nd _) (kN_historyOf l D tc xo xa ad f g nT nH t rest v1 hfd) tw_227 tw_229 tp_2 tw_1 tw_230 (by decide +kernel) ⟨Nat.le_trans (Nat.le_of_ble_eq_true rfl) hRf, Nat.le_trans (Nat.le_of_ble_eq_true rfl) hRl⟩ ⟨Nat.zero_le _, Nat.zero_le _⟩ 0 5 rfl rfl rfl hl.1 rfl (Nat.le_of_ble_eq_true rfl) dX6_ahead_2) (fun H locs V => ?_)
  replace V : Wd D tc A s H locs (Bw tc xo xa ad f g nT nH t ++ rest) := V
  refine lv_astoreN (lv' := [(5, .null), (0, .ref xo), (1, .int v1), (2, .int v2), (3, .int v3), (4, .int v4)]) hx hb dX6_ahead_5 hl (by decide) rfl (fun ls hl => ?_)
  refine lv_aloadN hx hb dX6_ahead_7 (lv_at hl 0 rfl) ?_
  refine lv_ifnullN (tgt := 38) hx hb dX6_ahead_9 (by decide) ?_
  refine lv_iconst (v := (-1)) hx hb dX6_ahead_38 (by decide) ?_
  exact hret ((-1 : Int32), t) hj rfl V dX6_ahead_39)

def j_X6_judge_N (t : Nat → Int32) (v1 : Int32) (v2 : Int32) : Option (Int32 × (Nat → Int32)) :=
  some ((-1 : Int32), t)
set_option maxHeartbeats 4000000 in
set_option maxRecDepth 100000 in
theorem k_X6_judge_N (l : Launch) (D : va_G) (tc : Nat → ClassId) (xo : Nat) (xa ad : Nat → Nat) (f g : Nat → Option Nat) (nT nH : Int32) (rest : va_W) (t : Nat → Int32) (v1 : Int32) (v2 : Int32) (hfd : FN nH v1) {x0 : Int32 × (Nat → Int32)} (hj : j_X6_judge_N t v1 v2 = some x0) : MetD l D tc yX6_judge cX6_judge 4 (some .int) 19 538 [.ref xo, .int v1, .int v2] (Bw tc xo xa ad f g nT nH t ++ rest) (some (.int x0.1)) (Bw tc xo xa ad f g nT nH x0.2 ++ rest) :=
  x_entI (fun x : Int32 × (Nat → Int32) => x.1) (fun x : Int32 × (Nat → Int32) => Bw tc xo xa ad f g nT nH x.2 ++ rest) (by decide) (own := RX6) rfl (Nat.le_of_ble_eq_true rfl) (fun p e s m args below meth c A Q ls C V hl hret => by
  obtain ⟨hx, hb, hr, hml, hown, hts, hlk, hN⟩ := id C
  have hRf : 19 ≤ (rmz 19 0 0 538).frames := Nat.le_refl _
  have hRl : 538 ≤ (rmz 19 0 0 538).locals := Nat.le_refl _
  generalize (rmz 19 0 0 538) = R at hret hRf hRl ⊢
  generalize s.heap = H at V ⊢
  generalize ([] : List Loc) = locs at V ⊢
  have hl : lv_has ls 4 [(0, .ref xo), (1, .int v1), (2, .int v2)] := hl
  unfold j_X6_judge_N at hj
  refine lv_aload_n hx hb dX6_judge_0 rfl (lv_at hl 0 rfl) ?_
  refine lv_iload_n hx hb dX6_judge_1 rfl (lv_at hl 1 rfl) ?_
  refine x_allR V _ (rg_map _) (x_runV (n := 1) (rest := []) C V _ (rg_map _) (rg_nd _) (kN_historyOf l D tc xo xa ad f g nT nH t rest v1 hfd) tw_227 tw_229 tp_2 tw_1 tw_230 (by decide +kernel) ⟨Nat.le_trans (Nat.le_of_ble_eq_true rfl) hRf, Nat.le_trans (Nat.le_of_ble_eq_true rfl) hRl⟩ ⟨Nat.zero_le _, Nat.zero_le _⟩ 0 5 rfl rfl rfl hl.1 rfl (Nat.le_of_ble_eq_true rfl) dX6_judge_2) (fun H locs V => ?_)
  replace V : Wd D tc A s H locs (Bw tc xo xa ad f g nT nH t ++ rest) := V
  refine lv_astore_nN (lv' := [(3, .null), (0, .ref xo), (1, .int v1), (2, .int v2)]) hx hb dX6_judge_5 rfl hl (by decide) rfl (fun ls hl => ?_)
  refine lv_aload_nN hx hb dX6_judge_6 rfl (lv_at hl 0 rfl) ?_
  refine lv_ifnullN (tgt := 17) hx hb dX6_judge_7 (by decide) ?_
  refine lv_iconst (v := (-1)) hx hb dX6_judge_17 (by decide) ?_
  exact hret ((-1 : Int32), t) hj rfl V dX6_judge_18)

def j_X6_first_N (t : Nat → Int32) (v1 : Int32) (v2 : Int32) (v3 : Int32) : Option (Int32 × (Nat → Int32)) :=
  some ((-1 : Int32), t)
set_option maxHeartbeats 4000000 in
set_option maxRecDepth 100000 in
theorem k_X6_first_N (l : Launch) (D : va_G) (tc : Nat → ClassId) (xo : Nat) (xa ad : Nat → Nat) (f g : Nat → Option Nat) (nT nH : Int32) (rest : va_W) (t : Nat → Int32) (v1 : Int32) (v2 : Int32) (v3 : Int32) (hfd : FN nH v1) {x0 : Int32 × (Nat → Int32)} (hj : j_X6_first_N t v1 v2 v3 = some x0) : MetD l D tc yX6_first cX6_first 5 (some .int) 20 568 [.ref xo, .int v1, .int v2, .int v3] (Bw tc xo xa ad f g nT nH t ++ rest) (some (.int x0.1)) (Bw tc xo xa ad f g nT nH x0.2 ++ rest) :=
  x_entI (fun x : Int32 × (Nat → Int32) => x.1) (fun x : Int32 × (Nat → Int32) => Bw tc xo xa ad f g nT nH x.2 ++ rest) (by decide) (own := RX6) rfl (Nat.le_of_ble_eq_true rfl) (fun p e s m args below meth c A Q ls C V hl hret => by
  obtain ⟨hx, hb, hr, hml, hown, hts, hlk, hN⟩ := id C
  have hRf : 20 ≤ (rmz 20 0 0 568).frames := Nat.le_refl _
  have hRl : 568 ≤ (rmz 20 0 0 568).locals := Nat.le_refl _
  generalize (rmz 20 0 0 568) = R at hret hRf hRl ⊢
  generalize s.heap = H at V ⊢
  generalize ([] : List Loc) = locs at V ⊢
  have hl : lv_has ls 5 [(0, .ref xo), (1, .int v1), (2, .int v2), (3, .int v3)] := hl
  unfold j_X6_first_N at hj
  refine lv_aload_n hx hb dX6_first_0 rfl (lv_at hl 0 rfl) ?_
  refine lv_iload_n hx hb dX6_first_1 rfl (lv_at hl 1 rfl) ?_
  refine x_allR V _ (rg_map _) (x_runV (n := 1) (rest := []) C V _ (rg_map _) (rg_nd _) (kN_historyOf l D tc xo xa ad f g nT nH t rest v1 hfd) tw_227 tw_229 tp_2 tw_1 tw_230 (by decide +kernel) ⟨Nat.le_trans (Nat.le_of_ble_eq_true rfl) hRf, Nat.le_trans (Nat.le_of_ble_eq_true rfl) hRl⟩ ⟨Nat.zero_le _, Nat.zero_le _⟩ 0 5 rfl rfl rfl hl.1 rfl (Nat.le_of_ble_eq_true rfl) dX6_first_2) (fun H locs V => ?_)
  replace V : Wd D tc A s H locs (Bw tc xo xa ad f g nT nH t ++ rest) := V
  refine lv_astoreN (lv' := [(4, .null), (0, .ref xo), (1, .int v1), (2, .int v2), (3, .int v3)]) hx hb dX6_first_5 hl (by decide) rfl (fun ls hl => ?_)
  refine lv_aloadN hx hb dX6_first_7 (lv_at hl 0 rfl) ?_
  refine lv_ifnullN (tgt := 29) hx hb dX6_first_9 (by decide) ?_
  refine lv_iconst (v := (-1)) hx hb dX6_first_29 (by decide) ?_
  exact hret ((-1 : Int32), t) hj rfl V dX6_first_30)

def j_X6_orders_N (t : Nat → Int32) (v1 : Int32) (v2 : Int32) : Option (Int64 × (Nat → Int32)) :=
  some ((-1 : Int64), t)
set_option maxHeartbeats 4000000 in
set_option maxRecDepth 100000 in
theorem k_X6_orders_N (l : Launch) (D : va_G) (tc : Nat → ClassId) (xo : Nat) (xa ad : Nat → Nat) (f g : Nat → Option Nat) (nT nH : Int32) (rest : va_W) (t : Nat → Int32) (v1 : Int32) (v2 : Int32) (hfd : FN nH v1) {x0 : Int64 × (Nat → Int32)} (hj : j_X6_orders_N t v1 v2 = some x0) : MetD l D tc yX6_orders cX6_orders 4 (some .long) 19 537 [.ref xo, .int v1, .int v2] (Bw tc xo xa ad f g nT nH t ++ rest) (some (.long x0.1)) (Bw tc xo xa ad f g nT nH x0.2 ++ rest) :=
  x_entL (fun x : Int64 × (Nat → Int32) => x.1) (fun x : Int64 × (Nat → Int32) => Bw tc xo xa ad f g nT nH x.2 ++ rest) (by decide) (own := RX6) rfl (Nat.le_of_ble_eq_true rfl) (fun p e s m args below meth c A Q ls C V hl hret => by
  obtain ⟨hx, hb, hr, hml, hown, hts, hlk, hN⟩ := id C
  have hRf : 19 ≤ (rmz 19 0 0 537).frames := Nat.le_refl _
  have hRl : 537 ≤ (rmz 19 0 0 537).locals := Nat.le_refl _
  generalize (rmz 19 0 0 537) = R at hret hRf hRl ⊢
  generalize s.heap = H at V ⊢
  generalize ([] : List Loc) = locs at V ⊢
  have hl : lv_has ls 4 [(0, .ref xo), (1, .int v1), (2, .int v2)] := hl
  unfold j_X6_orders_N at hj
  refine lv_aload_n hx hb dX6_orders_0 rfl (lv_at hl 0 rfl) ?_
  refine lv_iload_n hx hb dX6_orders_1 rfl (lv_at hl 1 rfl) ?_
  refine x_allR V _ (rg_map _) (x_runV (n := 1) (rest := []) C V _ (rg_map _) (rg_nd _) (kN_historyOf l D tc xo xa ad f g nT nH t rest v1 hfd) tw_227 tw_229 tp_2 tw_1 tw_230 (by decide +kernel) ⟨Nat.le_trans (Nat.le_of_ble_eq_true rfl) hRf, Nat.le_trans (Nat.le_of_ble_eq_true rfl) hRl⟩ ⟨Nat.zero_le _, Nat.zero_le _⟩ 0 5 rfl rfl rfl hl.1 rfl (Nat.le_of_ble_eq_true rfl) dX6_orders_2) (fun H locs V => ?_)
  replace V : Wd D tc A s H locs (Bw tc xo xa ad f g nT nH t ++ rest) := V
  refine lv_astore_nN (lv' := [(3, .null), (0, .ref xo), (1, .int v1), (2, .int v2)]) hx hb dX6_orders_5 rfl hl (by decide) rfl (fun ls hl => ?_)
  refine lv_aload_nN hx hb dX6_orders_6 rfl (lv_at hl 0 rfl) ?_
  refine lv_ifnullN (tgt := 17) hx hb dX6_orders_7 (by decide) ?_
  refine lv_ldc2 (v := (-1)) hx hb hown (hts _ tw_452) dX6_orders_17 ?_
  exact hret ((-1 : Int64), t) hj V dX6_orders_20)

def j_X6_least_N (t : Nat → Int32) (v1 : Int32) (v2 : Int32) : Option (Int32 × (Nat → Int32)) :=
  some ((-1 : Int32), t)
set_option maxHeartbeats 4000000 in
set_option maxRecDepth 100000 in
theorem k_X6_least_N (l : Launch) (D : va_G) (tc : Nat → ClassId) (xo : Nat) (xa ad : Nat → Nat) (f g : Nat → Option Nat) (nT nH : Int32) (rest : va_W) (t : Nat → Int32) (v1 : Int32) (v2 : Int32) (hfd : FN nH v1) {x0 : Int32 × (Nat → Int32)} (hj : j_X6_least_N t v1 v2 = some x0) : MetD l D tc yX6_least cX6_least 4 (some .int) 20 565 [.ref xo, .int v1, .int v2] (Bw tc xo xa ad f g nT nH t ++ rest) (some (.int x0.1)) (Bw tc xo xa ad f g nT nH x0.2 ++ rest) :=
  x_entI (fun x : Int32 × (Nat → Int32) => x.1) (fun x : Int32 × (Nat → Int32) => Bw tc xo xa ad f g nT nH x.2 ++ rest) (by decide) (own := RX6) rfl (Nat.le_of_ble_eq_true rfl) (fun p e s m args below meth c A Q ls C V hl hret => by
  obtain ⟨hx, hb, hr, hml, hown, hts, hlk, hN⟩ := id C
  have hRf : 20 ≤ (rmz 20 0 0 565).frames := Nat.le_refl _
  have hRl : 565 ≤ (rmz 20 0 0 565).locals := Nat.le_refl _
  generalize (rmz 20 0 0 565) = R at hret hRf hRl ⊢
  generalize s.heap = H at V ⊢
  generalize ([] : List Loc) = locs at V ⊢
  have hl : lv_has ls 4 [(0, .ref xo), (1, .int v1), (2, .int v2)] := hl
  unfold j_X6_least_N at hj
  refine lv_aload_n hx hb dX6_least_0 rfl (lv_at hl 0 rfl) ?_
  refine lv_iload_n hx hb dX6_least_1 rfl (lv_at hl 1 rfl) ?_
  refine x_allR V _ (rg_map _) (x_runV (n := 1) (rest := []) C V _ (rg_map _) (rg_nd _) (kN_historyOf l D tc xo xa ad f g nT nH t rest v1 hfd) tw_227 tw_229 tp_2 tw_1 tw_230 (by decide +kernel) ⟨Nat.le_trans (Nat.le_of_ble_eq_true rfl) hRf, Nat.le_trans (Nat.le_of_ble_eq_true rfl) hRl⟩ ⟨Nat.zero_le _, Nat.zero_le _⟩ 0 5 rfl rfl rfl hl.1 rfl (Nat.le_of_ble_eq_true rfl) dX6_least_2) (fun H locs V => ?_)
  replace V : Wd D tc A s H locs (Bw tc xo xa ad f g nT nH t ++ rest) := V
  refine lv_astore_nN (lv' := [(3, .null), (0, .ref xo), (1, .int v1), (2, .int v2)]) hx hb dX6_least_5 rfl hl (by decide) rfl (fun ls hl => ?_)
  refine lv_aload_nN hx hb dX6_least_6 rfl (lv_at hl 0 rfl) ?_
  refine lv_ifnullN (tgt := 17) hx hb dX6_least_7 (by decide) ?_
  refine lv_iconst (v := (-1)) hx hb dX6_least_17 (by decide) ?_
  exact hret ((-1 : Int32), t) hj rfl V dX6_least_18)

def j_X6_fills_N (t : Nat → Int32) (v1 : Int32) (v2 : Int32) (v3 : Int32) : Option (Int32 × (Nat → Int32)) :=
  some ((-1 : Int32), t)
set_option maxHeartbeats 4000000 in
set_option maxRecDepth 100000 in
theorem k_X6_fills_N (l : Launch) (D : va_G) (tc : Nat → ClassId) (xo : Nat) (xa ad : Nat → Nat) (f g : Nat → Option Nat) (nT nH : Int32) (rest : va_W) (t : Nat → Int32) (v1 : Int32) (v2 : Int32) (v3 : Int32) (hfd : FN nH v1) {x0 : Int32 × (Nat → Int32)} (hj : j_X6_fills_N t v1 v2 v3 = some x0) : MetD l D tc yX6_fills cX6_fills 5 (some .int) 32 955 [.ref xo, .int v1, .int v2, .int v3] (Bw tc xo xa ad f g nT nH t ++ rest) (some (.int x0.1)) (Bw tc xo xa ad f g nT nH x0.2 ++ rest) :=
  x_entI (fun x : Int32 × (Nat → Int32) => x.1) (fun x : Int32 × (Nat → Int32) => Bw tc xo xa ad f g nT nH x.2 ++ rest) (by decide) (own := RX6) rfl (Nat.le_of_ble_eq_true rfl) (fun p e s m args below meth c A Q ls C V hl hret => by
  obtain ⟨hx, hb, hr, hml, hown, hts, hlk, hN⟩ := id C
  have hRf : 32 ≤ (rmz 32 0 0 955).frames := Nat.le_refl _
  have hRl : 955 ≤ (rmz 32 0 0 955).locals := Nat.le_refl _
  generalize (rmz 32 0 0 955) = R at hret hRf hRl ⊢
  generalize s.heap = H at V ⊢
  generalize ([] : List Loc) = locs at V ⊢
  have hl : lv_has ls 5 [(0, .ref xo), (1, .int v1), (2, .int v2), (3, .int v3)] := hl
  unfold j_X6_fills_N at hj
  refine lv_aload_n hx hb dX6_fills_0 rfl (lv_at hl 0 rfl) ?_
  refine lv_iload_n hx hb dX6_fills_1 rfl (lv_at hl 1 rfl) ?_
  refine x_allR V _ (rg_map _) (x_runV (n := 1) (rest := []) C V _ (rg_map _) (rg_nd _) (kN_historyOf l D tc xo xa ad f g nT nH t rest v1 hfd) tw_227 tw_229 tp_2 tw_1 tw_230 (by decide +kernel) ⟨Nat.le_trans (Nat.le_of_ble_eq_true rfl) hRf, Nat.le_trans (Nat.le_of_ble_eq_true rfl) hRl⟩ ⟨Nat.zero_le _, Nat.zero_le _⟩ 0 5 rfl rfl rfl hl.1 rfl (Nat.le_of_ble_eq_true rfl) dX6_fills_2) (fun H locs V => ?_)
  replace V : Wd D tc A s H locs (Bw tc xo xa ad f g nT nH t ++ rest) := V
  refine lv_astoreN (lv' := [(4, .null), (0, .ref xo), (1, .int v1), (2, .int v2), (3, .int v3)]) hx hb dX6_fills_5 hl (by decide) rfl (fun ls hl => ?_)
  refine lv_aloadN hx hb dX6_fills_7 (lv_at hl 0 rfl) ?_
  refine lv_ifnullN (tgt := 28) hx hb dX6_fills_9 (by decide) ?_
  refine lv_iconst (v := (-1)) hx hb dX6_fills_28 (by decide) ?_
  exact hret ((-1 : Int32), t) hj rfl V dX6_fills_29)

def j_X6_apart_N (t : Nat → Int32) (v1 : Int32) (v2 : Int32) (v3 : Int32) : Option (Int32 × (Nat → Int32)) :=
  if v3 < (0 : Int32) then some ((-1 : Int32), t) else if (4 : Int32) ≤ v3 then some ((-1 : Int32), t) else some ((-1 : Int32), t)
set_option maxHeartbeats 4000000 in
set_option maxRecDepth 100000 in
theorem k_X6_apart_N (l : Launch) (D : va_G) (tc : Nat → ClassId) (xo : Nat) (xa ad : Nat → Nat) (f g : Nat → Option Nat) (nT nH : Int32) (rest : va_W) (t : Nat → Int32) (v1 : Int32) (v2 : Int32) (v3 : Int32) (hfd : FN nH v1) {x0 : Int32 × (Nat → Int32)} (hj : j_X6_apart_N t v1 v2 v3 = some x0) : MetD l D tc yX6_apart cX6_apart 6 (some .int) 19 538 [.ref xo, .int v1, .int v2, .int v3] (Bw tc xo xa ad f g nT nH t ++ rest) (some (.int x0.1)) (Bw tc xo xa ad f g nT nH x0.2 ++ rest) :=
  x_entI (fun x : Int32 × (Nat → Int32) => x.1) (fun x : Int32 × (Nat → Int32) => Bw tc xo xa ad f g nT nH x.2 ++ rest) (by decide) (own := RX6) rfl (Nat.le_of_ble_eq_true rfl) (fun p e s m args below meth c A Q ls C V hl hret => by
  obtain ⟨hx, hb, hr, hml, hown, hts, hlk, hN⟩ := id C
  have hRf : 19 ≤ (rmz 19 0 0 538).frames := Nat.le_refl _
  have hRl : 538 ≤ (rmz 19 0 0 538).locals := Nat.le_refl _
  generalize (rmz 19 0 0 538) = R at hret hRf hRl ⊢
  generalize s.heap = H at V ⊢
  generalize ([] : List Loc) = locs at V ⊢
  have hl : lv_has ls 6 [(0, .ref xo), (1, .int v1), (2, .int v2), (3, .int v3)] := hl
  unfold j_X6_apart_N at hj
  refine lv_aload_n hx hb dX6_apart_0 rfl (lv_at hl 0 rfl) ?_
  refine lv_iload_n hx hb dX6_apart_1 rfl (lv_at hl 1 rfl) ?_
  refine x_allR V _ (rg_map _) (x_runV (n := 1) (rest := []) C V _ (rg_map _) (rg_nd _) (kN_historyOf l D tc xo xa ad f g nT nH t rest v1 hfd) tw_227 tw_229 tp_2 tw_1 tw_230 (by decide +kernel) ⟨Nat.le_trans (Nat.le_of_ble_eq_true rfl) hRf, Nat.le_trans (Nat.le_of_ble_eq_true rfl) hRl⟩ ⟨Nat.zero_le _, Nat.zero_le _⟩ 0 5 rfl rfl rfl hl.1 rfl (Nat.le_of_ble_eq_true rfl) dX6_apart_2) (fun H locs V => ?_)
  replace V : Wd D tc A s H locs (Bw tc xo xa ad f g nT nH t ++ rest) := V
  refine lv_astoreN (lv' := [(4, .null), (0, .ref xo), (1, .int v1), (2, .int v2), (3, .int v3)]) hx hb dX6_apart_5 hl (by decide) rfl (fun ls hl => ?_)
  refine lv_iload_n hx hb dX6_apart_7 rfl (lv_at hl 4 rfl) ?_
  refine lv_if_lt (tgt := 20) hx hb dX6_apart_8 (by decide) (fun c1 => ?_) (fun c1 => ?_)
  · replace hj := ip _ c1 hj
    refine lv_iconst (v := 0) hx hb dX6_apart_20 (by decide) ?_
    refine lv_istore (lv' := [(5, .int (0 : Int32)), (4, .null), (0, .ref xo), (1, .int v1), (2, .int v2), (3, .int v3)]) hx hb dX6_apart_21 hl (by decide) rfl (fun ls hl => ?_)
    refine lv_aloadN hx hb dX6_apart_23 (lv_at hl 1 rfl) ?_
    refine lv_ifnullN (tgt := 49) hx hb dX6_apart_25 (by decide) ?_
    refine lv_iconst (v := (-1)) hx hb dX6_apart_49 (by decide) ?_
    exact hret ((-1 : Int32), t) hj rfl V dX6_apart_50
  · replace hj := iq _ c1 hj
    refine lv_iload_n hx hb dX6_apart_11 rfl (lv_at hl 4 rfl) ?_
    refine lv_iconst (v := 4) hx hb dX6_apart_12 (by decide) ?_
    refine lv_icmp_ge (tgt := 20) hx hb dX6_apart_13 (by decide) (fun c2 => ?_) (fun c2 => ?_)
    · replace hj := ip _ c2 hj
      refine lv_iconst (v := 0) hx hb dX6_apart_20 (by decide) ?_
      refine lv_istore (lv' := [(5, .int (0 : Int32)), (4, .null), (0, .ref xo), (1, .int v1), (2, .int v2), (3, .int v3)]) hx hb dX6_apart_21 hl (by decide) rfl (fun ls hl => ?_)
      refine lv_aloadN hx hb dX6_apart_23 (lv_at hl 1 rfl) ?_
      refine lv_ifnullN (tgt := 49) hx hb dX6_apart_25 (by decide) ?_
      refine lv_iconst (v := (-1)) hx hb dX6_apart_49 (by decide) ?_
      exact hret ((-1 : Int32), t) hj rfl V dX6_apart_50
    · replace hj := iq _ c2 hj
      refine lv_iconst (v := 1) hx hb dX6_apart_16 (by decide) ?_
      refine lv_goto (tgt := 21) hx hb dX6_apart_17 (by decide) ?_
      refine lv_istore (lv' := [(5, .int (1 : Int32)), (4, .null), (0, .ref xo), (1, .int v1), (2, .int v2), (3, .int v3)]) hx hb dX6_apart_21 hl (by decide) rfl (fun ls hl => ?_)
      refine lv_aloadN hx hb dX6_apart_23 (lv_at hl 1 rfl) ?_
      refine lv_ifnullN (tgt := 49) hx hb dX6_apart_25 (by decide) ?_
      refine lv_iconst (v := (-1)) hx hb dX6_apart_49 (by decide) ?_
      exact hret ((-1 : Int32), t) hj rfl V dX6_apart_50)

def j_X6_rules_N (t : Nat → Int32) (v1 : Int32) : Option (Int32 × (Nat → Int32)) :=
  some ((-1 : Int32), t)
set_option maxHeartbeats 4000000 in
set_option maxRecDepth 100000 in
theorem k_X6_rules_N (l : Launch) (D : va_G) (tc : Nat → ClassId) (xo : Nat) (xa ad : Nat → Nat) (f g : Nat → Option Nat) (nT nH : Int32) (rest : va_W) (t : Nat → Int32) (v1 : Int32) (hfd : FN nH v1) {x0 : Int32 × (Nat → Int32)} (hj : j_X6_rules_N t v1 = some x0) : MetD l D tc yX6_rules cX6_rules 5 (some .int) 19 538 [.ref xo, .int v1] (Bw tc xo xa ad f g nT nH t ++ rest) (some (.int x0.1)) (Bw tc xo xa ad f g nT nH x0.2 ++ rest) :=
  x_entI (fun x : Int32 × (Nat → Int32) => x.1) (fun x : Int32 × (Nat → Int32) => Bw tc xo xa ad f g nT nH x.2 ++ rest) (by decide) (own := RX6) rfl (Nat.le_of_ble_eq_true rfl) (fun p e s m args below meth c A Q ls C V hl hret => by
  obtain ⟨hx, hb, hr, hml, hown, hts, hlk, hN⟩ := id C
  have hRf : 19 ≤ (rmz 19 0 0 538).frames := Nat.le_refl _
  have hRl : 538 ≤ (rmz 19 0 0 538).locals := Nat.le_refl _
  generalize (rmz 19 0 0 538) = R at hret hRf hRl ⊢
  generalize s.heap = H at V ⊢
  generalize ([] : List Loc) = locs at V ⊢
  have hl : lv_has ls 5 [(0, .ref xo), (1, .int v1)] := hl
  unfold j_X6_rules_N at hj
  refine lv_aload_n hx hb dX6_rules_0 rfl (lv_at hl 0 rfl) ?_
  refine lv_iload_n hx hb dX6_rules_1 rfl (lv_at hl 1 rfl) ?_
  refine x_allR V _ (rg_map _) (x_runV (n := 1) (rest := []) C V _ (rg_map _) (rg_nd _) (kN_historyOf l D tc xo xa ad f g nT nH t rest v1 hfd) tw_227 tw_229 tp_2 tw_1 tw_230 (by decide +kernel) ⟨Nat.le_trans (Nat.le_of_ble_eq_true rfl) hRf, Nat.le_trans (Nat.le_of_ble_eq_true rfl) hRl⟩ ⟨Nat.zero_le _, Nat.zero_le _⟩ 0 5 rfl rfl rfl hl.1 rfl (Nat.le_of_ble_eq_true rfl) dX6_rules_2) (fun H locs V => ?_)
  replace V : Wd D tc A s H locs (Bw tc xo xa ad f g nT nH t ++ rest) := V
  refine lv_astore_nN (lv' := [(2, .null), (0, .ref xo), (1, .int v1)]) hx hb dX6_rules_5 rfl hl (by decide) rfl (fun ls hl => ?_)
  refine lv_aload_nN hx hb dX6_rules_6 rfl (lv_at hl 0 rfl) ?_
  refine lv_ifnonnullN hx hb dX6_rules_7 ?_
  refine lv_iconst (v := (-1)) hx hb dX6_rules_10 (by decide) ?_
  exact hret ((-1 : Int32), t) hj rfl V dX6_rules_11)

def j_X6_check_N (t : Nat → Int32) (v1 : Int32) (v2 : Int32) : Option (Int32 × (Nat → Int32)) :=
  some ((-1 : Int32), t)
set_option maxHeartbeats 4000000 in
set_option maxRecDepth 100000 in
theorem k_X6_check_N (l : Launch) (D : va_G) (tc : Nat → ClassId) (xo : Nat) (xa ad : Nat → Nat) (f g : Nat → Option Nat) (nT nH : Int32) (rest : va_W) (t : Nat → Int32) (v1 : Int32) (v2 : Int32) (hfd : FN nH v1) {x0 : Int32 × (Nat → Int32)} (hj : j_X6_check_N t v1 v2 = some x0) : MetD l D tc yX6_check cX6_check 5 (some .int) 6 141 [.ref xo, .int v1, .int v2] (Bw tc xo xa ad f g nT nH t ++ rest) (some (.int x0.1)) (Bw tc xo xa ad f g nT nH x0.2 ++ rest) :=
  x_entI (fun x : Int32 × (Nat → Int32) => x.1) (fun x : Int32 × (Nat → Int32) => Bw tc xo xa ad f g nT nH x.2 ++ rest) (by decide) (own := RX6) rfl (Nat.le_of_ble_eq_true rfl) (fun p e s m args below meth c A Q ls C V hl hret => by
  obtain ⟨hx, hb, hr, hml, hown, hts, hlk, hN⟩ := id C
  have hRf : 6 ≤ (rmz 6 0 0 141).frames := Nat.le_refl _
  have hRl : 141 ≤ (rmz 6 0 0 141).locals := Nat.le_refl _
  generalize (rmz 6 0 0 141) = R at hret hRf hRl ⊢
  generalize s.heap = H at V ⊢
  generalize ([] : List Loc) = locs at V ⊢
  have hl : lv_has ls 5 [(0, .ref xo), (1, .int v1), (2, .int v2)] := hl
  unfold j_X6_check_N at hj
  refine lv_aload_n hx hb dX6_check_0 rfl (lv_at hl 0 rfl) ?_
  refine lv_iload_n hx hb dX6_check_1 rfl (lv_at hl 1 rfl) ?_
  refine x_allR V _ (rg_map _) (x_runV (n := 1) (rest := []) C V _ (rg_map _) (rg_nd _) (kN_historyOf l D tc xo xa ad f g nT nH t rest v1 hfd) tw_227 tw_229 tp_2 tw_1 tw_230 (by decide +kernel) ⟨Nat.le_trans (Nat.le_of_ble_eq_true rfl) hRf, Nat.le_trans (Nat.le_of_ble_eq_true rfl) hRl⟩ ⟨Nat.zero_le _, Nat.zero_le _⟩ 0 5 rfl rfl rfl hl.1 rfl (Nat.le_of_ble_eq_true rfl) dX6_check_2) (fun H locs V => ?_)
  replace V : Wd D tc A s H locs (Bw tc xo xa ad f g nT nH t ++ rest) := V
  refine lv_astore_nN (lv' := [(3, .null), (0, .ref xo), (1, .int v1), (2, .int v2)]) hx hb dX6_check_5 rfl hl (by decide) rfl (fun ls hl => ?_)
  refine lv_aload_nN hx hb dX6_check_6 rfl (lv_at hl 0 rfl) ?_
  refine lv_ifnullN (tgt := 17) hx hb dX6_check_7 (by decide) ?_
  refine lv_iconst (v := (-1)) hx hb dX6_check_17 (by decide) ?_
  exact hret ((-1 : Int32), t) hj rfl V dX6_check_18)
