def j_X5_tell (u : St) (v1 : Int32) (v2 : Int32) (v3 : Int32) (v4 : Int32) : Option (St) :=
  (j_X5_has v1.toInt64 v2).bind (fun r1 => if r1 = (0 : Int32) then some u else (j_X5_placeOf v1.toInt64 v2).bind (fun r3 => gd r3 32 (nm (sA u 1 r3.toNatClampNeg v3) (fun u5 => (j_X5_placeOf v1.toInt64 v2).bind (fun r6 => gd r6 32 (nm (sA u5 2 r6.toNatClampNeg v4) (fun u8 => some u8)))))))
set_option maxHeartbeats 4000000 in
set_option maxRecDepth 100000 in
theorem k_X5_tell (l : Launch) (D : va_G) (tc : Nat → ClassId) (ta : Nat → Nat) (us : Int32) (u : St) (v1 : Int32) (v2 : Int32) (v3 : Int32) (v4 : Int32) {x0 : St} (hj : j_X5_tell u v1 v2 v3 v4 = some x0) : MetD l D tc yX5_tell cX5_tell 5 none 1 22 [.ref (ta 0), .int v1, .int v2, .int v3, .int v4] (Tb tc ta us (some (u.2.1 1, u.2.1 2))) none (Tb tc ta us (some (x0.2.1 1, x0.2.1 2))) :=
  x_entV  (fun x : St => Tb tc ta us (some (x.2.1 1, x.2.1 2))) (by decide) (own := RX5) rfl (Nat.le_of_ble_eq_true rfl) (fun p e s m args below meth c A Q ls C V hl hret => by
  obtain ⟨hx, hb, hr, hml, hown, hts, hlk, hN⟩ := id C
  have hRf : 1 ≤ (rmz 1 0 0 22).frames := Nat.le_refl _
  have hRl : 22 ≤ (rmz 1 0 0 22).locals := Nat.le_refl _
  generalize (rmz 1 0 0 22) = R at hret hRf hRl ⊢
  generalize s.heap = H at V ⊢
  generalize ([] : List Loc) = locs at V ⊢
  have hl : lv_has ls 5 [(0, .ref (ta 0)), (1, .int v1), (2, .int v2), (3, .int v3), (4, .int v4)] := hl
  unfold j_X5_tell at hj
  refine lv_iload_n hx hb dX5_tell_0 rfl (lv_at hl 1 rfl) ?_
  refine lv_i2l hx hb dX5_tell_1 rfl ?_
  refine lv_iload_n hx hb dX5_tell_2 rfl (lv_at hl 2 rfl) ?_
  obtain ⟨r1, hr1, hj⟩ := bd_some hj
  refine x_allI V _ (rg_map _) (x_runS (n := 2) (rest := []) C V _ (rg_map _) (rg_nd _) (k_X5_has l D tc (Tb tc ta us (some (u.2.1 1, u.2.1 2))) v1.toInt64 v2 hr1) tw_207 tw_200 tw_7 tw_201 (by decide +kernel) ⟨Nat.le_trans (Nat.le_of_ble_eq_true rfl) hRf, Nat.le_trans (Nat.le_of_ble_eq_true rfl) hRl⟩ ⟨Nat.zero_le _, Nat.zero_le _⟩ rfl hl.1 rfl (Nat.le_of_ble_eq_true rfl) dX5_tell_3) (fun H locs V zr1 => ?_)
  replace V : Wd D tc A s H locs (Tb tc ta us (some (u.2.1 1, u.2.1 2))) := V
  refine lv_if_eq (tgt := 34) hx hb dX5_tell_6 (by decide) (fun c2 => ?_) (fun c2 => ?_)
  · replace hj := ip _ c2 hj
    exact hret u hj V dX5_tell_34
  · replace hj := iq _ c2 hj
    refine lv_aload_n hx hb dX5_tell_9 rfl (lv_at hl 0 rfl) ?_
    refine x_get hx hb hts hown V inX5 0 rfl rfl 0 (by decide) tw_181 rfl rfl dX5_tell_10 ?_
    refine lv_iload_n hx hb dX5_tell_13 rfl (lv_at hl 1 rfl) ?_
    refine lv_i2l hx hb dX5_tell_14 rfl ?_
    refine lv_iload_n hx hb dX5_tell_15 rfl (lv_at hl 2 rfl) ?_
    obtain ⟨r3, hr3, hj⟩ := bd_some hj
    refine x_allI V _ (rg_map _) (x_runS (n := 2) (rest := [.ref (ta 1)]) C V _ (rg_map _) (rg_nd _) (k_X5_placeOf l D tc (Tb tc ta us (some (u.2.1 1, u.2.1 2))) v1.toInt64 v2 hr3) tw_208 tw_209 tw_7 tw_210 (by decide +kernel) ⟨Nat.le_trans (Nat.le_of_ble_eq_true rfl) hRf, Nat.le_trans (Nat.le_of_ble_eq_true rfl) hRl⟩ ⟨Nat.zero_le _, Nat.zero_le _⟩ rfl hl.1 rfl (Nat.le_of_ble_eq_true rfl) dX5_tell_16) (fun H locs V zr3 => ?_)
    replace V : Wd D tc A s H locs (Tb tc ta us (some (u.2.1 1, u.2.1 2))) := V
    refine lv_iload_n hx hb dX5_tell_19 rfl (lv_at hl 3 rfl) ?_
    obtain ⟨i4, hj⟩ := gd_some hj
    obtain ⟨u5, eu5, hj⟩ := nm_some hj
    refine x_iast hx hb V 1 rfl i4 dX5_tell_20 (fun H locs V => ?_)
    replace V : Wd D tc A s H locs (Tb tc ta us (some (u5.2.1 1, u5.2.1 2))) := by rw [eu5]; exact V
    refine lv_aload_n hx hb dX5_tell_21 rfl (lv_at hl 0 rfl) ?_
    refine x_get hx hb hts hown V inX5 0 rfl rfl 1 (by decide) tw_182 rfl rfl dX5_tell_22 ?_
    refine lv_iload_n hx hb dX5_tell_25 rfl (lv_at hl 1 rfl) ?_
    refine lv_i2l hx hb dX5_tell_26 rfl ?_
    refine lv_iload_n hx hb dX5_tell_27 rfl (lv_at hl 2 rfl) ?_
    obtain ⟨r6, hr6, hj⟩ := bd_some hj
    refine x_allI V _ (rg_map _) (x_runS (n := 2) (rest := [.ref (ta 2)]) C V _ (rg_map _) (rg_nd _) (k_X5_placeOf l D tc (Tb tc ta us (some (u5.2.1 1, u5.2.1 2))) v1.toInt64 v2 hr6) tw_208 tw_209 tw_7 tw_210 (by decide +kernel) ⟨Nat.le_trans (Nat.le_of_ble_eq_true rfl) hRf, Nat.le_trans (Nat.le_of_ble_eq_true rfl) hRl⟩ ⟨Nat.zero_le _, Nat.zero_le _⟩ rfl hl.1 rfl (Nat.le_of_ble_eq_true rfl) dX5_tell_28) (fun H locs V zr6 => ?_)
    replace V : Wd D tc A s H locs (Tb tc ta us (some (u5.2.1 1, u5.2.1 2))) := V
    refine lv_iload hx hb dX5_tell_31 (lv_at hl 4 rfl) ?_
    obtain ⟨i7, hj⟩ := gd_some hj
    obtain ⟨u8, eu8, hj⟩ := nm_some hj
    refine x_iast hx hb V 2 rfl i7 dX5_tell_33 (fun H locs V => ?_)
    replace V : Wd D tc A s H locs (Tb tc ta us (some (u8.2.1 1, u8.2.1 2))) := by rw [eu8]; exact V
    exact hret u8 hj V dX5_tell_34)
def j_X6_row_N (t : Nat → Int32) (v1 : Int32) (v2 : Int32) (v3 : Int32) (v4 : Int32) (v5 : Int32) : Option (Int32 × (Nat → Int32)) :=
  some ((-1 : Int32), t)
set_option maxHeartbeats 4000000 in
set_option maxRecDepth 100000 in
theorem k_X6_row_N (l : Launch) (D : va_G) (tc : Nat → ClassId) (xo : Nat) (xa ad : Nat → Nat) (f g : Nat → Option Nat) (nT nH : Int32) (rest : va_W) (t : Nat → Int32) (v1 : Int32) (v2 : Int32) (v3 : Int32) (v4 : Int32) (v5 : Int32) (hfd : FN nT v1) {x0 : Int32 × (Nat → Int32)} (hj : j_X6_row_N t v1 v2 v3 v4 v5 = some x0) : MetD l D tc yX6_row cX6_row 7 (some .int) 2 46 [.ref xo, .int v1, .int v2, .int v3, .int v4, .int v5] (Bw tc xo xa ad f g nT nH t ++ rest) (some (.int x0.1)) (Bw tc xo xa ad f g nT nH x0.2 ++ rest) :=
  x_entI (fun x : Int32 × (Nat → Int32) => x.1) (fun x : Int32 × (Nat → Int32) => Bw tc xo xa ad f g nT nH x.2 ++ rest) (by decide) (own := RX6) rfl (Nat.le_of_ble_eq_true rfl) (fun p e s m args below meth c A Q ls C V hl hret => by
  obtain ⟨hx, hb, hr, hml, hown, hts, hlk, hN⟩ := id C
  have hRf : 2 ≤ (rmz 2 0 0 46).frames := Nat.le_refl _
  have hRl : 46 ≤ (rmz 2 0 0 46).locals := Nat.le_refl _
  generalize (rmz 2 0 0 46) = R at hret hRf hRl ⊢
  generalize s.heap = H at V ⊢
  generalize ([] : List Loc) = locs at V ⊢
  have hl : lv_has ls 7 [(0, .ref xo), (1, .int v1), (2, .int v2), (3, .int v3), (4, .int v4), (5, .int v5)] := hl
  unfold j_X6_row_N at hj
  refine lv_aload_n hx hb dX6_row_0 rfl (lv_at hl 0 rfl) ?_
  refine lv_iload_n hx hb dX6_row_1 rfl (lv_at hl 1 rfl) ?_
  refine x_allR V _ (rg_map _) (x_runV (n := 1) (rest := []) C V _ (rg_map _) (rg_nd _) (kN_tableOf l D tc xo xa ad f g nT nH t rest v1 hfd) tw_195 tw_197 tp_0 tw_1 tw_198 (by decide +kernel) ⟨Nat.le_trans (Nat.le_of_ble_eq_true rfl) hRf, Nat.le_trans (Nat.le_of_ble_eq_true rfl) hRl⟩ ⟨Nat.zero_le _, Nat.zero_le _⟩ 0 5 rfl rfl rfl hl.1 rfl (Nat.le_of_ble_eq_true rfl) dX6_row_2) (fun H locs V => ?_)
  replace V : Wd D tc A s H locs (Bw tc xo xa ad f g nT nH t ++ rest) := V
  refine lv_astoreN (lv' := [(6, .null), (0, .ref xo), (1, .int v1), (2, .int v2), (3, .int v3), (4, .int v4), (5, .int v5)]) hx hb dX6_row_5 hl (by decide) rfl (fun ls hl => ?_)
  refine lv_aloadN hx hb dX6_row_7 (lv_at hl 0 rfl) ?_
  refine lv_ifnonnullN hx hb dX6_row_9 ?_
  refine lv_iconst (v := (-1)) hx hb dX6_row_12 (by decide) ?_
  exact hret ((-1 : Int32), t) hj rfl V dX6_row_13)
def j_X6_row_Y (us : Int32) (t : Nat → Int32) (u : St) (v1 : Int32) (v2 : Int32) (v3 : Int32) (v4 : Int32) (v5 : Int32) : Option (Int32 × (Nat → Int32) × St) :=
  (j_X5_has v2.toInt64 v3).bind (fun r1 => if r1 = (0 : Int32) then some ((-2 : Int32), t, u) else (j_X5_has v5.toInt64 v3).bind (fun r3 => if r3 = (0 : Int32) then some ((-2 : Int32), t, u) else if us = (0 : Int32) then (j_X5_tell u v2 v3 v4 v5).bind (fun u7 => some ((0 : Int32), t, u7)) else some ((-3 : Int32), t, u)))
set_option maxHeartbeats 4000000 in
set_option maxRecDepth 100000 in
theorem k_X6_row_Y (l : Launch) (D : va_G) (tc : Nat → ClassId) (xo : Nat) (xa ad ta : Nat → Nat) (us : Int32) (f g : Nat → Option Nat) (nT nH : Int32) (rest : va_W) (t : Nat → Int32) (u : St) (v1 : Int32) (v2 : Int32) (v3 : Int32) (v4 : Int32) (v5 : Int32) (hfd : FYt nT f (ta 0) v1) {x0 : Int32 × (Nat → Int32) × St} (hj : j_X6_row_Y us t u v1 v2 v3 v4 v5 = some x0) : MetD l D tc yX6_row cX6_row 7 (some .int) 2 46 [.ref xo, .int v1, .int v2, .int v3, .int v4, .int v5] (Bw tc xo xa ad f g nT nH t ++ (Tb tc ta us (some (u.2.1 1, u.2.1 2)) ++ rest)) (some (.int x0.1)) (Bw tc xo xa ad f g nT nH x0.2.1 ++ (Tb tc ta us (some (x0.2.2.2.1 1, x0.2.2.2.1 2)) ++ rest)) :=
  x_entI (fun x : Int32 × (Nat → Int32) × St => x.1) (fun x : Int32 × (Nat → Int32) × St => Bw tc xo xa ad f g nT nH x.2.1 ++ (Tb tc ta us (some (x.2.2.2.1 1, x.2.2.2.1 2)) ++ rest)) (by decide) (own := RX6) rfl (Nat.le_of_ble_eq_true rfl) (fun p e s m args below meth c A Q ls C V hl hret => by
  obtain ⟨hx, hb, hr, hml, hown, hts, hlk, hN⟩ := id C
  have hRf : 2 ≤ (rmz 2 0 0 46).frames := Nat.le_refl _
  have hRl : 46 ≤ (rmz 2 0 0 46).locals := Nat.le_refl _
  generalize (rmz 2 0 0 46) = R at hret hRf hRl ⊢
  generalize s.heap = H at V ⊢
  generalize ([] : List Loc) = locs at V ⊢
  have hl : lv_has ls 7 [(0, .ref xo), (1, .int v1), (2, .int v2), (3, .int v3), (4, .int v4), (5, .int v5)] := hl
  unfold j_X6_row_Y at hj
  refine lv_aload_n hx hb dX6_row_0 rfl (lv_at hl 0 rfl) ?_
  refine lv_iload_n hx hb dX6_row_1 rfl (lv_at hl 1 rfl) ?_
  refine x_allR V _ (rg_map _) (x_runV (n := 1) (rest := []) C V _ (rg_map _) (rg_nd _) (kY_tableOf l D tc xo xa ad f g nT nH t (Tb tc ta us (some (u.2.1 1, u.2.1 2)) ++ rest) v1 hfd) tw_195 tw_197 tp_0 tw_1 tw_198 (by decide +kernel) ⟨Nat.le_trans (Nat.le_of_ble_eq_true rfl) hRf, Nat.le_trans (Nat.le_of_ble_eq_true rfl) hRl⟩ ⟨Nat.zero_le _, Nat.zero_le _⟩ 0 5 rfl rfl rfl hl.1 rfl (Nat.le_of_ble_eq_true rfl) dX6_row_2) (fun H locs V => ?_)
  replace V : Wd D tc A s H locs (Bw tc xo xa ad f g nT nH t ++ (Tb tc ta us (some (u.2.1 1, u.2.1 2)) ++ rest)) := V
  refine lv_astore (lv' := [(6, .ref (ta 0)), (0, .ref xo), (1, .int v1), (2, .int v2), (3, .int v3), (4, .int v4), (5, .int v5)]) hx hb dX6_row_5 hl (by decide) rfl (fun ls hl => ?_)
  refine lv_aload hx hb dX6_row_7 (lv_at hl 0 rfl) ?_
  refine lv_ifnonnull (tgt := 14) hx hb dX6_row_9 (by decide) ?_
  refine lv_iload_n hx hb dX6_row_14 rfl (lv_at hl 3 rfl) ?_
  refine lv_i2l hx hb dX6_row_15 rfl ?_
  refine lv_iload_n hx hb dX6_row_16 rfl (lv_at hl 4 rfl) ?_
  obtain ⟨r1, hr1, hj⟩ := bd_some hj
  refine x_allI V _ (rg_map _) (x_runS (n := 2) (rest := []) C V _ (rg_map _) (rg_nd _) (k_X5_has l D tc (Bw tc xo xa ad f g nT nH t ++ (Tb tc ta us (some (u.2.1 1, u.2.1 2)) ++ rest)) v2.toInt64 v3 hr1) tw_199 tw_200 tw_7 tw_201 (by decide +kernel) ⟨Nat.le_trans (Nat.le_of_ble_eq_true rfl) hRf, Nat.le_trans (Nat.le_of_ble_eq_true rfl) hRl⟩ ⟨Nat.zero_le _, Nat.zero_le _⟩ rfl hl.1 rfl (Nat.le_of_ble_eq_true rfl) dX6_row_17) (fun H locs V zr1 => ?_)
  replace V : Wd D tc A s H locs (Bw tc xo xa ad f g nT nH t ++ (Tb tc ta us (some (u.2.1 1, u.2.1 2)) ++ rest)) := V
  refine lv_if_eq (tgt := 33) hx hb dX6_row_20 (by decide) (fun c2 => ?_) (fun c2 => ?_)
  · replace hj := ip _ c2 hj
    refine lv_bipush (v := (-2)) hx hb dX6_row_33 (by decide) ?_
    exact hret ((-2 : Int32), t, u) hj rfl V dX6_row_35
  · replace hj := iq _ c2 hj
    refine lv_iload hx hb dX6_row_23 (lv_at hl 6 rfl) ?_
    refine lv_i2l hx hb dX6_row_25 rfl ?_
    refine lv_iload_n hx hb dX6_row_26 rfl (lv_at hl 4 rfl) ?_
    obtain ⟨r3, hr3, hj⟩ := bd_some hj
    refine x_allI V _ (rg_map _) (x_runS (n := 2) (rest := []) C V _ (rg_map _) (rg_nd _) (k_X5_has l D tc (Bw tc xo xa ad f g nT nH t ++ (Tb tc ta us (some (u.2.1 1, u.2.1 2)) ++ rest)) v5.toInt64 v3 hr3) tw_199 tw_200 tw_7 tw_201 (by decide +kernel) ⟨Nat.le_trans (Nat.le_of_ble_eq_true rfl) hRf, Nat.le_trans (Nat.le_of_ble_eq_true rfl) hRl⟩ ⟨Nat.zero_le _, Nat.zero_le _⟩ rfl hl.1 rfl (Nat.le_of_ble_eq_true rfl) dX6_row_27) (fun H locs V zr3 => ?_)
    replace V : Wd D tc A s H locs (Bw tc xo xa ad f g nT nH t ++ (Tb tc ta us (some (u.2.1 1, u.2.1 2)) ++ rest)) := V
    refine lv_if_ne (tgt := 36) hx hb dX6_row_30 (by decide) (fun c4 => ?_) (fun c4 => ?_)
    · replace hj := iq _ c4 hj
      refine lv_aload hx hb dX6_row_36 (lv_at hl 0 rfl) ?_
      refine x_get hx hb hts hown V inX5 3 rfl rfl 2 (by decide) tw_183 rfl rfl dX6_row_38 ?_
      refine lv_if_eq (tgt := 47) hx hb dX6_row_41 (by decide) (fun c5 => ?_) (fun c5 => ?_)
      · replace hj := ip _ c5 hj
        refine lv_aload hx hb dX6_row_47 (lv_at hl 0 rfl) ?_
        refine lv_iload_n hx hb dX6_row_49 rfl (lv_at hl 3 rfl) ?_
        refine lv_iload_n hx hb dX6_row_50 rfl (lv_at hl 4 rfl) ?_
        refine lv_iload hx hb dX6_row_51 (lv_at hl 5 rfl) ?_
        refine lv_iload hx hb dX6_row_53 (lv_at hl 6 rfl) ?_
        obtain ⟨u7, hr6, hj⟩ := bd_some hj
        refine x_midV (w0 := Bw tc xo xa ad f g nT nH t) (wr := rest) V (x_runV (n := 4) (rest := []) C V _ (mid_map _ _ _) (mid_nd _ _) (k_X5_tell l D tc ta us u v2 v3 v4 v5 hr6) tw_203 tw_204 tw_205 tw_7 tw_206 (by decide +kernel) ⟨Nat.le_trans (Nat.le_of_ble_eq_true rfl) hRf, Nat.le_trans (Nat.le_of_ble_eq_true rfl) hRl⟩ ⟨Nat.zero_le _, Nat.zero_le _⟩ 3 4 rfl rfl rfl hl.1 rfl (Nat.le_of_ble_eq_true rfl) dX6_row_55) (fun H locs V => ?_)
        replace V : Wd D tc A s H locs (Bw tc xo xa ad f g nT nH t ++ (Tb tc ta us (some (u7.2.1 1, u7.2.1 2)) ++ rest)) := V
        refine lv_iconst (v := 0) hx hb dX6_row_58 (by decide) ?_
        exact hret ((0 : Int32), t, u7) hj rfl V dX6_row_59
      · replace hj := iq _ c5 hj
        refine lv_bipush (v := (-3)) hx hb dX6_row_44 (by decide) ?_
        exact hret ((-3 : Int32), t, u) hj rfl V dX6_row_46
    · replace hj := ip _ c4 hj
      refine lv_bipush (v := (-2)) hx hb dX6_row_33 (by decide) ?_
      exact hret ((-2 : Int32), t, u) hj rfl V dX6_row_35)
