def j_X6_answered_Y (T : TbT) (a6 : Nat) (t : Nat → Int32) (u : St) (sh : Nat) (v1 : Int32) (v2 : Int32) : Option (Int32 × (Nat → Int32) × St × Nat) :=
  (j_X1_hasCall u v2).bind (fun r1 => if r1 = (0 : Int32) then nm (upd t 44 (-1 : Int32)) (fun t8 => some ((0 : Int32), t8, u, sh)) else (j_X1_isOpen u v2).bind (fun r3 => if r3 = (0 : Int32) then nm (upd t 44 (0 : Int32)) (fun t5 => gd v2 10 (some (u.2.1 10 v2.toNatClampNeg, t5, u, sh))) else nm (upd t 44 (-3 : Int32)) (fun t7 => some ((0 : Int32), t7, u, sh))))
set_option maxHeartbeats 4000000 in
set_option maxRecDepth 100000 in
theorem k_X6_answered_Y (l : Launch) (D : va_G) (tc : Nat → ClassId) (xo : Nat) (xa ad ta : Nat → Nat) (us : Int32) (T : TbT) (f g : Nat → Option Nat) (nT nH : Int32) (rest : va_W) (t : Nat → Int32) (u : St) (sh : Nat) (v1 : Int32) (v2 : Int32) (hfd : FY nH g (ad 6) v1) {x0 : Int32 × (Nat → Int32) × St × Nat} (hj : j_X6_answered_Y T (ad 6) t u sh v1 v2 = some x0) : MetD l D tc yX6_answered cX6_answered 4 (some .int) 2 42 [.ref xo, .int v1, .int v2] (Bw tc xo xa ad f g nT nH t ++ (Fw tc ad ta us T sh u ++ rest)) (some (.int x0.1)) (Bw tc xo xa ad f g nT nH x0.2.1 ++ (Fw tc ad ta us T x0.2.2.2 x0.2.2.1 ++ rest)) :=
  x_entI (fun x : Int32 × (Nat → Int32) × St × Nat => x.1) (fun x : Int32 × (Nat → Int32) × St × Nat => Bw tc xo xa ad f g nT nH x.2.1 ++ (Fw tc ad ta us T x.2.2.2 x.2.2.1 ++ rest)) (by decide) (own := RX6) rfl (Nat.le_of_ble_eq_true rfl) (fun p e s m args below meth c A Q ls C V hl hret => by
  obtain ⟨hx, hb, hr, hml, hown, hts, hlk, hN⟩ := id C
  have hRf : 2 ≤ (rmz 2 0 0 42).frames := Nat.le_refl _
  have hRl : 42 ≤ (rmz 2 0 0 42).locals := Nat.le_refl _
  generalize (rmz 2 0 0 42) = R at hret hRf hRl ⊢
  generalize s.heap = H at V ⊢
  generalize ([] : List Loc) = locs at V ⊢
  have hl : lv_has ls 4 [(0, .ref xo), (1, .int v1), (2, .int v2)] := hl
  unfold j_X6_answered_Y at hj
  refine lv_aload_n hx hb dX6_answered_0 rfl (lv_at hl 0 rfl) ?_
  refine lv_iload_n hx hb dX6_answered_1 rfl (lv_at hl 1 rfl) ?_
  refine x_allR V _ (rg_map _) (x_runV (n := 1) (rest := []) C V _ (rg_map _) (rg_nd _) (kY_historyOf l D tc xo xa ad f g nT nH t (Fw tc ad ta us T sh u ++ rest) v1 hfd) tw_227 tw_229 tp_2 tw_1 tw_230 (by decide +kernel) ⟨Nat.le_trans (Nat.le_of_ble_eq_true rfl) hRf, Nat.le_trans (Nat.le_of_ble_eq_true rfl) hRl⟩ ⟨Nat.zero_le _, Nat.zero_le _⟩ 0 5 rfl rfl rfl hl.1 rfl (Nat.le_of_ble_eq_true rfl) dX6_answered_2) (fun H locs V => ?_)
  replace V : Wd D tc A s H locs (Bw tc xo xa ad f g nT nH t ++ (Fw tc ad ta us T sh u ++ rest)) := V
  refine lv_astore_n (lv' := [(3, .ref (ad 6)), (0, .ref xo), (1, .int v1), (2, .int v2)]) hx hb dX6_answered_5 rfl hl (by decide) rfl (fun ls hl => ?_)
  refine lv_aload_n hx hb dX6_answered_6 rfl (lv_at hl 0 rfl) ?_
  refine lv_ifnull hx hb dX6_answered_7 ?_
  refine lv_aload_n hx hb dX6_answered_10 rfl (lv_at hl 0 rfl) ?_
  refine lv_iload_n hx hb dX6_answered_11 rfl (lv_at hl 3 rfl) ?_
  obtain ⟨r1, hr1, hj⟩ := bd_some hj
  refine x_midI (w0 := Bw tc xo xa ad f g nT nH t) (wr := rest) V (x_runV (n := 1) (rest := []) C V _ (mid_map _ _ _) (mid_nd _ _) (k_X1_hasCall l D tc ad ta us T sh u v2 hr1) tw_262 tw_263 tw_264 tw_3 tw_265 (by decide +kernel) ⟨Nat.le_trans (Nat.le_of_ble_eq_true rfl) hRf, Nat.le_trans (Nat.le_of_ble_eq_true rfl) hRl⟩ ⟨Nat.zero_le _, Nat.zero_le _⟩ 9 1 rfl rfl rfl hl.1 rfl (Nat.le_of_ble_eq_true rfl) dX6_answered_12) (fun H locs V zr1 => ?_)
  replace V : Wd D tc A s H locs (Bw tc xo xa ad f g nT nH t ++ (Fw tc ad ta us T sh u ++ rest)) := V
  refine lv_if_ne (tgt := 25) hx hb dX6_answered_15 (by decide) (fun c2 => ?_) (fun c2 => ?_)
  · replace hj := iq _ c2 hj
    refine lv_aload_n hx hb dX6_answered_25 rfl (lv_at hl 0 rfl) ?_
    refine lv_iload_n hx hb dX6_answered_26 rfl (lv_at hl 3 rfl) ?_
    obtain ⟨r3, hr3, hj⟩ := bd_some hj
    refine x_midI (w0 := Bw tc xo xa ad f g nT nH t) (wr := rest) V (x_runV (n := 1) (rest := []) C V _ (mid_map _ _ _) (mid_nd _ _) (k_X1_isOpen l D tc ad ta us T sh u v2 hr3) tw_266 tw_267 tw_268 tw_3 tw_269 (by decide +kernel) ⟨Nat.le_trans (Nat.le_of_ble_eq_true rfl) hRf, Nat.le_trans (Nat.le_of_ble_eq_true rfl) hRl⟩ ⟨Nat.zero_le _, Nat.zero_le _⟩ 9 1 rfl rfl rfl hl.1 rfl (Nat.le_of_ble_eq_true rfl) dX6_answered_27) (fun H locs V zr3 => ?_)
    replace V : Wd D tc A s H locs (Bw tc xo xa ad f g nT nH t ++ (Fw tc ad ta us T sh u ++ rest)) := V
    refine lv_if_eq (tgt := 41) hx hb dX6_answered_30 (by decide) (fun c4 => ?_) (fun c4 => ?_)
    · replace hj := ip _ c4 hj
      refine lv_aload_n hx hb dX6_answered_41 rfl (lv_at hl 1 rfl) ?_
      refine lv_iconst (v := 0) hx hb dX6_answered_42 (by decide) ?_
      refine x_put hx hb hts hown V inX6 tyX6_ok nmX6 0 rfl rfl 9 (by decide) tw_150 rfl rfl rfl rfl (Nat.le_of_ble_eq_true rfl) dX6_answered_43 (fun H locs V => ?_)
      obtain ⟨t5, et5, hj⟩ := nm_some hj
      replace V : Wd D tc A s H locs (Bw tc xo xa ad f g nT nH t5 ++ (Fw tc ad ta us T sh u ++ rest)) := by rw [et5]; exact V
      refine lv_aload_n hx hb dX6_answered_46 rfl (lv_at hl 0 rfl) ?_
      refine x_get hx hb hts hown V inX1 9 rfl rfl 10 (by decide) tw_60 rfl rfl dX6_answered_47 ?_
      refine lv_iload_n hx hb dX6_answered_50 rfl (lv_at hl 3 rfl) ?_
      obtain ⟨i6, hj⟩ := gd_some hj
      refine x_iald hx hb V 16 rfl i6 dX6_answered_51 ?_
      exact hret (u.2.1 10 v2.toNatClampNeg, t5, u, sh) hj rfl V dX6_answered_52
    · replace hj := iq _ c4 hj
      refine lv_aload_n hx hb dX6_answered_33 rfl (lv_at hl 1 rfl) ?_
      refine lv_bipush (v := (-3)) hx hb dX6_answered_34 (by decide) ?_
      refine x_put hx hb hts hown V inX6 tyX6_ok nmX6 0 rfl rfl 9 (by decide) tw_150 rfl rfl rfl rfl (Nat.le_of_ble_eq_true rfl) dX6_answered_36 (fun H locs V => ?_)
      obtain ⟨t7, et7, hj⟩ := nm_some hj
      replace V : Wd D tc A s H locs (Bw tc xo xa ad f g nT nH t7 ++ (Fw tc ad ta us T sh u ++ rest)) := by rw [et7]; exact V
      refine lv_iconst (v := 0) hx hb dX6_answered_39 (by decide) ?_
      exact hret ((0 : Int32), t7, u, sh) hj rfl V dX6_answered_40
  · replace hj := ip _ c2 hj
    refine lv_aload_n hx hb dX6_answered_18 rfl (lv_at hl 1 rfl) ?_
    refine lv_iconst (v := (-1)) hx hb dX6_answered_19 (by decide) ?_
    refine x_put hx hb hts hown V inX6 tyX6_ok nmX6 0 rfl rfl 9 (by decide) tw_150 rfl rfl rfl rfl (Nat.le_of_ble_eq_true rfl) dX6_answered_20 (fun H locs V => ?_)
    obtain ⟨t8, et8, hj⟩ := nm_some hj
    replace V : Wd D tc A s H locs (Bw tc xo xa ad f g nT nH t8 ++ (Fw tc ad ta us T sh u ++ rest)) := by rw [et8]; exact V
    refine lv_iconst (v := 0) hx hb dX6_answered_23 (by decide) ?_
    exact hret ((0 : Int32), t8, u, sh) hj rfl V dX6_answered_24)

def j_X6_answer_Y (T : TbT) (a6 : Nat) (t : Nat → Int32) (u : St) (sh : Nat) (v1 : Int32) (v2 : Int32) (v3 : Int32) : Option (Int32 × (Nat → Int32) × St × Nat) :=
  (j_X1_hasCall u v2).bind (fun r1 => if r1 = (0 : Int32) then some ((-1 : Int32), t, u, sh) else (j_X1_isOpen u v2).bind (fun r3 => if r3 = (0 : Int32) then some ((-3 : Int32), t, u, sh) else (j_X1_end u v2 v3).bind (fun ⟨r5, u6⟩ => some (r5, t, u6, sh))))
set_option maxHeartbeats 4000000 in
set_option maxRecDepth 100000 in
theorem k_X6_answer_Y (l : Launch) (D : va_G) (tc : Nat → ClassId) (xo : Nat) (xa ad ta : Nat → Nat) (us : Int32) (T : TbT) (f g : Nat → Option Nat) (nT nH : Int32) (rest : va_W) (t : Nat → Int32) (u : St) (sh : Nat) (v1 : Int32) (v2 : Int32) (v3 : Int32) (hfd : FY nH g (ad 6) v1) {x0 : Int32 × (Nat → Int32) × St × Nat} (hj : j_X6_answer_Y T (ad 6) t u sh v1 v2 v3 = some x0) : MetD l D tc yX6_answer cX6_answer 5 (some .int) 2 43 [.ref xo, .int v1, .int v2, .int v3] (Bw tc xo xa ad f g nT nH t ++ (Fw tc ad ta us T sh u ++ rest)) (some (.int x0.1)) (Bw tc xo xa ad f g nT nH x0.2.1 ++ (Fw tc ad ta us T x0.2.2.2 x0.2.2.1 ++ rest)) :=
  x_entI (fun x : Int32 × (Nat → Int32) × St × Nat => x.1) (fun x : Int32 × (Nat → Int32) × St × Nat => Bw tc xo xa ad f g nT nH x.2.1 ++ (Fw tc ad ta us T x.2.2.2 x.2.2.1 ++ rest)) (by decide) (own := RX6) rfl (Nat.le_of_ble_eq_true rfl) (fun p e s m args below meth c A Q ls C V hl hret => by
  obtain ⟨hx, hb, hr, hml, hown, hts, hlk, hN⟩ := id C
  have hRf : 2 ≤ (rmz 2 0 0 43).frames := Nat.le_refl _
  have hRl : 43 ≤ (rmz 2 0 0 43).locals := Nat.le_refl _
  generalize (rmz 2 0 0 43) = R at hret hRf hRl ⊢
  generalize s.heap = H at V ⊢
  generalize ([] : List Loc) = locs at V ⊢
  have hl : lv_has ls 5 [(0, .ref xo), (1, .int v1), (2, .int v2), (3, .int v3)] := hl
  unfold j_X6_answer_Y at hj
  refine lv_aload_n hx hb dX6_answer_0 rfl (lv_at hl 0 rfl) ?_
  refine lv_iload_n hx hb dX6_answer_1 rfl (lv_at hl 1 rfl) ?_
  refine x_allR V _ (rg_map _) (x_runV (n := 1) (rest := []) C V _ (rg_map _) (rg_nd _) (kY_historyOf l D tc xo xa ad f g nT nH t (Fw tc ad ta us T sh u ++ rest) v1 hfd) tw_227 tw_229 tp_2 tw_1 tw_230 (by decide +kernel) ⟨Nat.le_trans (Nat.le_of_ble_eq_true rfl) hRf, Nat.le_trans (Nat.le_of_ble_eq_true rfl) hRl⟩ ⟨Nat.zero_le _, Nat.zero_le _⟩ 0 5 rfl rfl rfl hl.1 rfl (Nat.le_of_ble_eq_true rfl) dX6_answer_2) (fun H locs V => ?_)
  replace V : Wd D tc A s H locs (Bw tc xo xa ad f g nT nH t ++ (Fw tc ad ta us T sh u ++ rest)) := V
  refine lv_astore (lv' := [(4, .ref (ad 6)), (0, .ref xo), (1, .int v1), (2, .int v2), (3, .int v3)]) hx hb dX6_answer_5 hl (by decide) rfl (fun ls hl => ?_)
  refine lv_aload hx hb dX6_answer_7 (lv_at hl 0 rfl) ?_
  refine lv_ifnull hx hb dX6_answer_9 ?_
  refine lv_aload hx hb dX6_answer_12 (lv_at hl 0 rfl) ?_
  refine lv_iload_n hx hb dX6_answer_14 rfl (lv_at hl 3 rfl) ?_
  obtain ⟨r1, hr1, hj⟩ := bd_some hj
  refine x_midI (w0 := Bw tc xo xa ad f g nT nH t) (wr := rest) V (x_runV (n := 1) (rest := []) C V _ (mid_map _ _ _) (mid_nd _ _) (k_X1_hasCall l D tc ad ta us T sh u v2 hr1) tw_262 tw_263 tw_264 tw_3 tw_265 (by decide +kernel) ⟨Nat.le_trans (Nat.le_of_ble_eq_true rfl) hRf, Nat.le_trans (Nat.le_of_ble_eq_true rfl) hRl⟩ ⟨Nat.zero_le _, Nat.zero_le _⟩ 9 1 rfl rfl rfl hl.1 rfl (Nat.le_of_ble_eq_true rfl) dX6_answer_15) (fun H locs V zr1 => ?_)
  replace V : Wd D tc A s H locs (Bw tc xo xa ad f g nT nH t ++ (Fw tc ad ta us T sh u ++ rest)) := V
  refine lv_if_ne (tgt := 23) hx hb dX6_answer_18 (by decide) (fun c2 => ?_) (fun c2 => ?_)
  · replace hj := iq _ c2 hj
    refine lv_aload hx hb dX6_answer_23 (lv_at hl 0 rfl) ?_
    refine lv_iload_n hx hb dX6_answer_25 rfl (lv_at hl 3 rfl) ?_
    obtain ⟨r3, hr3, hj⟩ := bd_some hj
    refine x_midI (w0 := Bw tc xo xa ad f g nT nH t) (wr := rest) V (x_runV (n := 1) (rest := []) C V _ (mid_map _ _ _) (mid_nd _ _) (k_X1_isOpen l D tc ad ta us T sh u v2 hr3) tw_266 tw_267 tw_268 tw_3 tw_269 (by decide +kernel) ⟨Nat.le_trans (Nat.le_of_ble_eq_true rfl) hRf, Nat.le_trans (Nat.le_of_ble_eq_true rfl) hRl⟩ ⟨Nat.zero_le _, Nat.zero_le _⟩ 9 1 rfl rfl rfl hl.1 rfl (Nat.le_of_ble_eq_true rfl) dX6_answer_26) (fun H locs V zr3 => ?_)
    replace V : Wd D tc A s H locs (Bw tc xo xa ad f g nT nH t ++ (Fw tc ad ta us T sh u ++ rest)) := V
    refine lv_if_ne (tgt := 35) hx hb dX6_answer_29 (by decide) (fun c4 => ?_) (fun c4 => ?_)
    · replace hj := iq _ c4 hj
      refine lv_aload hx hb dX6_answer_35 (lv_at hl 0 rfl) ?_
      refine lv_iload_n hx hb dX6_answer_37 rfl (lv_at hl 3 rfl) ?_
      refine lv_iload_n hx hb dX6_answer_38 rfl (lv_at hl 4 rfl) ?_
      obtain ⟨⟨r5, u6⟩, hr5, hj⟩ := bd_some hj
      refine x_midI (w0 := Bw tc xo xa ad f g nT nH t) (wr := rest) V (x_runV (n := 2) (rest := []) C V _ (mid_map _ _ _) (mid_nd _ _) (k_X1_end l D tc ad ta us T sh u v2 v3 hr5) tw_271 tw_272 tw_273 tw_3 tw_274 (by decide +kernel) ⟨Nat.le_trans (Nat.le_of_ble_eq_true rfl) hRf, Nat.le_trans (Nat.le_of_ble_eq_true rfl) hRl⟩ ⟨Nat.zero_le _, Nat.zero_le _⟩ 9 1 rfl rfl rfl hl.1 rfl (Nat.le_of_ble_eq_true rfl) dX6_answer_39) (fun H locs V zr5 => ?_)
      replace V : Wd D tc A s H locs (Bw tc xo xa ad f g nT nH t ++ (Fw tc ad ta us T sh u6 ++ rest)) := V
      exact hret (r5, t, u6, sh) hj rfl V dX6_answer_42
    · replace hj := ip _ c4 hj
      refine lv_bipush (v := (-3)) hx hb dX6_answer_32 (by decide) ?_
      exact hret ((-3 : Int32), t, u, sh) hj rfl V dX6_answer_34
  · replace hj := ip _ c2 hj
    refine lv_iconst (v := (-1)) hx hb dX6_answer_21 (by decide) ?_
    exact hret ((-1 : Int32), t, u, sh) hj rfl V dX6_answer_22)

def j_X6_alter_Y (T : TbT) (a6 : Nat) (t : Nat → Int32) (u : St) (sh : Nat) (v1 : Int32) (v2 : Int32) (v3 : Int32) : Option (Int32 × (Nat → Int32) × St × Nat) :=
  (j_X6_answered_Y T a6 t u sh v1 v2).bind (fun ⟨r1, t2, u3, sh4⟩ => if (t2 44) = (0 : Int32) then (j_X1_hasCall u3 v2).bind (fun r6 => if r6 = (0 : Int32) then some (r1, t2, u3, sh4) else gd v2 10 (nm (sA u3 10 v2.toNatClampNeg v3) (fun u9 => some (r1, t2, u9, sh4)))) else some (r1, t2, u3, sh4))
set_option maxHeartbeats 4000000 in
set_option maxRecDepth 100000 in
theorem k_X6_alter_Y (l : Launch) (D : va_G) (tc : Nat → ClassId) (xo : Nat) (xa ad ta : Nat → Nat) (us : Int32) (T : TbT) (f g : Nat → Option Nat) (nT nH : Int32) (rest : va_W) (t : Nat → Int32) (u : St) (sh : Nat) (v1 : Int32) (v2 : Int32) (v3 : Int32) (hfd : FY nH g (ad 6) v1) {x0 : Int32 × (Nat → Int32) × St × Nat} (hj : j_X6_alter_Y T (ad 6) t u sh v1 v2 v3 = some x0) : MetD l D tc yX6_alter cX6_alter 6 (some .int) 3 65 [.ref xo, .int v1, .int v2, .int v3] (Bw tc xo xa ad f g nT nH t ++ (Fw tc ad ta us T sh u ++ rest)) (some (.int x0.1)) (Bw tc xo xa ad f g nT nH x0.2.1 ++ (Fw tc ad ta us T x0.2.2.2 x0.2.2.1 ++ rest)) :=
  x_entI (fun x : Int32 × (Nat → Int32) × St × Nat => x.1) (fun x : Int32 × (Nat → Int32) × St × Nat => Bw tc xo xa ad f g nT nH x.2.1 ++ (Fw tc ad ta us T x.2.2.2 x.2.2.1 ++ rest)) (by decide) (own := RX6) rfl (Nat.le_of_ble_eq_true rfl) (fun p e s m args below meth c A Q ls C V hl hret => by
  obtain ⟨hx, hb, hr, hml, hown, hts, hlk, hN⟩ := id C
  have hRf : 3 ≤ (rmz 3 0 0 65).frames := Nat.le_refl _
  have hRl : 65 ≤ (rmz 3 0 0 65).locals := Nat.le_refl _
  generalize (rmz 3 0 0 65) = R at hret hRf hRl ⊢
  generalize s.heap = H at V ⊢
  generalize ([] : List Loc) = locs at V ⊢
  have hl : lv_has ls 6 [(0, .ref xo), (1, .int v1), (2, .int v2), (3, .int v3)] := hl
  unfold j_X6_alter_Y at hj
  refine lv_aload_n hx hb dX6_alter_0 rfl (lv_at hl 0 rfl) ?_
  refine lv_iload_n hx hb dX6_alter_1 rfl (lv_at hl 1 rfl) ?_
  refine lv_iload_n hx hb dX6_alter_2 rfl (lv_at hl 2 rfl) ?_
  obtain ⟨⟨r1, t2, u3, sh4⟩, hr1, hj⟩ := bd_some hj
  refine x_allI V _ (rg_map _) (x_runV (n := 2) (rest := []) C V _ (rg_map _) (rg_nd _) (k_X6_answered_Y l D tc xo xa ad ta us T f g nT nH rest t u sh v1 v2 hfd hr1) tw_279 tw_280 tw_281 tw_1 tw_282 (by decide +kernel) ⟨Nat.le_trans (Nat.le_of_ble_eq_true rfl) hRf, Nat.le_trans (Nat.le_of_ble_eq_true rfl) hRl⟩ ⟨Nat.zero_le _, Nat.zero_le _⟩ 0 5 rfl rfl rfl hl.1 rfl (Nat.le_of_ble_eq_true rfl) dX6_alter_3) (fun H locs V zr1 => ?_)
  replace V : Wd D tc A s H locs (Bw tc xo xa ad f g nT nH t2 ++ (Fw tc ad ta us T sh4 u3 ++ rest)) := V
  refine lv_istore (lv' := [(4, .int r1), (0, .ref xo), (1, .int v1), (2, .int v2), (3, .int v3)]) hx hb dX6_alter_6 hl (by decide) rfl (fun ls hl => ?_)
  refine lv_aload_n hx hb dX6_alter_8 rfl (lv_at hl 1 rfl) ?_
  refine lv_iload_n hx hb dX6_alter_9 rfl (lv_at hl 2 rfl) ?_
  refine x_allR V _ (rg_map _) (x_runV (n := 1) (rest := []) C V _ (rg_map _) (rg_nd _) (kY_historyOf l D tc xo xa ad f g nT nH t2 (Fw tc ad ta us T sh4 u3 ++ rest) v1 hfd) tw_227 tw_229 tp_2 tw_1 tw_230 (by decide +kernel) ⟨Nat.le_trans (Nat.le_of_ble_eq_true rfl) hRf, Nat.le_trans (Nat.le_of_ble_eq_true rfl) hRl⟩ ⟨Nat.zero_le _, Nat.zero_le _⟩ 0 5 rfl rfl rfl hl.1 rfl (Nat.le_of_ble_eq_true rfl) dX6_alter_10) (fun H locs V => ?_)
  replace V : Wd D tc A s H locs (Bw tc xo xa ad f g nT nH t2 ++ (Fw tc ad ta us T sh4 u3 ++ rest)) := V
  refine lv_astore (lv' := [(5, .ref (ad 6)), (4, .int r1), (0, .ref xo), (1, .int v1), (2, .int v2), (3, .int v3)]) hx hb dX6_alter_13 hl (by decide) rfl (fun ls hl => ?_)
  refine lv_aload_n hx hb dX6_alter_15 rfl (lv_at hl 2 rfl) ?_
  refine x_get hx hb hts hown V inX6 0 rfl rfl 9 (by decide) tw_150 rfl rfl dX6_alter_16 ?_
  refine lv_if_ne (tgt := 44) hx hb dX6_alter_19 (by decide) (fun c5 => ?_) (fun c5 => ?_)
  · replace hj := iq _ c5 hj
    refine lv_iload hx hb dX6_alter_44 (lv_at hl 1 rfl) ?_
    exact hret (r1, t2, u3, sh4) hj rfl V dX6_alter_46
  · replace hj := ip _ c5 hj
    refine lv_aload hx hb dX6_alter_22 (lv_at hl 0 rfl) ?_
    refine lv_ifnull hx hb dX6_alter_24 ?_
    refine lv_aload hx hb dX6_alter_27 (lv_at hl 0 rfl) ?_
    refine lv_iload_n hx hb dX6_alter_29 rfl (lv_at hl 4 rfl) ?_
    obtain ⟨r6, hr6, hj⟩ := bd_some hj
    refine x_midI (w0 := Bw tc xo xa ad f g nT nH t2) (wr := rest) V (x_runV (n := 1) (rest := []) C V _ (mid_map _ _ _) (mid_nd _ _) (k_X1_hasCall l D tc ad ta us T sh4 u3 v2 hr6) tw_262 tw_263 tw_264 tw_3 tw_265 (by decide +kernel) ⟨Nat.le_trans (Nat.le_of_ble_eq_true rfl) hRf, Nat.le_trans (Nat.le_of_ble_eq_true rfl) hRl⟩ ⟨Nat.zero_le _, Nat.zero_le _⟩ 9 1 rfl rfl rfl hl.1 rfl (Nat.le_of_ble_eq_true rfl) dX6_alter_30) (fun H locs V zr6 => ?_)
    replace V : Wd D tc A s H locs (Bw tc xo xa ad f g nT nH t2 ++ (Fw tc ad ta us T sh4 u3 ++ rest)) := V
    refine lv_if_eq (tgt := 44) hx hb dX6_alter_33 (by decide) (fun c7 => ?_) (fun c7 => ?_)
    · replace hj := ip _ c7 hj
      refine lv_iload hx hb dX6_alter_44 (lv_at hl 1 rfl) ?_
      exact hret (r1, t2, u3, sh4) hj rfl V dX6_alter_46
    · replace hj := iq _ c7 hj
      refine lv_aload hx hb dX6_alter_36 (lv_at hl 0 rfl) ?_
      refine x_get hx hb hts hown V inX1 9 rfl rfl 10 (by decide) tw_60 rfl rfl dX6_alter_38 ?_
      refine lv_iload_n hx hb dX6_alter_41 rfl (lv_at hl 4 rfl) ?_
      refine lv_iload_n hx hb dX6_alter_42 rfl (lv_at hl 5 rfl) ?_
      obtain ⟨i8, hj⟩ := gd_some hj
      obtain ⟨u9, eu9, hj⟩ := nm_some hj
      refine x_iast hx hb V 16 rfl i8 dX6_alter_43 (fun H locs V => ?_)
      replace V : Wd D tc A s H locs (Bw tc xo xa ad f g nT nH t2 ++ (Fw tc ad ta us T sh4 u9 ++ rest)) := by rw [eu9]; exact V
      refine lv_iload hx hb dX6_alter_44 (lv_at hl 1 rfl) ?_
      exact hret (r1, t2, u9, sh4) hj rfl V dX6_alter_46)

def j_X6_call_Y (T : TbT) (a6 : Nat) (t : Nat → Int32) (u : St) (sh : Nat) (v1 : Int32) (v2 : Int32) (v3 : Int32) : Option (Int32 × (Nat → Int32) × St × Nat) :=
  (j_X1_hasCall u v2).bind (fun r1 => if r1 = (0 : Int32) then some ((-1 : Int32), t, u, sh) else if v3 = (0 : Int32) then gd v2 10 (some (u.2.1 4 v2.toNatClampNeg, t, u, sh)) else if v3 = (1 : Int32) then gd v2 10 (some (u.2.1 5 v2.toNatClampNeg, t, u, sh)) else if v3 = (2 : Int32) then gd v2 10 (some (u.2.1 8 v2.toNatClampNeg, t, u, sh)) else if v3 = (3 : Int32) then gd v2 10 (some (u.2.1 9 v2.toNatClampNeg, t, u, sh)) else some ((-1 : Int32), t, u, sh))
set_option maxHeartbeats 4000000 in
set_option maxRecDepth 100000 in
theorem k_X6_call_Y (l : Launch) (D : va_G) (tc : Nat → ClassId) (xo : Nat) (xa ad ta : Nat → Nat) (us : Int32) (T : TbT) (f g : Nat → Option Nat) (nT nH : Int32) (rest : va_W) (t : Nat → Int32) (u : St) (sh : Nat) (v1 : Int32) (v2 : Int32) (v3 : Int32) (hfd : FY nH g (ad 6) v1) {x0 : Int32 × (Nat → Int32) × St × Nat} (hj : j_X6_call_Y T (ad 6) t u sh v1 v2 v3 = some x0) : MetD l D tc yX6_call cX6_call 5 (some .int) 1 21 [.ref xo, .int v1, .int v2, .int v3] (Bw tc xo xa ad f g nT nH t ++ (Fw tc ad ta us T sh u ++ rest)) (some (.int x0.1)) (Bw tc xo xa ad f g nT nH x0.2.1 ++ (Fw tc ad ta us T x0.2.2.2 x0.2.2.1 ++ rest)) :=
  x_entI (fun x : Int32 × (Nat → Int32) × St × Nat => x.1) (fun x : Int32 × (Nat → Int32) × St × Nat => Bw tc xo xa ad f g nT nH x.2.1 ++ (Fw tc ad ta us T x.2.2.2 x.2.2.1 ++ rest)) (by decide) (own := RX6) rfl (Nat.le_of_ble_eq_true rfl) (fun p e s m args below meth c A Q ls C V hl hret => by
  obtain ⟨hx, hb, hr, hml, hown, hts, hlk, hN⟩ := id C
  have hRf : 1 ≤ (rmz 1 0 0 21).frames := Nat.le_refl _
  have hRl : 21 ≤ (rmz 1 0 0 21).locals := Nat.le_refl _
  generalize (rmz 1 0 0 21) = R at hret hRf hRl ⊢
  generalize s.heap = H at V ⊢
  generalize ([] : List Loc) = locs at V ⊢
  have hl : lv_has ls 5 [(0, .ref xo), (1, .int v1), (2, .int v2), (3, .int v3)] := hl
  unfold j_X6_call_Y at hj
  refine lv_aload_n hx hb dX6_call_0 rfl (lv_at hl 0 rfl) ?_
  refine lv_iload_n hx hb dX6_call_1 rfl (lv_at hl 1 rfl) ?_
  refine x_allR V _ (rg_map _) (x_runV (n := 1) (rest := []) C V _ (rg_map _) (rg_nd _) (kY_historyOf l D tc xo xa ad f g nT nH t (Fw tc ad ta us T sh u ++ rest) v1 hfd) tw_227 tw_229 tp_2 tw_1 tw_230 (by decide +kernel) ⟨Nat.le_trans (Nat.le_of_ble_eq_true rfl) hRf, Nat.le_trans (Nat.le_of_ble_eq_true rfl) hRl⟩ ⟨Nat.zero_le _, Nat.zero_le _⟩ 0 5 rfl rfl rfl hl.1 rfl (Nat.le_of_ble_eq_true rfl) dX6_call_2) (fun H locs V => ?_)
  replace V : Wd D tc A s H locs (Bw tc xo xa ad f g nT nH t ++ (Fw tc ad ta us T sh u ++ rest)) := V
  refine lv_astore (lv' := [(4, .ref (ad 6)), (0, .ref xo), (1, .int v1), (2, .int v2), (3, .int v3)]) hx hb dX6_call_5 hl (by decide) rfl (fun ls hl => ?_)
  refine lv_aload hx hb dX6_call_7 (lv_at hl 0 rfl) ?_
  refine lv_ifnull hx hb dX6_call_9 ?_
  refine lv_aload hx hb dX6_call_12 (lv_at hl 0 rfl) ?_
  refine lv_iload_n hx hb dX6_call_14 rfl (lv_at hl 3 rfl) ?_
  obtain ⟨r1, hr1, hj⟩ := bd_some hj
  refine x_midI (w0 := Bw tc xo xa ad f g nT nH t) (wr := rest) V (x_runV (n := 1) (rest := []) C V _ (mid_map _ _ _) (mid_nd _ _) (k_X1_hasCall l D tc ad ta us T sh u v2 hr1) tw_262 tw_263 tw_264 tw_3 tw_265 (by decide +kernel) ⟨Nat.le_trans (Nat.le_of_ble_eq_true rfl) hRf, Nat.le_trans (Nat.le_of_ble_eq_true rfl) hRl⟩ ⟨Nat.zero_le _, Nat.zero_le _⟩ 9 1 rfl rfl rfl hl.1 rfl (Nat.le_of_ble_eq_true rfl) dX6_call_15) (fun H locs V zr1 => ?_)
  replace V : Wd D tc A s H locs (Bw tc xo xa ad f g nT nH t ++ (Fw tc ad ta us T sh u ++ rest)) := V
  refine lv_if_ne (tgt := 23) hx hb dX6_call_18 (by decide) (fun c2 => ?_) (fun c2 => ?_)
  · replace hj := iq _ c2 hj
    refine lv_iload_n hx hb dX6_call_23 rfl (lv_at hl 4 rfl) ?_
    by_cases c3 : v3 = 0
    · refine lv_tableIn (off := 32) (tgt := 56) hx hb dX6_call_24 (by rw [c3]; decide) (by rw [c3]; decide) (by rw [c3]; rfl) (by decide) ?_
      replace hj := ip _ c3 hj
      refine lv_aload hx hb dX6_call_56 (lv_at hl 0 rfl) ?_
      refine x_get hx hb hts hown V inX1 9 rfl rfl 4 (by decide) tw_47 rfl rfl dX6_call_58 ?_
      refine lv_iload_n hx hb dX6_call_61 rfl (lv_at hl 3 rfl) ?_
      obtain ⟨i4, hj⟩ := gd_some hj
      refine x_iald hx hb V 10 rfl i4 dX6_call_62 ?_
      exact hret (u.2.1 4 v2.toNatClampNeg, t, u, sh) hj rfl V dX6_call_63
    · replace hj := iq _ c3 hj
      by_cases c5 : v3 = 1
      · refine lv_tableIn (off := 40) (tgt := 64) hx hb dX6_call_24 (by rw [c5]; decide) (by rw [c5]; decide) (by rw [c5]; rfl) (by decide) ?_
        replace hj := ip _ c5 hj
        refine lv_aload hx hb dX6_call_64 (lv_at hl 0 rfl) ?_
        refine x_get hx hb hts hown V inX1 9 rfl rfl 5 (by decide) tw_50 rfl rfl dX6_call_66 ?_
        refine lv_iload_n hx hb dX6_call_69 rfl (lv_at hl 3 rfl) ?_
        obtain ⟨i6, hj⟩ := gd_some hj
        refine x_iald hx hb V 11 rfl i6 dX6_call_70 ?_
        exact hret (u.2.1 5 v2.toNatClampNeg, t, u, sh) hj rfl V dX6_call_71
      · replace hj := iq _ c5 hj
        by_cases c7 : v3 = 2
        · refine lv_tableIn (off := 48) (tgt := 72) hx hb dX6_call_24 (by rw [c7]; decide) (by rw [c7]; decide) (by rw [c7]; rfl) (by decide) ?_
          replace hj := ip _ c7 hj
          refine lv_aload hx hb dX6_call_72 (lv_at hl 0 rfl) ?_
          refine x_get hx hb hts hown V inX1 9 rfl rfl 8 (by decide) tw_56 rfl rfl dX6_call_74 ?_
          refine lv_iload_n hx hb dX6_call_77 rfl (lv_at hl 3 rfl) ?_
          obtain ⟨i8, hj⟩ := gd_some hj
          refine x_iald hx hb V 14 rfl i8 dX6_call_78 ?_
          exact hret (u.2.1 8 v2.toNatClampNeg, t, u, sh) hj rfl V dX6_call_79
        · replace hj := iq _ c7 hj
          by_cases c9 : v3 = 3
          · refine lv_tableIn (off := 56) (tgt := 80) hx hb dX6_call_24 (by rw [c9]; decide) (by rw [c9]; decide) (by rw [c9]; rfl) (by decide) ?_
            replace hj := ip _ c9 hj
            refine lv_aload hx hb dX6_call_80 (lv_at hl 0 rfl) ?_
            refine x_get hx hb hts hown V inX1 9 rfl rfl 9 (by decide) tw_58 rfl rfl dX6_call_82 ?_
            refine lv_iload_n hx hb dX6_call_85 rfl (lv_at hl 3 rfl) ?_
            obtain ⟨i10, hj⟩ := gd_some hj
            refine x_iald hx hb V 15 rfl i10 dX6_call_86 ?_
            exact hret (u.2.1 9 v2.toNatClampNeg, t, u, sh) hj rfl V dX6_call_87
          · replace hj := iq _ c9 hj
            refine lv_tableOut (tgt := 88) hx hb dX6_call_24 (sw_out3 c3 c5 c7 c9) (by decide) ?_
            refine lv_iconst (v := (-1)) hx hb dX6_call_88 (by decide) ?_
            exact hret ((-1 : Int32), t, u, sh) hj rfl V dX6_call_89
  · replace hj := ip _ c2 hj
    refine lv_iconst (v := (-1)) hx hb dX6_call_21 (by decide) ?_
    exact hret ((-1 : Int32), t, u, sh) hj rfl V dX6_call_22)

def j_X6_about_Y (T : TbT) (a6 : Nat) (t : Nat → Int32) (u : St) (sh : Nat) (v1 : Int32) (v2 : Int32) : Option (Int32 × (Nat → Int32) × St × Nat) :=
  if v2 = (0 : Int32) then some (u.1 0, t, u, sh) else if v2 = (1 : Int32) then some (u.1 2, t, u, sh) else if v2 = (2 : Int32) then (j_X1_endedCalls u).bind (fun r4 => (j_J6_bitCount_0f7a4 r4).bind (fun r5 => some ((u.1 2) - r5, t, u, sh))) else if v2 = (3 : Int32) then some (u.1 3, t, u, sh) else some ((-1 : Int32), t, u, sh)
set_option maxHeartbeats 4000000 in
set_option maxRecDepth 100000 in
theorem k_X6_about_Y (l : Launch) (D : va_G) (tc : Nat → ClassId) (xo : Nat) (xa ad ta : Nat → Nat) (us : Int32) (T : TbT) (f g : Nat → Option Nat) (nT nH : Int32) (rest : va_W) (t : Nat → Int32) (u : St) (sh : Nat) (v1 : Int32) (v2 : Int32) (hfd : FY nH g (ad 6) v1) {x0 : Int32 × (Nat → Int32) × St × Nat} (hj : j_X6_about_Y T (ad 6) t u sh v1 v2 = some x0) : MetD l D tc yX6_about cX6_about 4 (some .int) 1 22 [.ref xo, .int v1, .int v2] (Bw tc xo xa ad f g nT nH t ++ (Fw tc ad ta us T sh u ++ rest)) (some (.int x0.1)) (Bw tc xo xa ad f g nT nH x0.2.1 ++ (Fw tc ad ta us T x0.2.2.2 x0.2.2.1 ++ rest)) :=
  x_entI (fun x : Int32 × (Nat → Int32) × St × Nat => x.1) (fun x : Int32 × (Nat → Int32) × St × Nat => Bw tc xo xa ad f g nT nH x.2.1 ++ (Fw tc ad ta us T x.2.2.2 x.2.2.1 ++ rest)) (by decide) (own := RX6) rfl (Nat.le_of_ble_eq_true rfl) (fun p e s m args below meth c A Q ls C V hl hret => by
  obtain ⟨hx, hb, hr, hml, hown, hts, hlk, hN⟩ := id C
  have hRf : 1 ≤ (rmz 1 0 0 22).frames := Nat.le_refl _
  have hRl : 22 ≤ (rmz 1 0 0 22).locals := Nat.le_refl _
  generalize (rmz 1 0 0 22) = R at hret hRf hRl ⊢
  generalize s.heap = H at V ⊢
  generalize ([] : List Loc) = locs at V ⊢
  have hl : lv_has ls 4 [(0, .ref xo), (1, .int v1), (2, .int v2)] := hl
  unfold j_X6_about_Y at hj
  refine lv_aload_n hx hb dX6_about_0 rfl (lv_at hl 0 rfl) ?_
  refine lv_iload_n hx hb dX6_about_1 rfl (lv_at hl 1 rfl) ?_
  refine x_allR V _ (rg_map _) (x_runV (n := 1) (rest := []) C V _ (rg_map _) (rg_nd _) (kY_historyOf l D tc xo xa ad f g nT nH t (Fw tc ad ta us T sh u ++ rest) v1 hfd) tw_227 tw_229 tp_2 tw_1 tw_230 (by decide +kernel) ⟨Nat.le_trans (Nat.le_of_ble_eq_true rfl) hRf, Nat.le_trans (Nat.le_of_ble_eq_true rfl) hRl⟩ ⟨Nat.zero_le _, Nat.zero_le _⟩ 0 5 rfl rfl rfl hl.1 rfl (Nat.le_of_ble_eq_true rfl) dX6_about_2) (fun H locs V => ?_)
  replace V : Wd D tc A s H locs (Bw tc xo xa ad f g nT nH t ++ (Fw tc ad ta us T sh u ++ rest)) := V
  refine lv_astore_n (lv' := [(3, .ref (ad 6)), (0, .ref xo), (1, .int v1), (2, .int v2)]) hx hb dX6_about_5 rfl hl (by decide) rfl (fun ls hl => ?_)
  refine lv_aload_n hx hb dX6_about_6 rfl (lv_at hl 0 rfl) ?_
  refine lv_ifnonnull (tgt := 12) hx hb dX6_about_7 (by decide) ?_
  refine lv_iload_n hx hb dX6_about_12 rfl (lv_at hl 3 rfl) ?_
  by_cases c1 : v2 = 0
  · refine lv_tableIn (off := 31) (tgt := 44) hx hb dX6_about_13 (by rw [c1]; decide) (by rw [c1]; decide) (by rw [c1]; rfl) (by decide) ?_
    replace hj := ip _ c1 hj
    refine lv_aload_n hx hb dX6_about_44 rfl (lv_at hl 0 rfl) ?_
    refine x_get hx hb hts hown V inX1 9 rfl rfl 0 (by decide) tw_38 rfl rfl dX6_about_45 ?_
    exact hret (u.1 0, t, u, sh) hj rfl V dX6_about_48
  · replace hj := iq _ c1 hj
    by_cases c2 : v2 = 1
    · refine lv_tableIn (off := 36) (tgt := 49) hx hb dX6_about_13 (by rw [c2]; decide) (by rw [c2]; decide) (by rw [c2]; rfl) (by decide) ?_
      replace hj := ip _ c2 hj
      refine lv_aload_n hx hb dX6_about_49 rfl (lv_at hl 0 rfl) ?_
      refine x_get hx hb hts hown V inX1 9 rfl rfl 2 (by decide) tw_43 rfl rfl dX6_about_50 ?_
      exact hret (u.1 2, t, u, sh) hj rfl V dX6_about_53
    · replace hj := iq _ c2 hj
      by_cases c3 : v2 = 2
      · refine lv_tableIn (off := 41) (tgt := 54) hx hb dX6_about_13 (by rw [c3]; decide) (by rw [c3]; decide) (by rw [c3]; rfl) (by decide) ?_
        replace hj := ip _ c3 hj
        refine lv_aload_n hx hb dX6_about_54 rfl (lv_at hl 0 rfl) ?_
        refine x_get hx hb hts hown V inX1 9 rfl rfl 2 (by decide) tw_43 rfl rfl dX6_about_55 ?_
        refine lv_aload_n hx hb dX6_about_58 rfl (lv_at hl 0 rfl) ?_
        obtain ⟨r4, hr4, hj⟩ := bd_some hj
        refine x_midI (w0 := Bw tc xo xa ad f g nT nH t) (wr := rest) V (x_runV (n := 0) (rest := [.int (u.1 2)]) C V _ (mid_map _ _ _) (mid_nd _ _) (k_X1_endedCalls l D tc ad ta us T sh u hr4) tw_296 tw_297 tw_298 tw_3 tw_299 (by decide +kernel) ⟨Nat.le_trans (Nat.le_of_ble_eq_true rfl) hRf, Nat.le_trans (Nat.le_of_ble_eq_true rfl) hRl⟩ ⟨Nat.zero_le _, Nat.zero_le _⟩ 9 1 rfl rfl rfl hl.1 rfl (Nat.le_of_ble_eq_true rfl) dX6_about_59) (fun H locs V zr4 => ?_)
        replace V : Wd D tc A s H locs (Bw tc xo xa ad f g nT nH t ++ (Fw tc ad ta us T sh u ++ rest)) := V
        obtain ⟨r5, hr5, hj⟩ := bd_some hj
        refine x_allI V _ (rg_map _) (x_runS (n := 1) (rest := [.int (u.1 2)]) C V _ (rg_map _) (rg_nd _) (k_J6_bitCount_0f7a4 l D tc (Bw tc xo xa ad f g nT nH t ++ (Fw tc ad ta us T sh u ++ rest)) r4 hr5) tw_300 tw_301 tw_10 tw_302 (by decide +kernel) ⟨Nat.le_trans (Nat.le_of_ble_eq_true rfl) hRf, Nat.le_trans (Nat.le_of_ble_eq_true rfl) hRl⟩ ⟨Nat.zero_le _, Nat.zero_le _⟩ rfl hl.1 rfl (Nat.le_of_ble_eq_true rfl) dX6_about_62) (fun H locs V zr5 => ?_)
        replace V : Wd D tc A s H locs (Bw tc xo xa ad f g nT nH t ++ (Fw tc ad ta us T sh u ++ rest)) := V
        refine lv_isub hx hb dX6_about_65 ?_
        exact hret ((u.1 2) - r5, t, u, sh) hj rfl V dX6_about_66
      · replace hj := iq _ c3 hj
        by_cases c6 : v2 = 3
        · refine lv_tableIn (off := 54) (tgt := 67) hx hb dX6_about_13 (by rw [c6]; decide) (by rw [c6]; decide) (by rw [c6]; rfl) (by decide) ?_
          replace hj := ip _ c6 hj
          refine lv_aload_n hx hb dX6_about_67 rfl (lv_at hl 0 rfl) ?_
          refine x_get hx hb hts hown V inX1 9 rfl rfl 3 (by decide) tw_45 rfl rfl dX6_about_68 ?_
          exact hret (u.1 3, t, u, sh) hj rfl V dX6_about_71
        · replace hj := iq _ c6 hj
          refine lv_tableOut (tgt := 72) hx hb dX6_about_13 (sw_out3 c1 c2 c3 c6) (by decide) ?_
          refine lv_iconst (v := (-1)) hx hb dX6_about_72 (by decide) ?_
          exact hret ((-1 : Int32), t, u, sh) hj rfl V dX6_about_73)

def j_X6_ahead_Y (T : TbT) (a6 : Nat) (t : Nat → Int32) (u : St) (sh : Nat) (v1 : Int32) (v2 : Int32) (v3 : Int32) (v4 : Int32) : Option (Int32 × (Nat → Int32) × St × Nat) :=
  (j_X6_isRule v2).bind (fun r1 => if r1 = (0 : Int32) then some ((-1 : Int32), t, u, sh) else (j_X1_hasCall u v3).bind (fun r3 => if r3 = (0 : Int32) then some ((-1 : Int32), t, u, sh) else (j_X1_hasCall u v4).bind (fun r5 => if r5 = (0 : Int32) then some ((-1 : Int32), t, u, sh) else (j_X1_allCalls u).bind (fun r7 => (j_X1_quietTicks u r7).bind (fun r8 => (j_X1_isAhead u v2 r8 v3 v4).bind (fun r9 => if r9 = (0 : Int32) then some ((0 : Int32), t, u, sh) else some ((1 : Int32), t, u, sh)))))))
set_option maxHeartbeats 4000000 in
set_option maxRecDepth 100000 in
theorem k_X6_ahead_Y (l : Launch) (D : va_G) (tc : Nat → ClassId) (xo : Nat) (xa ad ta : Nat → Nat) (us : Int32) (T : TbT) (f g : Nat → Option Nat) (nT nH : Int32) (rest : va_W) (t : Nat → Int32) (u : St) (sh : Nat) (v1 : Int32) (v2 : Int32) (v3 : Int32) (v4 : Int32) (hfd : FY nH g (ad 6) v1) {x0 : Int32 × (Nat → Int32) × St × Nat} (hj : j_X6_ahead_Y T (ad 6) t u sh v1 v2 v3 v4 = some x0) : MetD l D tc yX6_ahead cX6_ahead 6 (some .int) 3 68 [.ref xo, .int v1, .int v2, .int v3, .int v4] (Bw tc xo xa ad f g nT nH t ++ (Fw tc ad ta us T sh u ++ rest)) (some (.int x0.1)) (Bw tc xo xa ad f g nT nH x0.2.1 ++ (Fw tc ad ta us T x0.2.2.2 x0.2.2.1 ++ rest)) :=
  x_entI (fun x : Int32 × (Nat → Int32) × St × Nat => x.1) (fun x : Int32 × (Nat → Int32) × St × Nat => Bw tc xo xa ad f g nT nH x.2.1 ++ (Fw tc ad ta us T x.2.2.2 x.2.2.1 ++ rest)) (by decide) (own := RX6) rfl (Nat.le_of_ble_eq_true rfl) (fun p e s m args below meth c A Q ls C V hl hret => by
  obtain ⟨hx, hb, hr, hml, hown, hts, hlk, hN⟩ := id C
  have hRf : 3 ≤ (rmz 3 0 0 68).frames := Nat.le_refl _
  have hRl : 68 ≤ (rmz 3 0 0 68).locals := Nat.le_refl _
  generalize (rmz 3 0 0 68) = R at hret hRf hRl ⊢
  generalize s.heap = H at V ⊢
  generalize ([] : List Loc) = locs at V ⊢
  have hl : lv_has ls 6 [(0, .ref xo), (1, .int v1), (2, .int v2), (3, .int v3), (4, .int v4)] := hl
  unfold j_X6_ahead_Y at hj
  refine lv_aload_n hx hb dX6_ahead_0 rfl (lv_at hl 0 rfl) ?_
  refine lv_iload_n hx hb dX6_ahead_1 rfl (lv_at hl 1 rfl) ?_
  refine x_allR V _ (rg_map _) (x_runV (n := 1) (rest := []) C V _ (rg_map _) (rg_nd _) (kY_historyOf l D tc xo xa ad f g nT nH t (Fw tc ad ta us T sh u ++ rest) v1 hfd) tw_227 tw_229 tp_2 tw_1 tw_230 (by decide +kernel) ⟨Nat.le_trans (Nat.le_of_ble_eq_true rfl) hRf, Nat.le_trans (Nat.le_of_ble_eq_true rfl) hRl⟩ ⟨Nat.zero_le _, Nat.zero_le _⟩ 0 5 rfl rfl rfl hl.1 rfl (Nat.le_of_ble_eq_true rfl) dX6_ahead_2) (fun H locs V => ?_)
  replace V : Wd D tc A s H locs (Bw tc xo xa ad f g nT nH t ++ (Fw tc ad ta us T sh u ++ rest)) := V
  refine lv_astore (lv' := [(5, .ref (ad 6)), (0, .ref xo), (1, .int v1), (2, .int v2), (3, .int v3), (4, .int v4)]) hx hb dX6_ahead_5 hl (by decide) rfl (fun ls hl => ?_)
  refine lv_aload hx hb dX6_ahead_7 (lv_at hl 0 rfl) ?_
  refine lv_ifnull hx hb dX6_ahead_9 ?_
  refine lv_iload_n hx hb dX6_ahead_12 rfl (lv_at hl 3 rfl) ?_
  obtain ⟨r1, hr1, hj⟩ := bd_some hj
  refine x_allI V _ (rg_map _) (x_runS (n := 1) (rest := []) C V _ (rg_map _) (rg_nd _) (k_X6_isRule l D tc (Bw tc xo xa ad f g nT nH t ++ (Fw tc ad ta us T sh u ++ rest)) v2 hr1) tw_310 tw_311 tw_1 tw_312 (by decide +kernel) ⟨Nat.le_trans (Nat.le_of_ble_eq_true rfl) hRf, Nat.le_trans (Nat.le_of_ble_eq_true rfl) hRl⟩ ⟨Nat.zero_le _, Nat.zero_le _⟩ rfl hl.1 rfl (Nat.le_of_ble_eq_true rfl) dX6_ahead_13) (fun H locs V zr1 => ?_)
  replace V : Wd D tc A s H locs (Bw tc xo xa ad f g nT nH t ++ (Fw tc ad ta us T sh u ++ rest)) := V
  refine lv_if_eq (tgt := 38) hx hb dX6_ahead_16 (by decide) (fun c2 => ?_) (fun c2 => ?_)
  · replace hj := ip _ c2 hj
    refine lv_iconst (v := (-1)) hx hb dX6_ahead_38 (by decide) ?_
    exact hret ((-1 : Int32), t, u, sh) hj rfl V dX6_ahead_39
  · replace hj := iq _ c2 hj
    refine lv_aload hx hb dX6_ahead_19 (lv_at hl 0 rfl) ?_
    refine lv_iload_n hx hb dX6_ahead_21 rfl (lv_at hl 4 rfl) ?_
    obtain ⟨r3, hr3, hj⟩ := bd_some hj
    refine x_midI (w0 := Bw tc xo xa ad f g nT nH t) (wr := rest) V (x_runV (n := 1) (rest := []) C V _ (mid_map _ _ _) (mid_nd _ _) (k_X1_hasCall l D tc ad ta us T sh u v3 hr3) tw_262 tw_263 tw_264 tw_3 tw_265 (by decide +kernel) ⟨Nat.le_trans (Nat.le_of_ble_eq_true rfl) hRf, Nat.le_trans (Nat.le_of_ble_eq_true rfl) hRl⟩ ⟨Nat.zero_le _, Nat.zero_le _⟩ 9 1 rfl rfl rfl hl.1 rfl (Nat.le_of_ble_eq_true rfl) dX6_ahead_22) (fun H locs V zr3 => ?_)
    replace V : Wd D tc A s H locs (Bw tc xo xa ad f g nT nH t ++ (Fw tc ad ta us T sh u ++ rest)) := V
    refine lv_if_eq (tgt := 38) hx hb dX6_ahead_25 (by decide) (fun c4 => ?_) (fun c4 => ?_)
    · replace hj := ip _ c4 hj
      refine lv_iconst (v := (-1)) hx hb dX6_ahead_38 (by decide) ?_
      exact hret ((-1 : Int32), t, u, sh) hj rfl V dX6_ahead_39
    · replace hj := iq _ c4 hj
      refine lv_aload hx hb dX6_ahead_28 (lv_at hl 0 rfl) ?_
      refine lv_iload hx hb dX6_ahead_30 (lv_at hl 5 rfl) ?_
      obtain ⟨r5, hr5, hj⟩ := bd_some hj
      refine x_midI (w0 := Bw tc xo xa ad f g nT nH t) (wr := rest) V (x_runV (n := 1) (rest := []) C V _ (mid_map _ _ _) (mid_nd _ _) (k_X1_hasCall l D tc ad ta us T sh u v4 hr5) tw_262 tw_263 tw_264 tw_3 tw_265 (by decide +kernel) ⟨Nat.le_trans (Nat.le_of_ble_eq_true rfl) hRf, Nat.le_trans (Nat.le_of_ble_eq_true rfl) hRl⟩ ⟨Nat.zero_le _, Nat.zero_le _⟩ 9 1 rfl rfl rfl hl.1 rfl (Nat.le_of_ble_eq_true rfl) dX6_ahead_32) (fun H locs V zr5 => ?_)
      replace V : Wd D tc A s H locs (Bw tc xo xa ad f g nT nH t ++ (Fw tc ad ta us T sh u ++ rest)) := V
      refine lv_if_ne (tgt := 40) hx hb dX6_ahead_35 (by decide) (fun c6 => ?_) (fun c6 => ?_)
      · replace hj := iq _ c6 hj
        refine lv_aload hx hb dX6_ahead_40 (lv_at hl 0 rfl) ?_
        refine lv_iload_n hx hb dX6_ahead_42 rfl (lv_at hl 3 rfl) ?_
        refine lv_aload hx hb dX6_ahead_43 (lv_at hl 0 rfl) ?_
        refine lv_aload hx hb dX6_ahead_45 (lv_at hl 0 rfl) ?_
        obtain ⟨r7, hr7, hj⟩ := bd_some hj
        refine x_midI (w0 := Bw tc xo xa ad f g nT nH t) (wr := rest) V (x_runV (n := 0) (rest := [.ref (ad 6), .int v2, .ref (ad 6)]) C V _ (mid_map _ _ _) (mid_nd _ _) (k_X1_allCalls l D tc ad ta us T sh u hr7) tw_313 tw_314 tw_315 tw_3 tw_316 (by decide +kernel) ⟨Nat.le_trans (Nat.le_of_ble_eq_true rfl) hRf, Nat.le_trans (Nat.le_of_ble_eq_true rfl) hRl⟩ ⟨Nat.zero_le _, Nat.zero_le _⟩ 9 1 rfl rfl rfl hl.1 rfl (Nat.le_of_ble_eq_true rfl) dX6_ahead_47) (fun H locs V zr7 => ?_)
        replace V : Wd D tc A s H locs (Bw tc xo xa ad f g nT nH t ++ (Fw tc ad ta us T sh u ++ rest)) := V
        obtain ⟨r8, hr8, hj⟩ := bd_some hj
        refine x_midI (w0 := Bw tc xo xa ad f g nT nH t) (wr := rest) V (x_runV (n := 1) (rest := [.int v2, .ref (ad 6)]) C V _ (mid_map _ _ _) (mid_nd _ _) (k_X1_quietTicks l D tc ad ta us T sh u r7 hr8) tw_317 tw_318 tw_319 tw_3 tw_320 (by decide +kernel) ⟨Nat.le_trans (Nat.le_of_ble_eq_true rfl) hRf, Nat.le_trans (Nat.le_of_ble_eq_true rfl) hRl⟩ ⟨Nat.zero_le _, Nat.zero_le _⟩ 9 1 rfl rfl rfl hl.1 rfl (Nat.le_of_ble_eq_true rfl) dX6_ahead_50) (fun H locs V zr8 => ?_)
        replace V : Wd D tc A s H locs (Bw tc xo xa ad f g nT nH t ++ (Fw tc ad ta us T sh u ++ rest)) := V
        refine lv_iload_n hx hb dX6_ahead_53 rfl (lv_at hl 4 rfl) ?_
        refine lv_iload hx hb dX6_ahead_54 (lv_at hl 5 rfl) ?_
        obtain ⟨r9, hr9, hj⟩ := bd_some hj
        refine x_midI (w0 := Bw tc xo xa ad f g nT nH t) (wr := rest) V (x_runV (n := 4) (rest := []) C V _ (mid_map _ _ _) (mid_nd _ _) (k_X1_isAhead l D tc ad ta us T sh u v2 r8 v3 v4 hr9) tw_328 tw_329 tw_330 tw_3 tw_331 (by decide +kernel) ⟨Nat.le_trans (Nat.le_of_ble_eq_true rfl) hRf, Nat.le_trans (Nat.le_of_ble_eq_true rfl) hRl⟩ ⟨Nat.zero_le _, Nat.zero_le _⟩ 9 1 rfl rfl rfl hl.1 rfl (Nat.le_of_ble_eq_true rfl) dX6_ahead_56) (fun H locs V zr9 => ?_)
        replace V : Wd D tc A s H locs (Bw tc xo xa ad f g nT nH t ++ (Fw tc ad ta us T sh u ++ rest)) := V
        refine lv_if_eq (tgt := 66) hx hb dX6_ahead_59 (by decide) (fun c10 => ?_) (fun c10 => ?_)
        · replace hj := ip _ c10 hj
          refine lv_iconst (v := 0) hx hb dX6_ahead_66 (by decide) ?_
          exact hret ((0 : Int32), t, u, sh) hj rfl V dX6_ahead_67
        · replace hj := iq _ c10 hj
          refine lv_iconst (v := 1) hx hb dX6_ahead_62 (by decide) ?_
          refine lv_goto (tgt := 67) hx hb dX6_ahead_63 (by decide) ?_
          exact hret ((1 : Int32), t, u, sh) hj rfl V dX6_ahead_67
      · replace hj := ip _ c6 hj
        refine lv_iconst (v := (-1)) hx hb dX6_ahead_38 (by decide) ?_
        exact hret ((-1 : Int32), t, u, sh) hj rfl V dX6_ahead_39)

def j_X6_judge_Y (T : TbT) (a6 : Nat) (t : Nat → Int32) (u : St) (sh : Nat) (v1 : Int32) (v2 : Int32) : Option (Int32 × (Nat → Int32) × St × Nat) :=
  (j_X6_isRule v2).bind (fun r1 => if r1 = (0 : Int32) then some ((-1 : Int32), t, u, sh) else (j_X1_allCalls u).bind (fun r3 => (j_X4_takes T u v2 r3).bind (fun ⟨r4, u5⟩ => if r4 = (0 : Int32) then some ((0 : Int32), t, u5, a6) else some ((1 : Int32), t, u5, a6))))
set_option maxHeartbeats 4000000 in
set_option maxRecDepth 100000 in
theorem k_X6_judge_Y (l : Launch) (D : va_G) (tc : Nat → ClassId) (xo : Nat) (xa ad ta : Nat → Nat) (us : Int32) (T : TbT) (f g : Nat → Option Nat) (nT nH : Int32) (rest : va_W) (t : Nat → Int32) (u : St) (sh : Nat) (v1 : Int32) (v2 : Int32) (hfd : FY nH g (ad 6) v1) {x0 : Int32 × (Nat → Int32) × St × Nat} (hj : j_X6_judge_Y T (ad 6) t u sh v1 v2 = some x0) : MetD l D tc yX6_judge cX6_judge 4 (some .int) 19 538 [.ref xo, .int v1, .int v2] (Bw tc xo xa ad f g nT nH t ++ (Fw tc ad ta us T sh u ++ rest)) (some (.int x0.1)) (Bw tc xo xa ad f g nT nH x0.2.1 ++ (Fw tc ad ta us T x0.2.2.2 x0.2.2.1 ++ rest)) :=
  x_entI (fun x : Int32 × (Nat → Int32) × St × Nat => x.1) (fun x : Int32 × (Nat → Int32) × St × Nat => Bw tc xo xa ad f g nT nH x.2.1 ++ (Fw tc ad ta us T x.2.2.2 x.2.2.1 ++ rest)) (by decide) (own := RX6) rfl (Nat.le_of_ble_eq_true rfl) (fun p e s m args below meth c A Q ls C V hl hret => by
  obtain ⟨hx, hb, hr, hml, hown, hts, hlk, hN⟩ := id C
  have hRf : 19 ≤ (rmz 19 0 0 538).frames := Nat.le_refl _
  have hRl : 538 ≤ (rmz 19 0 0 538).locals := Nat.le_refl _
  generalize (rmz 19 0 0 538) = R at hret hRf hRl ⊢
  generalize s.heap = H at V ⊢
  generalize ([] : List Loc) = locs at V ⊢
  have hl : lv_has ls 4 [(0, .ref xo), (1, .int v1), (2, .int v2)] := hl
  unfold j_X6_judge_Y at hj
  refine lv_aload_n hx hb dX6_judge_0 rfl (lv_at hl 0 rfl) ?_
  refine lv_iload_n hx hb dX6_judge_1 rfl (lv_at hl 1 rfl) ?_
  refine x_allR V _ (rg_map _) (x_runV (n := 1) (rest := []) C V _ (rg_map _) (rg_nd _) (kY_historyOf l D tc xo xa ad f g nT nH t (Fw tc ad ta us T sh u ++ rest) v1 hfd) tw_227 tw_229 tp_2 tw_1 tw_230 (by decide +kernel) ⟨Nat.le_trans (Nat.le_of_ble_eq_true rfl) hRf, Nat.le_trans (Nat.le_of_ble_eq_true rfl) hRl⟩ ⟨Nat.zero_le _, Nat.zero_le _⟩ 0 5 rfl rfl rfl hl.1 rfl (Nat.le_of_ble_eq_true rfl) dX6_judge_2) (fun H locs V => ?_)
  replace V : Wd D tc A s H locs (Bw tc xo xa ad f g nT nH t ++ (Fw tc ad ta us T sh u ++ rest)) := V
  refine lv_astore_n (lv' := [(3, .ref (ad 6)), (0, .ref xo), (1, .int v1), (2, .int v2)]) hx hb dX6_judge_5 rfl hl (by decide) rfl (fun ls hl => ?_)
  refine lv_aload_n hx hb dX6_judge_6 rfl (lv_at hl 0 rfl) ?_
  refine lv_ifnull hx hb dX6_judge_7 ?_
  refine lv_iload_n hx hb dX6_judge_10 rfl (lv_at hl 3 rfl) ?_
  obtain ⟨r1, hr1, hj⟩ := bd_some hj
  refine x_allI V _ (rg_map _) (x_runS (n := 1) (rest := []) C V _ (rg_map _) (rg_nd _) (k_X6_isRule l D tc (Bw tc xo xa ad f g nT nH t ++ (Fw tc ad ta us T sh u ++ rest)) v2 hr1) tw_310 tw_311 tw_1 tw_312 (by decide +kernel) ⟨Nat.le_trans (Nat.le_of_ble_eq_true rfl) hRf, Nat.le_trans (Nat.le_of_ble_eq_true rfl) hRl⟩ ⟨Nat.zero_le _, Nat.zero_le _⟩ rfl hl.1 rfl (Nat.le_of_ble_eq_true rfl) dX6_judge_11) (fun H locs V zr1 => ?_)
  replace V : Wd D tc A s H locs (Bw tc xo xa ad f g nT nH t ++ (Fw tc ad ta us T sh u ++ rest)) := V
  refine lv_if_ne (tgt := 19) hx hb dX6_judge_14 (by decide) (fun c2 => ?_) (fun c2 => ?_)
  · replace hj := iq _ c2 hj
    refine lv_aload_n hx hb dX6_judge_19 rfl (lv_at hl 1 rfl) ?_
    refine x_get hx hb hts hown V inX6 0 rfl rfl 4 (by decide) tw_145 rfl rfl dX6_judge_20 ?_
    refine lv_aload_n hx hb dX6_judge_23 rfl (lv_at hl 0 rfl) ?_
    refine lv_iload_n hx hb dX6_judge_24 rfl (lv_at hl 3 rfl) ?_
    refine lv_aload_n hx hb dX6_judge_25 rfl (lv_at hl 0 rfl) ?_
    obtain ⟨r3, hr3, hj⟩ := bd_some hj
    refine x_midI (w0 := Bw tc xo xa ad f g nT nH t) (wr := rest) V (x_runV (n := 0) (rest := [.int v2, .ref (ad 6), .ref (ad 0)]) C V _ (mid_map _ _ _) (mid_nd _ _) (k_X1_allCalls l D tc ad ta us T sh u hr3) tw_313 tw_314 tw_315 tw_3 tw_316 (by decide +kernel) ⟨Nat.le_trans (Nat.le_of_ble_eq_true rfl) hRf, Nat.le_trans (Nat.le_of_ble_eq_true rfl) hRl⟩ ⟨Nat.zero_le _, Nat.zero_le _⟩ 9 1 rfl rfl rfl hl.1 rfl (Nat.le_of_ble_eq_true rfl) dX6_judge_26) (fun H locs V zr3 => ?_)
    replace V : Wd D tc A s H locs (Bw tc xo xa ad f g nT nH t ++ (Fw tc ad ta us T sh u ++ rest)) := V
    obtain ⟨⟨r4, u5⟩, hr4, hj⟩ := bd_some hj
    refine x_midI (w0 := Bw tc xo xa ad f g nT nH t) (wr := rest) V (x_runV (n := 3) (rest := []) C V _ (mid_map _ _ _) (mid_nd _ _) (k_X4_takes l D tc ad ta us T sh u v2 r3 hr4) tw_337 tw_338 tw_339 tw_2 tw_340 (by decide +kernel) ⟨Nat.le_trans (Nat.le_of_ble_eq_true rfl) hRf, Nat.le_trans (Nat.le_of_ble_eq_true rfl) hRl⟩ ⟨Nat.zero_le _, Nat.zero_le _⟩ 3 3 rfl rfl rfl hl.1 rfl (Nat.le_of_ble_eq_true rfl) dX6_judge_29) (fun H locs V zr4 => ?_)
    replace V : Wd D tc A s H locs (Bw tc xo xa ad f g nT nH t ++ (Fw tc ad ta us T (ad 6) u5 ++ rest)) := V
    refine lv_if_eq (tgt := 39) hx hb dX6_judge_32 (by decide) (fun c6 => ?_) (fun c6 => ?_)
    · replace hj := ip _ c6 hj
      refine lv_iconst (v := 0) hx hb dX6_judge_39 (by decide) ?_
      exact hret ((0 : Int32), t, u5, (ad 6)) hj rfl V dX6_judge_40
    · replace hj := iq _ c6 hj
      refine lv_iconst (v := 1) hx hb dX6_judge_35 (by decide) ?_
      refine lv_goto (tgt := 40) hx hb dX6_judge_36 (by decide) ?_
      exact hret ((1 : Int32), t, u5, (ad 6)) hj rfl V dX6_judge_40
  · replace hj := ip _ c2 hj
    refine lv_iconst (v := (-1)) hx hb dX6_judge_17 (by decide) ?_
    exact hret ((-1 : Int32), t, u, sh) hj rfl V dX6_judge_18)

def j_X6_first_Y (T : TbT) (a6 : Nat) (t : Nat → Int32) (u : St) (sh : Nat) (v1 : Int32) (v2 : Int32) (v3 : Int32) : Option (Int32 × (Nat → Int32) × St × Nat) :=
  (j_X6_isRule v2).bind (fun r1 => if r1 = (0 : Int32) then some ((-1 : Int32), t, u, sh) else if v3 < (0 : Int32) then some ((-1 : Int32), t, u, sh) else if v3 < (10 : Int32) then (j_X4_firstAt T u v2 v3).bind (fun ⟨r5, u6⟩ => some (r5, t, u6, a6)) else some ((-1 : Int32), t, u, sh))
set_option maxHeartbeats 4000000 in
set_option maxRecDepth 100000 in
theorem k_X6_first_Y (l : Launch) (D : va_G) (tc : Nat → ClassId) (xo : Nat) (xa ad ta : Nat → Nat) (us : Int32) (T : TbT) (f g : Nat → Option Nat) (nT nH : Int32) (rest : va_W) (t : Nat → Int32) (u : St) (sh : Nat) (v1 : Int32) (v2 : Int32) (v3 : Int32) (hfd : FY nH g (ad 6) v1) {x0 : Int32 × (Nat → Int32) × St × Nat} (hj : j_X6_first_Y T (ad 6) t u sh v1 v2 v3 = some x0) : MetD l D tc yX6_first cX6_first 5 (some .int) 20 568 [.ref xo, .int v1, .int v2, .int v3] (Bw tc xo xa ad f g nT nH t ++ (Fw tc ad ta us T sh u ++ rest)) (some (.int x0.1)) (Bw tc xo xa ad f g nT nH x0.2.1 ++ (Fw tc ad ta us T x0.2.2.2 x0.2.2.1 ++ rest)) :=
  x_entI (fun x : Int32 × (Nat → Int32) × St × Nat => x.1) (fun x : Int32 × (Nat → Int32) × St × Nat => Bw tc xo xa ad f g nT nH x.2.1 ++ (Fw tc ad ta us T x.2.2.2 x.2.2.1 ++ rest)) (by decide) (own := RX6) rfl (Nat.le_of_ble_eq_true rfl) (fun p e s m args below meth c A Q ls C V hl hret => by
  obtain ⟨hx, hb, hr, hml, hown, hts, hlk, hN⟩ := id C
  have hRf : 20 ≤ (rmz 20 0 0 568).frames := Nat.le_refl _
  have hRl : 568 ≤ (rmz 20 0 0 568).locals := Nat.le_refl _
  generalize (rmz 20 0 0 568) = R at hret hRf hRl ⊢
  generalize s.heap = H at V ⊢
  generalize ([] : List Loc) = locs at V ⊢
  have hl : lv_has ls 5 [(0, .ref xo), (1, .int v1), (2, .int v2), (3, .int v3)] := hl
  unfold j_X6_first_Y at hj
  refine lv_aload_n hx hb dX6_first_0 rfl (lv_at hl 0 rfl) ?_
  refine lv_iload_n hx hb dX6_first_1 rfl (lv_at hl 1 rfl) ?_
  refine x_allR V _ (rg_map _) (x_runV (n := 1) (rest := []) C V _ (rg_map _) (rg_nd _) (kY_historyOf l D tc xo xa ad f g nT nH t (Fw tc ad ta us T sh u ++ rest) v1 hfd) tw_227 tw_229 tp_2 tw_1 tw_230 (by decide +kernel) ⟨Nat.le_trans (Nat.le_of_ble_eq_true rfl) hRf, Nat.le_trans (Nat.le_of_ble_eq_true rfl) hRl⟩ ⟨Nat.zero_le _, Nat.zero_le _⟩ 0 5 rfl rfl rfl hl.1 rfl (Nat.le_of_ble_eq_true rfl) dX6_first_2) (fun H locs V => ?_)
  replace V : Wd D tc A s H locs (Bw tc xo xa ad f g nT nH t ++ (Fw tc ad ta us T sh u ++ rest)) := V
  refine lv_astore (lv' := [(4, .ref (ad 6)), (0, .ref xo), (1, .int v1), (2, .int v2), (3, .int v3)]) hx hb dX6_first_5 hl (by decide) rfl (fun ls hl => ?_)
  refine lv_aload hx hb dX6_first_7 (lv_at hl 0 rfl) ?_
  refine lv_ifnull hx hb dX6_first_9 ?_
  refine lv_iload_n hx hb dX6_first_12 rfl (lv_at hl 3 rfl) ?_
  obtain ⟨r1, hr1, hj⟩ := bd_some hj
  refine x_allI V _ (rg_map _) (x_runS (n := 1) (rest := []) C V _ (rg_map _) (rg_nd _) (k_X6_isRule l D tc (Bw tc xo xa ad f g nT nH t ++ (Fw tc ad ta us T sh u ++ rest)) v2 hr1) tw_310 tw_311 tw_1 tw_312 (by decide +kernel) ⟨Nat.le_trans (Nat.le_of_ble_eq_true rfl) hRf, Nat.le_trans (Nat.le_of_ble_eq_true rfl) hRl⟩ ⟨Nat.zero_le _, Nat.zero_le _⟩ rfl hl.1 rfl (Nat.le_of_ble_eq_true rfl) dX6_first_13) (fun H locs V zr1 => ?_)
  replace V : Wd D tc A s H locs (Bw tc xo xa ad f g nT nH t ++ (Fw tc ad ta us T sh u ++ rest)) := V
  refine lv_if_eq (tgt := 29) hx hb dX6_first_16 (by decide) (fun c2 => ?_) (fun c2 => ?_)
  · replace hj := ip _ c2 hj
    refine lv_iconst (v := (-1)) hx hb dX6_first_29 (by decide) ?_
    exact hret ((-1 : Int32), t, u, sh) hj rfl V dX6_first_30
  · replace hj := iq _ c2 hj
    refine lv_iload_n hx hb dX6_first_19 rfl (lv_at hl 4 rfl) ?_
    refine lv_if_lt (tgt := 29) hx hb dX6_first_20 (by decide) (fun c3 => ?_) (fun c3 => ?_)
    · replace hj := ip _ c3 hj
      refine lv_iconst (v := (-1)) hx hb dX6_first_29 (by decide) ?_
      exact hret ((-1 : Int32), t, u, sh) hj rfl V dX6_first_30
    · replace hj := iq _ c3 hj
      refine lv_iload_n hx hb dX6_first_23 rfl (lv_at hl 4 rfl) ?_
      refine lv_bipush (v := 10) hx hb dX6_first_24 (by decide) ?_
      refine lv_icmp_lt (tgt := 31) hx hb dX6_first_26 (by decide) (fun c4 => ?_) (fun c4 => ?_)
      · replace hj := ip _ c4 hj
        refine lv_aload_n hx hb dX6_first_31 rfl (lv_at hl 1 rfl) ?_
        refine x_get hx hb hts hown V inX6 0 rfl rfl 4 (by decide) tw_145 rfl rfl dX6_first_32 ?_
        refine lv_aload hx hb dX6_first_35 (lv_at hl 0 rfl) ?_
        refine lv_iload_n hx hb dX6_first_37 rfl (lv_at hl 3 rfl) ?_
        refine lv_iload_n hx hb dX6_first_38 rfl (lv_at hl 4 rfl) ?_
        obtain ⟨⟨r5, u6⟩, hr5, hj⟩ := bd_some hj
        refine x_midI (w0 := Bw tc xo xa ad f g nT nH t) (wr := rest) V (x_runV (n := 3) (rest := []) C V _ (mid_map _ _ _) (mid_nd _ _) (k_X4_firstAt l D tc ad ta us T sh u v2 v3 hr5) tw_439 tw_440 tw_441 tw_2 tw_442 (by decide +kernel) ⟨Nat.le_trans (Nat.le_of_ble_eq_true rfl) hRf, Nat.le_trans (Nat.le_of_ble_eq_true rfl) hRl⟩ ⟨Nat.zero_le _, Nat.zero_le _⟩ 3 3 rfl rfl rfl hl.1 rfl (Nat.le_of_ble_eq_true rfl) dX6_first_39) (fun H locs V zr5 => ?_)
        replace V : Wd D tc A s H locs (Bw tc xo xa ad f g nT nH t ++ (Fw tc ad ta us T (ad 6) u6 ++ rest)) := V
        exact hret (r5, t, u6, (ad 6)) hj rfl V dX6_first_42
      · replace hj := iq _ c4 hj
        refine lv_iconst (v := (-1)) hx hb dX6_first_29 (by decide) ?_
        exact hret ((-1 : Int32), t, u, sh) hj rfl V dX6_first_30)

def j_X6_orders_Y (T : TbT) (a6 : Nat) (t : Nat → Int32) (u : St) (sh : Nat) (v1 : Int32) (v2 : Int32) : Option (Int64 × (Nat → Int32) × St × Nat) :=
  (j_X6_isRule v2).bind (fun r1 => if r1 = (0 : Int32) then some ((-1 : Int64), t, u, sh) else (j_X4_count T u v2).bind (fun ⟨r3, u4⟩ => some (r3, t, u4, a6)))
set_option maxHeartbeats 4000000 in
set_option maxRecDepth 100000 in
theorem k_X6_orders_Y (l : Launch) (D : va_G) (tc : Nat → ClassId) (xo : Nat) (xa ad ta : Nat → Nat) (us : Int32) (T : TbT) (f g : Nat → Option Nat) (nT nH : Int32) (rest : va_W) (t : Nat → Int32) (u : St) (sh : Nat) (v1 : Int32) (v2 : Int32) (hfd : FY nH g (ad 6) v1) {x0 : Int64 × (Nat → Int32) × St × Nat} (hj : j_X6_orders_Y T (ad 6) t u sh v1 v2 = some x0) : MetD l D tc yX6_orders cX6_orders 4 (some .long) 19 537 [.ref xo, .int v1, .int v2] (Bw tc xo xa ad f g nT nH t ++ (Fw tc ad ta us T sh u ++ rest)) (some (.long x0.1)) (Bw tc xo xa ad f g nT nH x0.2.1 ++ (Fw tc ad ta us T x0.2.2.2 x0.2.2.1 ++ rest)) :=
  x_entL (fun x : Int64 × (Nat → Int32) × St × Nat => x.1) (fun x : Int64 × (Nat → Int32) × St × Nat => Bw tc xo xa ad f g nT nH x.2.1 ++ (Fw tc ad ta us T x.2.2.2 x.2.2.1 ++ rest)) (by decide) (own := RX6) rfl (Nat.le_of_ble_eq_true rfl) (fun p e s m args below meth c A Q ls C V hl hret => by
  obtain ⟨hx, hb, hr, hml, hown, hts, hlk, hN⟩ := id C
  have hRf : 19 ≤ (rmz 19 0 0 537).frames := Nat.le_refl _
  have hRl : 537 ≤ (rmz 19 0 0 537).locals := Nat.le_refl _
  generalize (rmz 19 0 0 537) = R at hret hRf hRl ⊢
  generalize s.heap = H at V ⊢
  generalize ([] : List Loc) = locs at V ⊢
  have hl : lv_has ls 4 [(0, .ref xo), (1, .int v1), (2, .int v2)] := hl
  unfold j_X6_orders_Y at hj
  refine lv_aload_n hx hb dX6_orders_0 rfl (lv_at hl 0 rfl) ?_
  refine lv_iload_n hx hb dX6_orders_1 rfl (lv_at hl 1 rfl) ?_
  refine x_allR V _ (rg_map _) (x_runV (n := 1) (rest := []) C V _ (rg_map _) (rg_nd _) (kY_historyOf l D tc xo xa ad f g nT nH t (Fw tc ad ta us T sh u ++ rest) v1 hfd) tw_227 tw_229 tp_2 tw_1 tw_230 (by decide +kernel) ⟨Nat.le_trans (Nat.le_of_ble_eq_true rfl) hRf, Nat.le_trans (Nat.le_of_ble_eq_true rfl) hRl⟩ ⟨Nat.zero_le _, Nat.zero_le _⟩ 0 5 rfl rfl rfl hl.1 rfl (Nat.le_of_ble_eq_true rfl) dX6_orders_2) (fun H locs V => ?_)
  replace V : Wd D tc A s H locs (Bw tc xo xa ad f g nT nH t ++ (Fw tc ad ta us T sh u ++ rest)) := V
  refine lv_astore_n (lv' := [(3, .ref (ad 6)), (0, .ref xo), (1, .int v1), (2, .int v2)]) hx hb dX6_orders_5 rfl hl (by decide) rfl (fun ls hl => ?_)
  refine lv_aload_n hx hb dX6_orders_6 rfl (lv_at hl 0 rfl) ?_
  refine lv_ifnull hx hb dX6_orders_7 ?_
  refine lv_iload_n hx hb dX6_orders_10 rfl (lv_at hl 3 rfl) ?_
  obtain ⟨r1, hr1, hj⟩ := bd_some hj
  refine x_allI V _ (rg_map _) (x_runS (n := 1) (rest := []) C V _ (rg_map _) (rg_nd _) (k_X6_isRule l D tc (Bw tc xo xa ad f g nT nH t ++ (Fw tc ad ta us T sh u ++ rest)) v2 hr1) tw_310 tw_311 tw_1 tw_312 (by decide +kernel) ⟨Nat.le_trans (Nat.le_of_ble_eq_true rfl) hRf, Nat.le_trans (Nat.le_of_ble_eq_true rfl) hRl⟩ ⟨Nat.zero_le _, Nat.zero_le _⟩ rfl hl.1 rfl (Nat.le_of_ble_eq_true rfl) dX6_orders_11) (fun H locs V zr1 => ?_)
  replace V : Wd D tc A s H locs (Bw tc xo xa ad f g nT nH t ++ (Fw tc ad ta us T sh u ++ rest)) := V
  refine lv_if_ne (tgt := 21) hx hb dX6_orders_14 (by decide) (fun c2 => ?_) (fun c2 => ?_)
  · replace hj := iq _ c2 hj
    refine lv_aload_n hx hb dX6_orders_21 rfl (lv_at hl 1 rfl) ?_
    refine x_get hx hb hts hown V inX6 0 rfl rfl 4 (by decide) tw_145 rfl rfl dX6_orders_22 ?_
    refine lv_aload_n hx hb dX6_orders_25 rfl (lv_at hl 0 rfl) ?_
    refine lv_iload_n hx hb dX6_orders_26 rfl (lv_at hl 3 rfl) ?_
    obtain ⟨⟨r3, u4⟩, hr3, hj⟩ := bd_some hj
    refine x_midL (w0 := Bw tc xo xa ad f g nT nH t) (wr := rest) V (x_runV (n := 2) (rest := []) C V _ (mid_map _ _ _) (mid_nd _ _) (k_X4_count l D tc ad ta us T sh u v2 hr3) tw_453 tw_454 tw_455 tw_2 tw_456 (by decide +kernel) ⟨Nat.le_trans (Nat.le_of_ble_eq_true rfl) hRf, Nat.le_trans (Nat.le_of_ble_eq_true rfl) hRl⟩ ⟨Nat.zero_le _, Nat.zero_le _⟩ 3 3 rfl rfl rfl hl.1 rfl (Nat.le_of_ble_eq_true rfl) dX6_orders_27) (fun H locs V => ?_)
    replace V : Wd D tc A s H locs (Bw tc xo xa ad f g nT nH t ++ (Fw tc ad ta us T (ad 6) u4 ++ rest)) := V
    exact hret (r3, t, u4, (ad 6)) hj V dX6_orders_30
  · replace hj := ip _ c2 hj
    refine lv_ldc2 (v := (-1)) hx hb hown (hts _ tw_452) dX6_orders_17 ?_
    exact hret ((-1 : Int64), t, u, sh) hj V dX6_orders_20)

def j_X6_least_Y (T : TbT) (a6 : Nat) (t : Nat → Int32) (u : St) (sh : Nat) (v1 : Int32) (v2 : Int32) : Option (Int32 × (Nat → Int32) × St × Nat) :=
  (j_X6_isRule v2).bind (fun r1 => if r1 = (0 : Int32) then some ((-1 : Int32), t, u, sh) else (j_X4_leastPart T u v2).bind (fun ⟨r3, u4⟩ => nm (upd t 42 r3) (fun t5 => (j_J6_bitCount_0f7a4 (t5 42)).bind (fun r6 => some (r6, t5, u4, a6)))))
set_option maxHeartbeats 4000000 in
set_option maxRecDepth 100000 in
theorem k_X6_least_Y (l : Launch) (D : va_G) (tc : Nat → ClassId) (xo : Nat) (xa ad ta : Nat → Nat) (us : Int32) (T : TbT) (f g : Nat → Option Nat) (nT nH : Int32) (rest : va_W) (t : Nat → Int32) (u : St) (sh : Nat) (v1 : Int32) (v2 : Int32) (hfd : FY nH g (ad 6) v1) {x0 : Int32 × (Nat → Int32) × St × Nat} (hj : j_X6_least_Y T (ad 6) t u sh v1 v2 = some x0) : MetD l D tc yX6_least cX6_least 4 (some .int) 20 565 [.ref xo, .int v1, .int v2] (Bw tc xo xa ad f g nT nH t ++ (Fw tc ad ta us T sh u ++ rest)) (some (.int x0.1)) (Bw tc xo xa ad f g nT nH x0.2.1 ++ (Fw tc ad ta us T x0.2.2.2 x0.2.2.1 ++ rest)) :=
  x_entI (fun x : Int32 × (Nat → Int32) × St × Nat => x.1) (fun x : Int32 × (Nat → Int32) × St × Nat => Bw tc xo xa ad f g nT nH x.2.1 ++ (Fw tc ad ta us T x.2.2.2 x.2.2.1 ++ rest)) (by decide) (own := RX6) rfl (Nat.le_of_ble_eq_true rfl) (fun p e s m args below meth c A Q ls C V hl hret => by
  obtain ⟨hx, hb, hr, hml, hown, hts, hlk, hN⟩ := id C
  have hRf : 20 ≤ (rmz 20 0 0 565).frames := Nat.le_refl _
  have hRl : 565 ≤ (rmz 20 0 0 565).locals := Nat.le_refl _
  generalize (rmz 20 0 0 565) = R at hret hRf hRl ⊢
  generalize s.heap = H at V ⊢
  generalize ([] : List Loc) = locs at V ⊢
  have hl : lv_has ls 4 [(0, .ref xo), (1, .int v1), (2, .int v2)] := hl
  unfold j_X6_least_Y at hj
  refine lv_aload_n hx hb dX6_least_0 rfl (lv_at hl 0 rfl) ?_
  refine lv_iload_n hx hb dX6_least_1 rfl (lv_at hl 1 rfl) ?_
  refine x_allR V _ (rg_map _) (x_runV (n := 1) (rest := []) C V _ (rg_map _) (rg_nd _) (kY_historyOf l D tc xo xa ad f g nT nH t (Fw tc ad ta us T sh u ++ rest) v1 hfd) tw_227 tw_229 tp_2 tw_1 tw_230 (by decide +kernel) ⟨Nat.le_trans (Nat.le_of_ble_eq_true rfl) hRf, Nat.le_trans (Nat.le_of_ble_eq_true rfl) hRl⟩ ⟨Nat.zero_le _, Nat.zero_le _⟩ 0 5 rfl rfl rfl hl.1 rfl (Nat.le_of_ble_eq_true rfl) dX6_least_2) (fun H locs V => ?_)
  replace V : Wd D tc A s H locs (Bw tc xo xa ad f g nT nH t ++ (Fw tc ad ta us T sh u ++ rest)) := V
  refine lv_astore_n (lv' := [(3, .ref (ad 6)), (0, .ref xo), (1, .int v1), (2, .int v2)]) hx hb dX6_least_5 rfl hl (by decide) rfl (fun ls hl => ?_)
  refine lv_aload_n hx hb dX6_least_6 rfl (lv_at hl 0 rfl) ?_
  refine lv_ifnull hx hb dX6_least_7 ?_
  refine lv_iload_n hx hb dX6_least_10 rfl (lv_at hl 3 rfl) ?_
  obtain ⟨r1, hr1, hj⟩ := bd_some hj
  refine x_allI V _ (rg_map _) (x_runS (n := 1) (rest := []) C V _ (rg_map _) (rg_nd _) (k_X6_isRule l D tc (Bw tc xo xa ad f g nT nH t ++ (Fw tc ad ta us T sh u ++ rest)) v2 hr1) tw_310 tw_311 tw_1 tw_312 (by decide +kernel) ⟨Nat.le_trans (Nat.le_of_ble_eq_true rfl) hRf, Nat.le_trans (Nat.le_of_ble_eq_true rfl) hRl⟩ ⟨Nat.zero_le _, Nat.zero_le _⟩ rfl hl.1 rfl (Nat.le_of_ble_eq_true rfl) dX6_least_11) (fun H locs V zr1 => ?_)
  replace V : Wd D tc A s H locs (Bw tc xo xa ad f g nT nH t ++ (Fw tc ad ta us T sh u ++ rest)) := V
  refine lv_if_ne (tgt := 19) hx hb dX6_least_14 (by decide) (fun c2 => ?_) (fun c2 => ?_)
  · replace hj := iq _ c2 hj
    refine lv_aload_n hx hb dX6_least_19 rfl (lv_at hl 1 rfl) ?_
    refine lv_aload_n hx hb dX6_least_20 rfl (lv_at hl 1 rfl) ?_
    refine x_get hx hb hts hown V inX6 0 rfl rfl 4 (by decide) tw_145 rfl rfl dX6_least_21 ?_
    refine lv_aload_n hx hb dX6_least_24 rfl (lv_at hl 0 rfl) ?_
    refine lv_iload_n hx hb dX6_least_25 rfl (lv_at hl 3 rfl) ?_
    obtain ⟨⟨r3, u4⟩, hr3, hj⟩ := bd_some hj
    refine x_midI (w0 := Bw tc xo xa ad f g nT nH t) (wr := rest) V (x_runV (n := 2) (rest := [.ref xo]) C V _ (mid_map _ _ _) (mid_nd _ _) (k_X4_leastPart l D tc ad ta us T sh u v2 hr3) tw_461 tw_462 tw_463 tw_2 tw_464 (by decide +kernel) ⟨Nat.le_trans (Nat.le_of_ble_eq_true rfl) hRf, Nat.le_trans (Nat.le_of_ble_eq_true rfl) hRl⟩ ⟨Nat.zero_le _, Nat.zero_le _⟩ 3 3 rfl rfl rfl hl.1 rfl (Nat.le_of_ble_eq_true rfl) dX6_least_26) (fun H locs V zr3 => ?_)
    replace V : Wd D tc A s H locs (Bw tc xo xa ad f g nT nH t ++ (Fw tc ad ta us T (ad 6) u4 ++ rest)) := V
    refine x_put hx hb hts hown V inX6 tyX6_ok nmX6 0 rfl rfl 6 (by decide) tw_147 rfl rfl rfl rfl (Nat.le_of_ble_eq_true rfl) dX6_least_29 (fun H locs V => ?_)
    obtain ⟨t5, et5, hj⟩ := nm_some hj
    replace V : Wd D tc A s H locs (Bw tc xo xa ad f g nT nH t5 ++ (Fw tc ad ta us T (ad 6) u4 ++ rest)) := by rw [et5]; exact V
    refine lv_aload_n hx hb dX6_least_32 rfl (lv_at hl 1 rfl) ?_
    refine x_get hx hb hts hown V inX6 0 rfl rfl 6 (by decide) tw_147 rfl rfl dX6_least_33 ?_
    obtain ⟨r6, hr6, hj⟩ := bd_some hj
    refine x_allI V _ (rg_map _) (x_runS (n := 1) (rest := []) C V _ (rg_map _) (rg_nd _) (k_J6_bitCount_0f7a4 l D tc (Bw tc xo xa ad f g nT nH t5 ++ (Fw tc ad ta us T (ad 6) u4 ++ rest)) (t5 42) hr6) tw_300 tw_301 tw_10 tw_302 (by decide +kernel) ⟨Nat.le_trans (Nat.le_of_ble_eq_true rfl) hRf, Nat.le_trans (Nat.le_of_ble_eq_true rfl) hRl⟩ ⟨Nat.zero_le _, Nat.zero_le _⟩ rfl hl.1 rfl (Nat.le_of_ble_eq_true rfl) dX6_least_36) (fun H locs V zr6 => ?_)
    replace V : Wd D tc A s H locs (Bw tc xo xa ad f g nT nH t5 ++ (Fw tc ad ta us T (ad 6) u4 ++ rest)) := V
    exact hret (r6, t5, u4, (ad 6)) hj rfl V dX6_least_39
  · replace hj := ip _ c2 hj
    refine lv_iconst (v := (-1)) hx hb dX6_least_17 (by decide) ?_
    exact hret ((-1 : Int32), t, u, sh) hj rfl V dX6_least_18)

def j_X6_fills_Y (T : TbT) (a6 : Nat) (t : Nat → Int32) (u : St) (sh : Nat) (v1 : Int32) (v2 : Int32) (v3 : Int32) : Option (Int32 × (Nat → Int32) × St × Nat) :=
  (j_X6_isRule v2).bind (fun r1 => if r1 = (0 : Int32) then some ((-1 : Int32), t, u, sh) else (j_X1_hasCall u v3).bind (fun r3 => if r3 = (0 : Int32) then some ((-1 : Int32), t, u, sh) else (j_X1_isOpen u v3).bind (fun r5 => if r5 = (0 : Int32) then some ((-3 : Int32), t, u, sh) else (j_X4_collect T u v2 v3).bind (fun u8 => some (u8.1 30, t, u8, a6)))))
set_option maxHeartbeats 4000000 in
set_option maxRecDepth 100000 in
theorem k_X6_fills_Y (l : Launch) (D : va_G) (tc : Nat → ClassId) (xo : Nat) (xa ad ta : Nat → Nat) (us : Int32) (T : TbT) (f g : Nat → Option Nat) (nT nH : Int32) (rest : va_W) (t : Nat → Int32) (u : St) (sh : Nat) (v1 : Int32) (v2 : Int32) (v3 : Int32) (hfd : FY nH g (ad 6) v1) {x0 : Int32 × (Nat → Int32) × St × Nat} (hj : j_X6_fills_Y T (ad 6) t u sh v1 v2 v3 = some x0) : MetD l D tc yX6_fills cX6_fills 5 (some .int) 32 955 [.ref xo, .int v1, .int v2, .int v3] (Bw tc xo xa ad f g nT nH t ++ (Fw tc ad ta us T sh u ++ rest)) (some (.int x0.1)) (Bw tc xo xa ad f g nT nH x0.2.1 ++ (Fw tc ad ta us T x0.2.2.2 x0.2.2.1 ++ rest)) :=
  x_entI (fun x : Int32 × (Nat → Int32) × St × Nat => x.1) (fun x : Int32 × (Nat → Int32) × St × Nat => Bw tc xo xa ad f g nT nH x.2.1 ++ (Fw tc ad ta us T x.2.2.2 x.2.2.1 ++ rest)) (by decide) (own := RX6) rfl (Nat.le_of_ble_eq_true rfl) (fun p e s m args below meth c A Q ls C V hl hret => by
  obtain ⟨hx, hb, hr, hml, hown, hts, hlk, hN⟩ := id C
  have hRf : 32 ≤ (rmz 32 0 0 955).frames := Nat.le_refl _
  have hRl : 955 ≤ (rmz 32 0 0 955).locals := Nat.le_refl _
  generalize (rmz 32 0 0 955) = R at hret hRf hRl ⊢
  generalize s.heap = H at V ⊢
  generalize ([] : List Loc) = locs at V ⊢
  have hl : lv_has ls 5 [(0, .ref xo), (1, .int v1), (2, .int v2), (3, .int v3)] := hl
  unfold j_X6_fills_Y at hj
  refine lv_aload_n hx hb dX6_fills_0 rfl (lv_at hl 0 rfl) ?_
  refine lv_iload_n hx hb dX6_fills_1 rfl (lv_at hl 1 rfl) ?_
  refine x_allR V _ (rg_map _) (x_runV (n := 1) (rest := []) C V _ (rg_map _) (rg_nd _) (kY_historyOf l D tc xo xa ad f g nT nH t (Fw tc ad ta us T sh u ++ rest) v1 hfd) tw_227 tw_229 tp_2 tw_1 tw_230 (by decide +kernel) ⟨Nat.le_trans (Nat.le_of_ble_eq_true rfl) hRf, Nat.le_trans (Nat.le_of_ble_eq_true rfl) hRl⟩ ⟨Nat.zero_le _, Nat.zero_le _⟩ 0 5 rfl rfl rfl hl.1 rfl (Nat.le_of_ble_eq_true rfl) dX6_fills_2) (fun H locs V => ?_)
  replace V : Wd D tc A s H locs (Bw tc xo xa ad f g nT nH t ++ (Fw tc ad ta us T sh u ++ rest)) := V
  refine lv_astore (lv' := [(4, .ref (ad 6)), (0, .ref xo), (1, .int v1), (2, .int v2), (3, .int v3)]) hx hb dX6_fills_5 hl (by decide) rfl (fun ls hl => ?_)
  refine lv_aload hx hb dX6_fills_7 (lv_at hl 0 rfl) ?_
  refine lv_ifnull hx hb dX6_fills_9 ?_
  refine lv_iload_n hx hb dX6_fills_12 rfl (lv_at hl 3 rfl) ?_
  obtain ⟨r1, hr1, hj⟩ := bd_some hj
  refine x_allI V _ (rg_map _) (x_runS (n := 1) (rest := []) C V _ (rg_map _) (rg_nd _) (k_X6_isRule l D tc (Bw tc xo xa ad f g nT nH t ++ (Fw tc ad ta us T sh u ++ rest)) v2 hr1) tw_310 tw_311 tw_1 tw_312 (by decide +kernel) ⟨Nat.le_trans (Nat.le_of_ble_eq_true rfl) hRf, Nat.le_trans (Nat.le_of_ble_eq_true rfl) hRl⟩ ⟨Nat.zero_le _, Nat.zero_le _⟩ rfl hl.1 rfl (Nat.le_of_ble_eq_true rfl) dX6_fills_13) (fun H locs V zr1 => ?_)
  replace V : Wd D tc A s H locs (Bw tc xo xa ad f g nT nH t ++ (Fw tc ad ta us T sh u ++ rest)) := V
  refine lv_if_eq (tgt := 28) hx hb dX6_fills_16 (by decide) (fun c2 => ?_) (fun c2 => ?_)
  · replace hj := ip _ c2 hj
    refine lv_iconst (v := (-1)) hx hb dX6_fills_28 (by decide) ?_
    exact hret ((-1 : Int32), t, u, sh) hj rfl V dX6_fills_29
  · replace hj := iq _ c2 hj
    refine lv_aload hx hb dX6_fills_19 (lv_at hl 0 rfl) ?_
    refine lv_iload_n hx hb dX6_fills_21 rfl (lv_at hl 4 rfl) ?_
    obtain ⟨r3, hr3, hj⟩ := bd_some hj
    refine x_midI (w0 := Bw tc xo xa ad f g nT nH t) (wr := rest) V (x_runV (n := 1) (rest := []) C V _ (mid_map _ _ _) (mid_nd _ _) (k_X1_hasCall l D tc ad ta us T sh u v3 hr3) tw_262 tw_263 tw_264 tw_3 tw_265 (by decide +kernel) ⟨Nat.le_trans (Nat.le_of_ble_eq_true rfl) hRf, Nat.le_trans (Nat.le_of_ble_eq_true rfl) hRl⟩ ⟨Nat.zero_le _, Nat.zero_le _⟩ 9 1 rfl rfl rfl hl.1 rfl (Nat.le_of_ble_eq_true rfl) dX6_fills_22) (fun H locs V zr3 => ?_)
    replace V : Wd D tc A s H locs (Bw tc xo xa ad f g nT nH t ++ (Fw tc ad ta us T sh u ++ rest)) := V
    refine lv_if_ne (tgt := 30) hx hb dX6_fills_25 (by decide) (fun c4 => ?_) (fun c4 => ?_)
    · replace hj := iq _ c4 hj
      refine lv_aload hx hb dX6_fills_30 (lv_at hl 0 rfl) ?_
      refine lv_iload_n hx hb dX6_fills_32 rfl (lv_at hl 4 rfl) ?_
      obtain ⟨r5, hr5, hj⟩ := bd_some hj
      refine x_midI (w0 := Bw tc xo xa ad f g nT nH t) (wr := rest) V (x_runV (n := 1) (rest := []) C V _ (mid_map _ _ _) (mid_nd _ _) (k_X1_isOpen l D tc ad ta us T sh u v3 hr5) tw_266 tw_267 tw_268 tw_3 tw_269 (by decide +kernel) ⟨Nat.le_trans (Nat.le_of_ble_eq_true rfl) hRf, Nat.le_trans (Nat.le_of_ble_eq_true rfl) hRl⟩ ⟨Nat.zero_le _, Nat.zero_le _⟩ 9 1 rfl rfl rfl hl.1 rfl (Nat.le_of_ble_eq_true rfl) dX6_fills_33) (fun H locs V zr5 => ?_)
      replace V : Wd D tc A s H locs (Bw tc xo xa ad f g nT nH t ++ (Fw tc ad ta us T sh u ++ rest)) := V
      refine lv_if_ne (tgt := 42) hx hb dX6_fills_36 (by decide) (fun c6 => ?_) (fun c6 => ?_)
      · replace hj := iq _ c6 hj
        refine lv_aload_n hx hb dX6_fills_42 rfl (lv_at hl 1 rfl) ?_
        refine x_get hx hb hts hown V inX6 0 rfl rfl 4 (by decide) tw_145 rfl rfl dX6_fills_43 ?_
        refine lv_aload hx hb dX6_fills_46 (lv_at hl 0 rfl) ?_
        refine lv_iload_n hx hb dX6_fills_48 rfl (lv_at hl 3 rfl) ?_
        refine lv_iload_n hx hb dX6_fills_49 rfl (lv_at hl 4 rfl) ?_
        refine lv_aload_n hx hb dX6_fills_50 rfl (lv_at hl 1 rfl) ?_
        refine x_get hx hb hts hown V inX6 0 rfl rfl 5 (by decide) tw_146 rfl rfl dX6_fills_51 ?_
        obtain ⟨u8, hr7, hj⟩ := bd_some hj
        refine x_midV (w0 := Bw tc xo xa ad f g nT nH t) (wr := rest) V (x_runV (n := 4) (rest := []) C V _ (mid_map _ _ _) (mid_nd _ _) (k_X4_collect l D tc ad ta us T sh u v2 v3 hr7) tw_475 tw_476 tw_477 tw_2 tw_478 (by decide +kernel) ⟨Nat.le_trans (Nat.le_of_ble_eq_true rfl) hRf, Nat.le_trans (Nat.le_of_ble_eq_true rfl) hRl⟩ ⟨Nat.zero_le _, Nat.zero_le _⟩ 3 3 rfl rfl rfl hl.1 rfl (Nat.le_of_ble_eq_true rfl) dX6_fills_54) (fun H locs V => ?_)
        replace V : Wd D tc A s H locs (Bw tc xo xa ad f g nT nH t ++ (Fw tc ad ta us T (ad 6) u8 ++ rest)) := V
        refine lv_aload_n hx hb dX6_fills_57 rfl (lv_at hl 1 rfl) ?_
        refine x_get hx hb hts hown V inX6 0 rfl rfl 5 (by decide) tw_146 rfl rfl dX6_fills_58 ?_
        refine x_get hx hb hts hown V inX0 17 rfl rfl 1 (by decide) tw_135 rfl rfl dX6_fills_61 ?_
        exact hret (u8.1 30, t, u8, (ad 6)) hj rfl V dX6_fills_64
      · replace hj := ip _ c6 hj
        refine lv_bipush (v := (-3)) hx hb dX6_fills_39 (by decide) ?_
        exact hret ((-3 : Int32), t, u, sh) hj rfl V dX6_fills_41
    · replace hj := ip _ c4 hj
      refine lv_iconst (v := (-1)) hx hb dX6_fills_28 (by decide) ?_
      exact hret ((-1 : Int32), t, u, sh) hj rfl V dX6_fills_29)

def j_X6_apart_Y (T : TbT) (a6 : Nat) (t : Nat → Int32) (u : St) (sh : Nat) (v1 : Int32) (v2 : Int32) (v3 : Int32) : Option (Int32 × (Nat → Int32) × St × Nat) :=
  if v3 < (0 : Int32) then (j_X6_isRule v2).bind (fun r2 => if r2 = (0 : Int32) then some ((-1 : Int32), t, u, sh) else if (u.1 0) = (5 : Int32) then if (0 : Int32) = (0 : Int32) then some ((-1 : Int32), t, u, sh) else (j_X1_callsWith u v3).bind (fun r6 => (j_X4_takes T u v2 r6).bind (fun ⟨r7, u8⟩ => if r7 = (0 : Int32) then some ((0 : Int32), t, u8, a6) else some ((1 : Int32), t, u8, a6))) else some ((-1 : Int32), t, u, sh)) else if (4 : Int32) ≤ v3 then (j_X6_isRule v2).bind (fun r11 => if r11 = (0 : Int32) then some ((-1 : Int32), t, u, sh) else if (u.1 0) = (5 : Int32) then if (0 : Int32) = (0 : Int32) then some ((-1 : Int32), t, u, sh) else (j_X1_callsWith u v3).bind (fun r15 => (j_X4_takes T u v2 r15).bind (fun ⟨r16, u17⟩ => if r16 = (0 : Int32) then some ((0 : Int32), t, u17, a6) else some ((1 : Int32), t, u17, a6))) else some ((-1 : Int32), t, u, sh)) else (j_X6_isRule v2).bind (fun r19 => if r19 = (0 : Int32) then some ((-1 : Int32), t, u, sh) else if (u.1 0) = (5 : Int32) then if (1 : Int32) = (0 : Int32) then some ((-1 : Int32), t, u, sh) else (j_X1_callsWith u v3).bind (fun r23 => (j_X4_takes T u v2 r23).bind (fun ⟨r24, u25⟩ => if r24 = (0 : Int32) then some ((0 : Int32), t, u25, a6) else some ((1 : Int32), t, u25, a6))) else some ((-1 : Int32), t, u, sh))
set_option maxHeartbeats 4000000 in
set_option maxRecDepth 100000 in
theorem k_X6_apart_Y (l : Launch) (D : va_G) (tc : Nat → ClassId) (xo : Nat) (xa ad ta : Nat → Nat) (us : Int32) (T : TbT) (f g : Nat → Option Nat) (nT nH : Int32) (rest : va_W) (t : Nat → Int32) (u : St) (sh : Nat) (v1 : Int32) (v2 : Int32) (v3 : Int32) (hfd : FY nH g (ad 6) v1) {x0 : Int32 × (Nat → Int32) × St × Nat} (hj : j_X6_apart_Y T (ad 6) t u sh v1 v2 v3 = some x0) : MetD l D tc yX6_apart cX6_apart 6 (some .int) 19 538 [.ref xo, .int v1, .int v2, .int v3] (Bw tc xo xa ad f g nT nH t ++ (Fw tc ad ta us T sh u ++ rest)) (some (.int x0.1)) (Bw tc xo xa ad f g nT nH x0.2.1 ++ (Fw tc ad ta us T x0.2.2.2 x0.2.2.1 ++ rest)) :=
  x_entI (fun x : Int32 × (Nat → Int32) × St × Nat => x.1) (fun x : Int32 × (Nat → Int32) × St × Nat => Bw tc xo xa ad f g nT nH x.2.1 ++ (Fw tc ad ta us T x.2.2.2 x.2.2.1 ++ rest)) (by decide) (own := RX6) rfl (Nat.le_of_ble_eq_true rfl) (fun p e s m args below meth c A Q ls C V hl hret => by
  obtain ⟨hx, hb, hr, hml, hown, hts, hlk, hN⟩ := id C
  have hRf : 19 ≤ (rmz 19 0 0 538).frames := Nat.le_refl _
  have hRl : 538 ≤ (rmz 19 0 0 538).locals := Nat.le_refl _
  generalize (rmz 19 0 0 538) = R at hret hRf hRl ⊢
  generalize s.heap = H at V ⊢
  generalize ([] : List Loc) = locs at V ⊢
  have hl : lv_has ls 6 [(0, .ref xo), (1, .int v1), (2, .int v2), (3, .int v3)] := hl
  unfold j_X6_apart_Y at hj
  refine lv_aload_n hx hb dX6_apart_0 rfl (lv_at hl 0 rfl) ?_
  refine lv_iload_n hx hb dX6_apart_1 rfl (lv_at hl 1 rfl) ?_
  refine x_allR V _ (rg_map _) (x_runV (n := 1) (rest := []) C V _ (rg_map _) (rg_nd _) (kY_historyOf l D tc xo xa ad f g nT nH t (Fw tc ad ta us T sh u ++ rest) v1 hfd) tw_227 tw_229 tp_2 tw_1 tw_230 (by decide +kernel) ⟨Nat.le_trans (Nat.le_of_ble_eq_true rfl) hRf, Nat.le_trans (Nat.le_of_ble_eq_true rfl) hRl⟩ ⟨Nat.zero_le _, Nat.zero_le _⟩ 0 5 rfl rfl rfl hl.1 rfl (Nat.le_of_ble_eq_true rfl) dX6_apart_2) (fun H locs V => ?_)
  replace V : Wd D tc A s H locs (Bw tc xo xa ad f g nT nH t ++ (Fw tc ad ta us T sh u ++ rest)) := V
  refine lv_astore (lv' := [(4, .ref (ad 6)), (0, .ref xo), (1, .int v1), (2, .int v2), (3, .int v3)]) hx hb dX6_apart_5 hl (by decide) rfl (fun ls hl => ?_)
  refine lv_iload_n hx hb dX6_apart_7 rfl (lv_at hl 4 rfl) ?_
  refine lv_if_lt (tgt := 20) hx hb dX6_apart_8 (by decide) (fun c1 => ?_) (fun c1 => ?_)
  · replace hj := ip _ c1 hj
    refine lv_iconst (v := 0) hx hb dX6_apart_20 (by decide) ?_
    refine lv_istore (lv' := [(5, .int (0 : Int32)), (4, .ref (ad 6)), (0, .ref xo), (1, .int v1), (2, .int v2), (3, .int v3)]) hx hb dX6_apart_21 hl (by decide) rfl (fun ls hl => ?_)
    refine lv_aload hx hb dX6_apart_23 (lv_at hl 1 rfl) ?_
    refine lv_ifnull hx hb dX6_apart_25 ?_
    refine lv_iload_n hx hb dX6_apart_28 rfl (lv_at hl 4 rfl) ?_
    obtain ⟨r2, hr2, hj⟩ := bd_some hj
    refine x_allI V _ (rg_map _) (x_runS (n := 1) (rest := []) C V _ (rg_map _) (rg_nd _) (k_X6_isRule l D tc (Bw tc xo xa ad f g nT nH t ++ (Fw tc ad ta us T sh u ++ rest)) v2 hr2) tw_310 tw_311 tw_1 tw_312 (by decide +kernel) ⟨Nat.le_trans (Nat.le_of_ble_eq_true rfl) hRf, Nat.le_trans (Nat.le_of_ble_eq_true rfl) hRl⟩ ⟨Nat.zero_le _, Nat.zero_le _⟩ rfl hl.1 rfl (Nat.le_of_ble_eq_true rfl) dX6_apart_29) (fun H locs V zr2 => ?_)
    replace V : Wd D tc A s H locs (Bw tc xo xa ad f g nT nH t ++ (Fw tc ad ta us T sh u ++ rest)) := V
    refine lv_if_eq (tgt := 49) hx hb dX6_apart_32 (by decide) (fun c3 => ?_) (fun c3 => ?_)
    · replace hj := ip _ c3 hj
      refine lv_iconst (v := (-1)) hx hb dX6_apart_49 (by decide) ?_
      exact hret ((-1 : Int32), t, u, sh) hj rfl V dX6_apart_50
    · replace hj := iq _ c3 hj
      refine lv_aload hx hb dX6_apart_35 (lv_at hl 1 rfl) ?_
      refine x_get hx hb hts hown V inX1 9 rfl rfl 0 (by decide) tw_38 rfl rfl dX6_apart_37 ?_
      refine lv_iconst (v := 5) hx hb dX6_apart_40 (by decide) ?_
      refine lv_icmp_ne (tgt := 49) hx hb dX6_apart_41 (by decide) (fun c4 => ?_) (fun c4 => ?_)
      · replace hj := iq _ c4 hj
        refine lv_iconst (v := (-1)) hx hb dX6_apart_49 (by decide) ?_
        exact hret ((-1 : Int32), t, u, sh) hj rfl V dX6_apart_50
      · replace hj := ip _ c4 hj
        refine lv_iload hx hb dX6_apart_44 (lv_at hl 0 rfl) ?_
        refine lv_if_ne (tgt := 51) hx hb dX6_apart_46 (by decide) (fun c5 => ?_) (fun c5 => ?_)
        · replace hj := iq _ c5 hj
          refine lv_aload_n hx hb dX6_apart_51 rfl (lv_at hl 2 rfl) ?_
          refine x_get hx hb hts hown V inX6 0 rfl rfl 4 (by decide) tw_145 rfl rfl dX6_apart_52 ?_
          refine lv_aload hx hb dX6_apart_55 (lv_at hl 1 rfl) ?_
          refine lv_iload_n hx hb dX6_apart_57 rfl (lv_at hl 4 rfl) ?_
          refine lv_aload hx hb dX6_apart_58 (lv_at hl 1 rfl) ?_
          refine lv_iload_n hx hb dX6_apart_60 rfl (lv_at hl 5 rfl) ?_
          obtain ⟨r6, hr6, hj⟩ := bd_some hj
          refine x_midI (w0 := Bw tc xo xa ad f g nT nH t) (wr := rest) V (x_runV (n := 1) (rest := [.int v2, .ref (ad 6), .ref (ad 0)]) C V _ (mid_map _ _ _) (mid_nd _ _) (k_X1_callsWith l D tc ad ta us T sh u v3 hr6) tw_495 tw_496 tw_497 tw_3 tw_498 (by decide +kernel) ⟨Nat.le_trans (Nat.le_of_ble_eq_true rfl) hRf, Nat.le_trans (Nat.le_of_ble_eq_true rfl) hRl⟩ ⟨Nat.zero_le _, Nat.zero_le _⟩ 9 1 rfl rfl rfl hl.1 rfl (Nat.le_of_ble_eq_true rfl) dX6_apart_61) (fun H locs V zr6 => ?_)
          replace V : Wd D tc A s H locs (Bw tc xo xa ad f g nT nH t ++ (Fw tc ad ta us T sh u ++ rest)) := V
          obtain ⟨⟨r7, u8⟩, hr7, hj⟩ := bd_some hj
          refine x_midI (w0 := Bw tc xo xa ad f g nT nH t) (wr := rest) V (x_runV (n := 3) (rest := []) C V _ (mid_map _ _ _) (mid_nd _ _) (k_X4_takes l D tc ad ta us T sh u v2 r6 hr7) tw_337 tw_338 tw_339 tw_2 tw_340 (by decide +kernel) ⟨Nat.le_trans (Nat.le_of_ble_eq_true rfl) hRf, Nat.le_trans (Nat.le_of_ble_eq_true rfl) hRl⟩ ⟨Nat.zero_le _, Nat.zero_le _⟩ 3 3 rfl rfl rfl hl.1 rfl (Nat.le_of_ble_eq_true rfl) dX6_apart_64) (fun H locs V zr7 => ?_)
          replace V : Wd D tc A s H locs (Bw tc xo xa ad f g nT nH t ++ (Fw tc ad ta us T (ad 6) u8 ++ rest)) := V
          refine lv_if_eq (tgt := 74) hx hb dX6_apart_67 (by decide) (fun c9 => ?_) (fun c9 => ?_)
          · replace hj := ip _ c9 hj
            refine lv_iconst (v := 0) hx hb dX6_apart_74 (by decide) ?_
            exact hret ((0 : Int32), t, u8, (ad 6)) hj rfl V dX6_apart_75
          · replace hj := iq _ c9 hj
            refine lv_iconst (v := 1) hx hb dX6_apart_70 (by decide) ?_
            refine lv_goto (tgt := 75) hx hb dX6_apart_71 (by decide) ?_
            exact hret ((1 : Int32), t, u8, (ad 6)) hj rfl V dX6_apart_75
        · replace hj := ip _ c5 hj
          refine lv_iconst (v := (-1)) hx hb dX6_apart_49 (by decide) ?_
          exact hret ((-1 : Int32), t, u, sh) hj rfl V dX6_apart_50
  · replace hj := iq _ c1 hj
    refine lv_iload_n hx hb dX6_apart_11 rfl (lv_at hl 4 rfl) ?_
    refine lv_iconst (v := 4) hx hb dX6_apart_12 (by decide) ?_
    refine lv_icmp_ge (tgt := 20) hx hb dX6_apart_13 (by decide) (fun c10 => ?_) (fun c10 => ?_)
    · replace hj := ip _ c10 hj
      refine lv_iconst (v := 0) hx hb dX6_apart_20 (by decide) ?_
      refine lv_istore (lv' := [(5, .int (0 : Int32)), (4, .ref (ad 6)), (0, .ref xo), (1, .int v1), (2, .int v2), (3, .int v3)]) hx hb dX6_apart_21 hl (by decide) rfl (fun ls hl => ?_)
      refine lv_aload hx hb dX6_apart_23 (lv_at hl 1 rfl) ?_
      refine lv_ifnull hx hb dX6_apart_25 ?_
      refine lv_iload_n hx hb dX6_apart_28 rfl (lv_at hl 4 rfl) ?_
      obtain ⟨r11, hr11, hj⟩ := bd_some hj
      refine x_allI V _ (rg_map _) (x_runS (n := 1) (rest := []) C V _ (rg_map _) (rg_nd _) (k_X6_isRule l D tc (Bw tc xo xa ad f g nT nH t ++ (Fw tc ad ta us T sh u ++ rest)) v2 hr11) tw_310 tw_311 tw_1 tw_312 (by decide +kernel) ⟨Nat.le_trans (Nat.le_of_ble_eq_true rfl) hRf, Nat.le_trans (Nat.le_of_ble_eq_true rfl) hRl⟩ ⟨Nat.zero_le _, Nat.zero_le _⟩ rfl hl.1 rfl (Nat.le_of_ble_eq_true rfl) dX6_apart_29) (fun H locs V zr11 => ?_)
      replace V : Wd D tc A s H locs (Bw tc xo xa ad f g nT nH t ++ (Fw tc ad ta us T sh u ++ rest)) := V
      refine lv_if_eq (tgt := 49) hx hb dX6_apart_32 (by decide) (fun c12 => ?_) (fun c12 => ?_)
      · replace hj := ip _ c12 hj
        refine lv_iconst (v := (-1)) hx hb dX6_apart_49 (by decide) ?_
        exact hret ((-1 : Int32), t, u, sh) hj rfl V dX6_apart_50
      · replace hj := iq _ c12 hj
        refine lv_aload hx hb dX6_apart_35 (lv_at hl 1 rfl) ?_
        refine x_get hx hb hts hown V inX1 9 rfl rfl 0 (by decide) tw_38 rfl rfl dX6_apart_37 ?_
        refine lv_iconst (v := 5) hx hb dX6_apart_40 (by decide) ?_
        refine lv_icmp_ne (tgt := 49) hx hb dX6_apart_41 (by decide) (fun c13 => ?_) (fun c13 => ?_)
        · replace hj := iq _ c13 hj
          refine lv_iconst (v := (-1)) hx hb dX6_apart_49 (by decide) ?_
          exact hret ((-1 : Int32), t, u, sh) hj rfl V dX6_apart_50
        · replace hj := ip _ c13 hj
          refine lv_iload hx hb dX6_apart_44 (lv_at hl 0 rfl) ?_
          refine lv_if_ne (tgt := 51) hx hb dX6_apart_46 (by decide) (fun c14 => ?_) (fun c14 => ?_)
          · replace hj := iq _ c14 hj
            refine lv_aload_n hx hb dX6_apart_51 rfl (lv_at hl 2 rfl) ?_
            refine x_get hx hb hts hown V inX6 0 rfl rfl 4 (by decide) tw_145 rfl rfl dX6_apart_52 ?_
            refine lv_aload hx hb dX6_apart_55 (lv_at hl 1 rfl) ?_
            refine lv_iload_n hx hb dX6_apart_57 rfl (lv_at hl 4 rfl) ?_
            refine lv_aload hx hb dX6_apart_58 (lv_at hl 1 rfl) ?_
            refine lv_iload_n hx hb dX6_apart_60 rfl (lv_at hl 5 rfl) ?_
            obtain ⟨r15, hr15, hj⟩ := bd_some hj
            refine x_midI (w0 := Bw tc xo xa ad f g nT nH t) (wr := rest) V (x_runV (n := 1) (rest := [.int v2, .ref (ad 6), .ref (ad 0)]) C V _ (mid_map _ _ _) (mid_nd _ _) (k_X1_callsWith l D tc ad ta us T sh u v3 hr15) tw_495 tw_496 tw_497 tw_3 tw_498 (by decide +kernel) ⟨Nat.le_trans (Nat.le_of_ble_eq_true rfl) hRf, Nat.le_trans (Nat.le_of_ble_eq_true rfl) hRl⟩ ⟨Nat.zero_le _, Nat.zero_le _⟩ 9 1 rfl rfl rfl hl.1 rfl (Nat.le_of_ble_eq_true rfl) dX6_apart_61) (fun H locs V zr15 => ?_)
            replace V : Wd D tc A s H locs (Bw tc xo xa ad f g nT nH t ++ (Fw tc ad ta us T sh u ++ rest)) := V
            obtain ⟨⟨r16, u17⟩, hr16, hj⟩ := bd_some hj
            refine x_midI (w0 := Bw tc xo xa ad f g nT nH t) (wr := rest) V (x_runV (n := 3) (rest := []) C V _ (mid_map _ _ _) (mid_nd _ _) (k_X4_takes l D tc ad ta us T sh u v2 r15 hr16) tw_337 tw_338 tw_339 tw_2 tw_340 (by decide +kernel) ⟨Nat.le_trans (Nat.le_of_ble_eq_true rfl) hRf, Nat.le_trans (Nat.le_of_ble_eq_true rfl) hRl⟩ ⟨Nat.zero_le _, Nat.zero_le _⟩ 3 3 rfl rfl rfl hl.1 rfl (Nat.le_of_ble_eq_true rfl) dX6_apart_64) (fun H locs V zr16 => ?_)
            replace V : Wd D tc A s H locs (Bw tc xo xa ad f g nT nH t ++ (Fw tc ad ta us T (ad 6) u17 ++ rest)) := V
            refine lv_if_eq (tgt := 74) hx hb dX6_apart_67 (by decide) (fun c18 => ?_) (fun c18 => ?_)
            · replace hj := ip _ c18 hj
              refine lv_iconst (v := 0) hx hb dX6_apart_74 (by decide) ?_
              exact hret ((0 : Int32), t, u17, (ad 6)) hj rfl V dX6_apart_75
            · replace hj := iq _ c18 hj
              refine lv_iconst (v := 1) hx hb dX6_apart_70 (by decide) ?_
              refine lv_goto (tgt := 75) hx hb dX6_apart_71 (by decide) ?_
              exact hret ((1 : Int32), t, u17, (ad 6)) hj rfl V dX6_apart_75
          · replace hj := ip _ c14 hj
            refine lv_iconst (v := (-1)) hx hb dX6_apart_49 (by decide) ?_
            exact hret ((-1 : Int32), t, u, sh) hj rfl V dX6_apart_50
    · replace hj := iq _ c10 hj
      refine lv_iconst (v := 1) hx hb dX6_apart_16 (by decide) ?_
      refine lv_goto (tgt := 21) hx hb dX6_apart_17 (by decide) ?_
      refine lv_istore (lv' := [(5, .int (1 : Int32)), (4, .ref (ad 6)), (0, .ref xo), (1, .int v1), (2, .int v2), (3, .int v3)]) hx hb dX6_apart_21 hl (by decide) rfl (fun ls hl => ?_)
      refine lv_aload hx hb dX6_apart_23 (lv_at hl 1 rfl) ?_
      refine lv_ifnull hx hb dX6_apart_25 ?_
      refine lv_iload_n hx hb dX6_apart_28 rfl (lv_at hl 4 rfl) ?_
      obtain ⟨r19, hr19, hj⟩ := bd_some hj
      refine x_allI V _ (rg_map _) (x_runS (n := 1) (rest := []) C V _ (rg_map _) (rg_nd _) (k_X6_isRule l D tc (Bw tc xo xa ad f g nT nH t ++ (Fw tc ad ta us T sh u ++ rest)) v2 hr19) tw_310 tw_311 tw_1 tw_312 (by decide +kernel) ⟨Nat.le_trans (Nat.le_of_ble_eq_true rfl) hRf, Nat.le_trans (Nat.le_of_ble_eq_true rfl) hRl⟩ ⟨Nat.zero_le _, Nat.zero_le _⟩ rfl hl.1 rfl (Nat.le_of_ble_eq_true rfl) dX6_apart_29) (fun H locs V zr19 => ?_)
      replace V : Wd D tc A s H locs (Bw tc xo xa ad f g nT nH t ++ (Fw tc ad ta us T sh u ++ rest)) := V
      refine lv_if_eq (tgt := 49) hx hb dX6_apart_32 (by decide) (fun c20 => ?_) (fun c20 => ?_)
      · replace hj := ip _ c20 hj
        refine lv_iconst (v := (-1)) hx hb dX6_apart_49 (by decide) ?_
        exact hret ((-1 : Int32), t, u, sh) hj rfl V dX6_apart_50
      · replace hj := iq _ c20 hj
        refine lv_aload hx hb dX6_apart_35 (lv_at hl 1 rfl) ?_
        refine x_get hx hb hts hown V inX1 9 rfl rfl 0 (by decide) tw_38 rfl rfl dX6_apart_37 ?_
        refine lv_iconst (v := 5) hx hb dX6_apart_40 (by decide) ?_
        refine lv_icmp_ne (tgt := 49) hx hb dX6_apart_41 (by decide) (fun c21 => ?_) (fun c21 => ?_)
        · replace hj := iq _ c21 hj
          refine lv_iconst (v := (-1)) hx hb dX6_apart_49 (by decide) ?_
          exact hret ((-1 : Int32), t, u, sh) hj rfl V dX6_apart_50
        · replace hj := ip _ c21 hj
          refine lv_iload hx hb dX6_apart_44 (lv_at hl 0 rfl) ?_
          refine lv_if_ne (tgt := 51) hx hb dX6_apart_46 (by decide) (fun c22 => ?_) (fun c22 => ?_)
          · replace hj := iq _ c22 hj
            refine lv_aload_n hx hb dX6_apart_51 rfl (lv_at hl 2 rfl) ?_
            refine x_get hx hb hts hown V inX6 0 rfl rfl 4 (by decide) tw_145 rfl rfl dX6_apart_52 ?_
            refine lv_aload hx hb dX6_apart_55 (lv_at hl 1 rfl) ?_
            refine lv_iload_n hx hb dX6_apart_57 rfl (lv_at hl 4 rfl) ?_
            refine lv_aload hx hb dX6_apart_58 (lv_at hl 1 rfl) ?_
            refine lv_iload_n hx hb dX6_apart_60 rfl (lv_at hl 5 rfl) ?_
            obtain ⟨r23, hr23, hj⟩ := bd_some hj
            refine x_midI (w0 := Bw tc xo xa ad f g nT nH t) (wr := rest) V (x_runV (n := 1) (rest := [.int v2, .ref (ad 6), .ref (ad 0)]) C V _ (mid_map _ _ _) (mid_nd _ _) (k_X1_callsWith l D tc ad ta us T sh u v3 hr23) tw_495 tw_496 tw_497 tw_3 tw_498 (by decide +kernel) ⟨Nat.le_trans (Nat.le_of_ble_eq_true rfl) hRf, Nat.le_trans (Nat.le_of_ble_eq_true rfl) hRl⟩ ⟨Nat.zero_le _, Nat.zero_le _⟩ 9 1 rfl rfl rfl hl.1 rfl (Nat.le_of_ble_eq_true rfl) dX6_apart_61) (fun H locs V zr23 => ?_)
            replace V : Wd D tc A s H locs (Bw tc xo xa ad f g nT nH t ++ (Fw tc ad ta us T sh u ++ rest)) := V
            obtain ⟨⟨r24, u25⟩, hr24, hj⟩ := bd_some hj
            refine x_midI (w0 := Bw tc xo xa ad f g nT nH t) (wr := rest) V (x_runV (n := 3) (rest := []) C V _ (mid_map _ _ _) (mid_nd _ _) (k_X4_takes l D tc ad ta us T sh u v2 r23 hr24) tw_337 tw_338 tw_339 tw_2 tw_340 (by decide +kernel) ⟨Nat.le_trans (Nat.le_of_ble_eq_true rfl) hRf, Nat.le_trans (Nat.le_of_ble_eq_true rfl) hRl⟩ ⟨Nat.zero_le _, Nat.zero_le _⟩ 3 3 rfl rfl rfl hl.1 rfl (Nat.le_of_ble_eq_true rfl) dX6_apart_64) (fun H locs V zr24 => ?_)
            replace V : Wd D tc A s H locs (Bw tc xo xa ad f g nT nH t ++ (Fw tc ad ta us T (ad 6) u25 ++ rest)) := V
            refine lv_if_eq (tgt := 74) hx hb dX6_apart_67 (by decide) (fun c26 => ?_) (fun c26 => ?_)
            · replace hj := ip _ c26 hj
              refine lv_iconst (v := 0) hx hb dX6_apart_74 (by decide) ?_
              exact hret ((0 : Int32), t, u25, (ad 6)) hj rfl V dX6_apart_75
            · replace hj := iq _ c26 hj
              refine lv_iconst (v := 1) hx hb dX6_apart_70 (by decide) ?_
              refine lv_goto (tgt := 75) hx hb dX6_apart_71 (by decide) ?_
              exact hret ((1 : Int32), t, u25, (ad 6)) hj rfl V dX6_apart_75
          · replace hj := ip _ c22 hj
            refine lv_iconst (v := (-1)) hx hb dX6_apart_49 (by decide) ?_
            exact hret ((-1 : Int32), t, u, sh) hj rfl V dX6_apart_50)

def q_X6_rules_Y_17 (T : TbT) (a6 : Nat) (k_17 : (Nat → Int32) → St → Nat → Int32 → Int32 → Option (Int32 × (Nat → Int32) × St × Nat)) (t : Nat → Int32) (u : St) (sh : Nat) (v3 : Int32) (v4 : Int32) : Option (Int32 × (Nat → Int32) × St × Nat) :=
  if (3 : Int32) ≤ v4 then some (v3, t, u, sh) else (j_X1_allCalls u).bind (fun r2 => (j_X4_takes T u v4 r2).bind (fun ⟨r3, u4⟩ => if r3 = (0 : Int32) then nm (v4 + 1) (fun x6 => k_17 t u4 a6 v3 x6) else nm (v3 ||| ((1 : Int32) <<< (v4 &&& 31))) (fun x7 => nm (v4 + 1) (fun x8 => k_17 t u4 a6 x7 x8))))
set_option maxHeartbeats 4000000 in
set_option maxRecDepth 100000 in
theorem b_X6_rules_Y_17 {p : Program} {l : Launch} {e : Env} {R : Room} {s : State} {m : MethodId} {args : Array Value} {below : List Frame} {meth : Method} {c : Code} {A : Nat → Prop} {Q : State → Prop} {D : va_G} {tc : Nat → ClassId} (xo : Nat) (xa ad ta : Nat → Nat) (us : Int32) (T : TbT) (f g : Nat → Option Nat) (nT nH : Int32) (rest : va_W) (hRf : 19 ≤ R.frames) (hRl : 538 ≤ R.locals) (C : Cx p s m args meth c cX6_rules 5 RX6 (some .int)) {x0 : Int32 × (Nat → Int32) × St × Nat} (hret : RetI p l e R s m args below meth c Q cX6_rules D tc A .int (some x0) (fun x : Int32 × (Nat → Int32) × St × Nat => x.1) (fun x : Int32 × (Nat → Int32) × St × Nat => Bw tc xo xa ad f g nT nH x.2.1 ++ (Fw tc ad ta us T x.2.2.2 x.2.2.1 ++ rest))) (k_17 : (Nat → Int32) → St → Nat → Int32 → Int32 → Option (Int32 × (Nat → Int32) × St × Nat)) (hk_17 : ∀ (t : Nat → Int32) (u : St) (sh : Nat) (v3 : Int32) (v4 : Int32), k_17 t u sh v3 v4 = some x0 → ∀ (H : Heap) (locs : List Loc) (ls : Array Slot), Wd D tc A s H locs (Bw tc xo xa ad f g nT nH t ++ (Fw tc ad ta us T sh u ++ rest)) → lv_has ls 5 [(0, .ref xo), (2, .ref (ad 6)), (3, .int v3), (4, .int v4)] → W p l e R s m args below meth c H locs 0 0 Q (F0 m 17 ls [])) : ∀ (t : Nat → Int32) (u : St) (sh : Nat) (v3 : Int32) (v4 : Int32), q_X6_rules_Y_17 T (ad 6) k_17 t u sh v3 v4 = some x0 → ∀ (H : Heap) (locs : List Loc) (ls : Array Slot), Wd D tc A s H locs (Bw tc xo xa ad f g nT nH t ++ (Fw tc ad ta us T sh u ++ rest)) → lv_has ls 5 [(0, .ref xo), (2, .ref (ad 6)), (3, .int v3), (4, .int v4)] → W p l e R s m args below meth c H locs 0 0 Q (F0 m 17 ls []) := by
  obtain ⟨hx, hb, hr, hml, hown, hts, hlk, hN⟩ := id C
  intro t u sh v3 v4 hj H locs ls V hl
  unfold q_X6_rules_Y_17 at hj
  refine lv_iload hx hb dX6_rules_17 (lv_at hl 3 rfl) ?_
  refine lv_iconst (v := 3) hx hb dX6_rules_19 (by decide) ?_
  refine lv_icmp_ge (tgt := 53) hx hb dX6_rules_20 (by decide) (fun c1 => ?_) (fun c1 => ?_)
  · replace hj := ip _ c1 hj
    refine lv_iload_n hx hb dX6_rules_53 rfl (lv_at hl 2 rfl) ?_
    exact hret (v3, t, u, sh) hj rfl V dX6_rules_54
  · replace hj := iq _ c1 hj
    refine lv_aload_n hx hb dX6_rules_23 rfl (lv_at hl 0 rfl) ?_
    refine x_get hx hb hts hown V inX6 0 rfl rfl 4 (by decide) tw_145 rfl rfl dX6_rules_24 ?_
    refine lv_aload_n hx hb dX6_rules_27 rfl (lv_at hl 1 rfl) ?_
    refine lv_iload hx hb dX6_rules_28 (lv_at hl 3 rfl) ?_
    refine lv_aload_n hx hb dX6_rules_30 rfl (lv_at hl 1 rfl) ?_
    obtain ⟨r2, hr2, hj⟩ := bd_some hj
    refine x_midI (w0 := Bw tc xo xa ad f g nT nH t) (wr := rest) V (x_runV (n := 0) (rest := [.int v4, .ref (ad 6), .ref (ad 0)]) C V _ (mid_map _ _ _) (mid_nd _ _) (k_X1_allCalls l D tc ad ta us T sh u hr2) tw_313 tw_314 tw_315 tw_3 tw_316 (by decide +kernel) ⟨Nat.le_trans (Nat.le_of_ble_eq_true rfl) hRf, Nat.le_trans (Nat.le_of_ble_eq_true rfl) hRl⟩ ⟨Nat.zero_le _, Nat.zero_le _⟩ 9 1 rfl rfl rfl hl.1 rfl (Nat.le_of_ble_eq_true rfl) dX6_rules_31) (fun H locs V zr2 => ?_)
    replace V : Wd D tc A s H locs (Bw tc xo xa ad f g nT nH t ++ (Fw tc ad ta us T sh u ++ rest)) := V
    obtain ⟨⟨r3, u4⟩, hr3, hj⟩ := bd_some hj
    refine x_midI (w0 := Bw tc xo xa ad f g nT nH t) (wr := rest) V (x_runV (n := 3) (rest := []) C V _ (mid_map _ _ _) (mid_nd _ _) (k_X4_takes l D tc ad ta us T sh u v4 r2 hr3) tw_337 tw_338 tw_339 tw_2 tw_340 (by decide +kernel) ⟨Nat.le_trans (Nat.le_of_ble_eq_true rfl) hRf, Nat.le_trans (Nat.le_of_ble_eq_true rfl) hRl⟩ ⟨Nat.zero_le _, Nat.zero_le _⟩ 3 3 rfl rfl rfl hl.1 rfl (Nat.le_of_ble_eq_true rfl) dX6_rules_34) (fun H locs V zr3 => ?_)
    replace V : Wd D tc A s H locs (Bw tc xo xa ad f g nT nH t ++ (Fw tc ad ta us T (ad 6) u4 ++ rest)) := V
    refine lv_if_eq (tgt := 47) hx hb dX6_rules_37 (by decide) (fun c5 => ?_) (fun c5 => ?_)
    · replace hj := ip _ c5 hj
      obtain ⟨x6, ex6, hj⟩ := nm_some hj
      refine lv_iinc (v := x6) (lv' := [(4, .int x6), (0, .ref xo), (2, .ref (ad 6)), (3, .int v3)]) hx hb dX6_rules_47 hl (k := 3) rfl (by rw [ex6]; rfl) (by decide) rfl (fun ls hl => ?_)
      refine lv_goto (tgt := 17) hx hb dX6_rules_50 (by decide) ?_
      exact hk_17 t u4 (ad 6) v3 x6 hj _ _ _ V (lv_sub hl [1, 2, 3, 0] rfl)
    · replace hj := iq _ c5 hj
      refine lv_iload_n hx hb dX6_rules_40 rfl (lv_at hl 2 rfl) ?_
      refine lv_iconst (v := 1) hx hb dX6_rules_41 (by decide) ?_
      refine lv_iload hx hb dX6_rules_42 (lv_at hl 3 rfl) ?_
      refine lv_ishl hx hb dX6_rules_44 ?_
      refine lv_ior hx hb dX6_rules_45 ?_
      obtain ⟨x7, ex7, hj⟩ := nm_some hj
      refine x_topi ex7 ?_
      refine lv_istore_n (lv' := [(3, .int x7), (0, .ref xo), (2, .ref (ad 6)), (4, .int v4)]) hx hb dX6_rules_46 rfl hl (by decide) rfl (fun ls hl => ?_)
      obtain ⟨x8, ex8, hj⟩ := nm_some hj
      refine lv_iinc (v := x8) (lv' := [(4, .int x8), (3, .int x7), (0, .ref xo), (2, .ref (ad 6))]) hx hb dX6_rules_47 hl (k := 3) rfl (by rw [ex8]; rfl) (by decide) rfl (fun ls hl => ?_)
      refine lv_goto (tgt := 17) hx hb dX6_rules_50 (by decide) ?_
      exact hk_17 t u4 (ad 6) x7 x8 hj _ _ _ V (lv_sub hl [2, 3, 1, 0] rfl)
def j_X6_rules_Y_17 (T : TbT) (a6 : Nat) : Nat → (Nat → Int32) → St → Nat → Int32 → Int32 → Option (Int32 × (Nat → Int32) × St × Nat)
  | 0 => fun _ _ _ _ _ => none
  | n + 1 => q_X6_rules_Y_17 T a6 (j_X6_rules_Y_17 T a6 n)
theorem lp_X6_rules_Y_17 {p : Program} {l : Launch} {e : Env} {R : Room} {s : State} {m : MethodId} {args : Array Value} {below : List Frame} {meth : Method} {c : Code} {A : Nat → Prop} {Q : State → Prop} {D : va_G} {tc : Nat → ClassId} (xo : Nat) (xa ad ta : Nat → Nat) (us : Int32) (T : TbT) (f g : Nat → Option Nat) (nT nH : Int32) (rest : va_W) (hRf : 19 ≤ R.frames) (hRl : 538 ≤ R.locals) (C : Cx p s m args meth c cX6_rules 5 RX6 (some .int)) {x0 : Int32 × (Nat → Int32) × St × Nat} (hret : RetI p l e R s m args below meth c Q cX6_rules D tc A .int (some x0) (fun x : Int32 × (Nat → Int32) × St × Nat => x.1) (fun x : Int32 × (Nat → Int32) × St × Nat => Bw tc xo xa ad f g nT nH x.2.1 ++ (Fw tc ad ta us T x.2.2.2 x.2.2.1 ++ rest)))  : ∀ (n : Nat), ∀ (t : Nat → Int32) (u : St) (sh : Nat) (v3 : Int32) (v4 : Int32), j_X6_rules_Y_17 T (ad 6) n t u sh v3 v4 = some x0 → ∀ (H : Heap) (locs : List Loc) (ls : Array Slot), Wd D tc A s H locs (Bw tc xo xa ad f g nT nH t ++ (Fw tc ad ta us T sh u ++ rest)) → lv_has ls 5 [(0, .ref xo), (2, .ref (ad 6)), (3, .int v3), (4, .int v4)] → W p l e R s m args below meth c H locs 0 0 Q (F0 m 17 ls []) := by
  intro n
  induction n with
  | zero =>
    intro t u sh v3 v4 hj
    have hj : (none : Option (Int32 × (Nat → Int32) × St × Nat)) = some x0 := hj
    cases hj
  | succ n ih =>
    intro t u sh v3 v4 hj
    exact b_X6_rules_Y_17 xo xa ad ta us T f g nT nH rest hRf hRl C hret   (j_X6_rules_Y_17 T (ad 6) n) ih t u sh v3 v4 hj
def j_X6_rules_Y (T : TbT) (a6 : Nat) (t : Nat → Int32) (u : St) (sh : Nat) (v1 : Int32) : Option (Int32 × (Nat → Int32) × St × Nat) :=
  j_X6_rules_Y_17 T a6 100 t u sh (0 : Int32) (0 : Int32)
set_option maxHeartbeats 4000000 in
set_option maxRecDepth 100000 in
theorem k_X6_rules_Y (l : Launch) (D : va_G) (tc : Nat → ClassId) (xo : Nat) (xa ad ta : Nat → Nat) (us : Int32) (T : TbT) (f g : Nat → Option Nat) (nT nH : Int32) (rest : va_W) (t : Nat → Int32) (u : St) (sh : Nat) (v1 : Int32) (hfd : FY nH g (ad 6) v1) {x0 : Int32 × (Nat → Int32) × St × Nat} (hj : j_X6_rules_Y T (ad 6) t u sh v1 = some x0) : MetD l D tc yX6_rules cX6_rules 5 (some .int) 19 538 [.ref xo, .int v1] (Bw tc xo xa ad f g nT nH t ++ (Fw tc ad ta us T sh u ++ rest)) (some (.int x0.1)) (Bw tc xo xa ad f g nT nH x0.2.1 ++ (Fw tc ad ta us T x0.2.2.2 x0.2.2.1 ++ rest)) :=
  x_entI (fun x : Int32 × (Nat → Int32) × St × Nat => x.1) (fun x : Int32 × (Nat → Int32) × St × Nat => Bw tc xo xa ad f g nT nH x.2.1 ++ (Fw tc ad ta us T x.2.2.2 x.2.2.1 ++ rest)) (by decide) (own := RX6) rfl (Nat.le_of_ble_eq_true rfl) (fun p e s m args below meth c A Q ls C V hl hret => by
  obtain ⟨hx, hb, hr, hml, hown, hts, hlk, hN⟩ := id C
  have hRf : 19 ≤ (rmz 19 0 0 538).frames := Nat.le_refl _
  have hRl : 538 ≤ (rmz 19 0 0 538).locals := Nat.le_refl _
  generalize (rmz 19 0 0 538) = R at hret hRf hRl ⊢
  generalize s.heap = H at V ⊢
  generalize ([] : List Loc) = locs at V ⊢
  have hl : lv_has ls 5 [(0, .ref xo), (1, .int v1)] := hl
  unfold j_X6_rules_Y at hj
  refine lv_aload_n hx hb dX6_rules_0 rfl (lv_at hl 0 rfl) ?_
  refine lv_iload_n hx hb dX6_rules_1 rfl (lv_at hl 1 rfl) ?_
  refine x_allR V _ (rg_map _) (x_runV (n := 1) (rest := []) C V _ (rg_map _) (rg_nd _) (kY_historyOf l D tc xo xa ad f g nT nH t (Fw tc ad ta us T sh u ++ rest) v1 hfd) tw_227 tw_229 tp_2 tw_1 tw_230 (by decide +kernel) ⟨Nat.le_trans (Nat.le_of_ble_eq_true rfl) hRf, Nat.le_trans (Nat.le_of_ble_eq_true rfl) hRl⟩ ⟨Nat.zero_le _, Nat.zero_le _⟩ 0 5 rfl rfl rfl hl.1 rfl (Nat.le_of_ble_eq_true rfl) dX6_rules_2) (fun H locs V => ?_)
  replace V : Wd D tc A s H locs (Bw tc xo xa ad f g nT nH t ++ (Fw tc ad ta us T sh u ++ rest)) := V
  refine lv_astore_n (lv' := [(2, .ref (ad 6)), (0, .ref xo), (1, .int v1)]) hx hb dX6_rules_5 rfl hl (by decide) rfl (fun ls hl => ?_)
  refine lv_aload_n hx hb dX6_rules_6 rfl (lv_at hl 0 rfl) ?_
  refine lv_ifnonnull (tgt := 12) hx hb dX6_rules_7 (by decide) ?_
  refine lv_iconst (v := 0) hx hb dX6_rules_12 (by decide) ?_
  refine lv_istore_n (lv' := [(3, .int (0 : Int32)), (2, .ref (ad 6)), (0, .ref xo), (1, .int v1)]) hx hb dX6_rules_13 rfl hl (by decide) rfl (fun ls hl => ?_)
  refine lv_iconst (v := 0) hx hb dX6_rules_14 (by decide) ?_
  refine lv_istore (lv' := [(4, .int (0 : Int32)), (3, .int (0 : Int32)), (2, .ref (ad 6)), (0, .ref xo), (1, .int v1)]) hx hb dX6_rules_15 hl (by decide) rfl (fun ls hl => ?_)
  exact lp_X6_rules_Y_17 xo xa ad ta us T f g nT nH rest hRf hRl C hret   100 t u sh (0 : Int32) (0 : Int32) hj _ _ _ V (lv_sub hl [3, 2, 1, 0] rfl))

def j_X6_check_Y (T : TbT) (a6 : Nat) (t : Nat → Int32) (u : St) (sh : Nat) (v1 : Int32) (v2 : Int32) : Option (Int32 × (Nat → Int32) × St × Nat) :=
  (j_X6_isRule v2).bind (fun r1 => if r1 = (0 : Int32) then some ((-1 : Int32), t, u, sh) else nm (t 43) (fun x3 => nm (upd t 43 (0 : Int32)) (fun t4 => (j_X4_firstFault T u v2 x3).bind (fun ⟨r5, u6⟩ => some (r5, t4, u6, a6)))))
set_option maxHeartbeats 4000000 in
set_option maxRecDepth 100000 in
theorem k_X6_check_Y (l : Launch) (D : va_G) (tc : Nat → ClassId) (xo : Nat) (xa ad ta : Nat → Nat) (us : Int32) (T : TbT) (f g : Nat → Option Nat) (nT nH : Int32) (rest : va_W) (t : Nat → Int32) (u : St) (sh : Nat) (v1 : Int32) (v2 : Int32) (hfd : FY nH g (ad 6) v1) {x0 : Int32 × (Nat → Int32) × St × Nat} (hj : j_X6_check_Y T (ad 6) t u sh v1 v2 = some x0) : MetD l D tc yX6_check cX6_check 5 (some .int) 6 141 [.ref xo, .int v1, .int v2] (Bw tc xo xa ad f g nT nH t ++ (Fw tc ad ta us T sh u ++ rest)) (some (.int x0.1)) (Bw tc xo xa ad f g nT nH x0.2.1 ++ (Fw tc ad ta us T x0.2.2.2 x0.2.2.1 ++ rest)) :=
  x_entI (fun x : Int32 × (Nat → Int32) × St × Nat => x.1) (fun x : Int32 × (Nat → Int32) × St × Nat => Bw tc xo xa ad f g nT nH x.2.1 ++ (Fw tc ad ta us T x.2.2.2 x.2.2.1 ++ rest)) (by decide) (own := RX6) rfl (Nat.le_of_ble_eq_true rfl) (fun p e s m args below meth c A Q ls C V hl hret => by
  obtain ⟨hx, hb, hr, hml, hown, hts, hlk, hN⟩ := id C
  have hRf : 6 ≤ (rmz 6 0 0 141).frames := Nat.le_refl _
  have hRl : 141 ≤ (rmz 6 0 0 141).locals := Nat.le_refl _
  generalize (rmz 6 0 0 141) = R at hret hRf hRl ⊢
  generalize s.heap = H at V ⊢
  generalize ([] : List Loc) = locs at V ⊢
  have hl : lv_has ls 5 [(0, .ref xo), (1, .int v1), (2, .int v2)] := hl
  unfold j_X6_check_Y at hj
  refine lv_aload_n hx hb dX6_check_0 rfl (lv_at hl 0 rfl) ?_
  refine lv_iload_n hx hb dX6_check_1 rfl (lv_at hl 1 rfl) ?_
  refine x_allR V _ (rg_map _) (x_runV (n := 1) (rest := []) C V _ (rg_map _) (rg_nd _) (kY_historyOf l D tc xo xa ad f g nT nH t (Fw tc ad ta us T sh u ++ rest) v1 hfd) tw_227 tw_229 tp_2 tw_1 tw_230 (by decide +kernel) ⟨Nat.le_trans (Nat.le_of_ble_eq_true rfl) hRf, Nat.le_trans (Nat.le_of_ble_eq_true rfl) hRl⟩ ⟨Nat.zero_le _, Nat.zero_le _⟩ 0 5 rfl rfl rfl hl.1 rfl (Nat.le_of_ble_eq_true rfl) dX6_check_2) (fun H locs V => ?_)
  replace V : Wd D tc A s H locs (Bw tc xo xa ad f g nT nH t ++ (Fw tc ad ta us T sh u ++ rest)) := V
  refine lv_astore_n (lv' := [(3, .ref (ad 6)), (0, .ref xo), (1, .int v1), (2, .int v2)]) hx hb dX6_check_5 rfl hl (by decide) rfl (fun ls hl => ?_)
  refine lv_aload_n hx hb dX6_check_6 rfl (lv_at hl 0 rfl) ?_
  refine lv_ifnull hx hb dX6_check_7 ?_
  refine lv_iload_n hx hb dX6_check_10 rfl (lv_at hl 3 rfl) ?_
  obtain ⟨r1, hr1, hj⟩ := bd_some hj
  refine x_allI V _ (rg_map _) (x_runS (n := 1) (rest := []) C V _ (rg_map _) (rg_nd _) (k_X6_isRule l D tc (Bw tc xo xa ad f g nT nH t ++ (Fw tc ad ta us T sh u ++ rest)) v2 hr1) tw_310 tw_311 tw_1 tw_312 (by decide +kernel) ⟨Nat.le_trans (Nat.le_of_ble_eq_true rfl) hRf, Nat.le_trans (Nat.le_of_ble_eq_true rfl) hRl⟩ ⟨Nat.zero_le _, Nat.zero_le _⟩ rfl hl.1 rfl (Nat.le_of_ble_eq_true rfl) dX6_check_11) (fun H locs V zr1 => ?_)
  replace V : Wd D tc A s H locs (Bw tc xo xa ad f g nT nH t ++ (Fw tc ad ta us T sh u ++ rest)) := V
  refine lv_if_ne (tgt := 19) hx hb dX6_check_14 (by decide) (fun c2 => ?_) (fun c2 => ?_)
  · replace hj := iq _ c2 hj
    refine lv_aload_n hx hb dX6_check_19 rfl (lv_at hl 1 rfl) ?_
    refine x_get hx hb hts hown V inX6 0 rfl rfl 8 (by decide) tw_149 rfl rfl dX6_check_20 ?_
    obtain ⟨x3, ex3, hj⟩ := nm_some hj
    refine x_topi ex3 ?_
    refine lv_istore (lv' := [(4, .int x3), (3, .ref (ad 6)), (0, .ref xo), (1, .int v1), (2, .int v2)]) hx hb dX6_check_23 hl (by decide) rfl (fun ls hl => ?_)
    refine lv_aload_n hx hb dX6_check_25 rfl (lv_at hl 2 rfl) ?_
    refine lv_iconst (v := 0) hx hb dX6_check_26 (by decide) ?_
    refine x_put hx hb hts hown V inX6 tyX6_ok nmX6 0 rfl rfl 8 (by decide) tw_149 rfl rfl rfl rfl (Nat.le_of_ble_eq_true rfl) dX6_check_27 (fun H locs V => ?_)
    obtain ⟨t4, et4, hj⟩ := nm_some hj
    replace V : Wd D tc A s H locs (Bw tc xo xa ad f g nT nH t4 ++ (Fw tc ad ta us T sh u ++ rest)) := by rw [et4]; exact V
    refine lv_aload_n hx hb dX6_check_30 rfl (lv_at hl 2 rfl) ?_
    refine x_get hx hb hts hown V inX6 0 rfl rfl 4 (by decide) tw_145 rfl rfl dX6_check_31 ?_
    refine lv_aload_n hx hb dX6_check_34 rfl (lv_at hl 1 rfl) ?_
    refine lv_iload_n hx hb dX6_check_35 rfl (lv_at hl 4 rfl) ?_
    refine lv_aload_n hx hb dX6_check_36 rfl (lv_at hl 2 rfl) ?_
    refine x_get hx hb hts hown V inX6 0 rfl rfl 7 (by decide) tw_148 rfl rfl dX6_check_37 ?_
    refine lv_iload hx hb dX6_check_40 (lv_at hl 0 rfl) ?_
    obtain ⟨⟨r5, u6⟩, hr5, hj⟩ := bd_some hj
    refine x_midI (w0 := Bw tc xo xa ad f g nT nH t4) (wr := rest) V (x_runV (n := 4) (rest := []) C V _ (mid_map _ _ _) (mid_nd _ _) (k_X4_firstFault l D tc ad ta us T sh u v2 x3 hr5) tw_511 tw_512 tw_513 tw_2 tw_514 (by decide +kernel) ⟨Nat.le_trans (Nat.le_of_ble_eq_true rfl) hRf, Nat.le_trans (Nat.le_of_ble_eq_true rfl) hRl⟩ ⟨Nat.zero_le _, Nat.zero_le _⟩ 3 3 rfl rfl rfl hl.1 rfl (Nat.le_of_ble_eq_true rfl) dX6_check_42) (fun H locs V zr5 => ?_)
    replace V : Wd D tc A s H locs (Bw tc xo xa ad f g nT nH t4 ++ (Fw tc ad ta us T (ad 6) u6 ++ rest)) := V
    exact hret (r5, t4, u6, (ad 6)) hj rfl V dX6_check_45
  · replace hj := ip _ c2 hj
    refine lv_iconst (v := (-1)) hx hb dX6_check_17 (by decide) ?_
    exact hret ((-1 : Int32), t, u, sh) hj rfl V dX6_check_18)
