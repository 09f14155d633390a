def Mw (tc : Nat → ClassId) (o : Nat) (ad : Nat → Nat) (u : St) : va_W := [(o, .inr (6, [.int (u.1 0), .ref (ad 1), .ref (ad 2), .int (u.1 3), .int (u.1 4), .ref (ad 5), .ref (ad 6), .ref (ad 7), .ref (ad 8), .ref (ad 9), .ref (ad 10), .ref (ad 11), .ref (ad 12), .ref (ad 13), .ref (ad 14), .ref (ad 15), .int (u.1 16), .ref (ad 17), .ref (ad 18), .ref (ad 19), .ref (ad 20), .int (u.1 21), .long (u.2.2 22 0), .int (u.1 23), .int (u.1 24), .ref (ad 25), .int (u.1 26), .int (u.1 27), .ref (ad 28), .int (u.1 29)])), (ad 1, .inl (tc 0, 128, .inl (u.2.1 1))), (ad 2, .inl (tc 0, 128, .inl (u.2.1 2))), (ad 5, .inl (tc 0, 12, .inl (u.2.1 5))), (ad 6, .inl (tc 0, 12, .inl (u.2.1 6))), (ad 7, .inl (tc 0, 12, .inl (u.2.1 7))), (ad 8, .inl (tc 0, 12, .inl (u.2.1 8))), (ad 9, .inl (tc 0, 120, .inl (u.2.1 9))), (ad 10, .inl (tc 0, 120, .inl (u.2.1 10))), (ad 11, .inl (tc 0, 120, .inl (u.2.1 11))), (ad 12, .inl (tc 0, 120, .inl (u.2.1 12))), (ad 13, .inl (tc 0, 120, .inl (u.2.1 13))), (ad 14, .inl (tc 0, 120, .inl (u.2.1 14))), (ad 15, .inl (tc 0, 120, .inl (u.2.1 15))), (ad 17, .inl (tc 0, 132, .inl (u.2.1 17))), (ad 18, .inl (tc 0, 11, .inl (u.2.1 18))), (ad 19, .inl (tc 0, 11, .inl (u.2.1 19))), (ad 20, .inl (tc 0, 10, .inl (u.2.1 20))), (ad 25, .inl (tc 0, 8000, .inl (u.2.1 25))), (ad 28, .inl (tc 0, 10, .inl (u.2.1 28)))]
def j_X7_in (v0 : Int32) (v1 : Int32) (v2 : Int32) : Option (Int32) :=
  if v0 < v1 then some (0 : Int32) else if v2 < v0 then some (0 : Int32) else some (1 : Int32)
set_option maxHeartbeats 4000000 in
set_option maxRecDepth 100000 in
theorem k_X7_in (l : Launch) (D : va_G) (tc : Nat → ClassId) (ws : va_W) (v0 : Int32) (v1 : Int32) (v2 : Int32) {x0 : Int32} (hj : j_X7_in v0 v1 v2 = some x0) : MetD l D tc yX7_in cX7_in 3 (some .boolean) 0 0 [.int v0, .int v1, .int v2] (ws) (some (.int x0)) (ws) :=
  x_entI (fun x : Int32 => x) (fun _ : Int32 => ws) (by decide) (own := RX7) rfl (Nat.le_of_ble_eq_true rfl) (fun p e s m args below meth c A Q ls C V hl hret => by
  obtain ⟨hx, hb, hr, hml, hown, hts, hlk, hN⟩ := id C
  have hRf : 0 ≤ (rmz 0 0 0 0).frames := Nat.le_refl _
  have hRl : 0 ≤ (rmz 0 0 0 0).locals := Nat.le_refl _
  generalize (rmz 0 0 0 0) = R at hret hRf hRl ⊢
  generalize s.heap = H at V ⊢
  generalize ([] : List Loc) = locs at V ⊢
  have hl : lv_has ls 3 [(0, .int v0), (1, .int v1), (2, .int v2)] := hl
  unfold j_X7_in at hj
  refine lv_iload_n hx hb dX7_in_0 rfl (lv_at hl 0 rfl) ?_
  refine lv_iload_n hx hb dX7_in_1 rfl (lv_at hl 1 rfl) ?_
  refine lv_icmp_lt (tgt := 14) hx hb dX7_in_2 (by decide) (fun c1 => ?_) (fun c1 => ?_)
  · replace hj := ip _ c1 hj
    refine lv_iconst (v := 0) hx hb dX7_in_14 (by decide) ?_
    exact hret (0 : Int32) hj zn_0 V dX7_in_15
  · replace hj := iq _ c1 hj
    refine lv_iload_n hx hb dX7_in_5 rfl (lv_at hl 0 rfl) ?_
    refine lv_iload_n hx hb dX7_in_6 rfl (lv_at hl 2 rfl) ?_
    refine lv_icmp_gt (tgt := 14) hx hb dX7_in_7 (by decide) (fun c2 => ?_) (fun c2 => ?_)
    · replace hj := ip _ c2 hj
      refine lv_iconst (v := 0) hx hb dX7_in_14 (by decide) ?_
      exact hret (0 : Int32) hj zn_0 V dX7_in_15
    · replace hj := iq _ c2 hj
      refine lv_iconst (v := 1) hx hb dX7_in_10 (by decide) ?_
      refine lv_goto (tgt := 15) hx hb dX7_in_11 (by decide) ?_
      exact hret (1 : Int32) hj zn_1 V dX7_in_15)

def j_X7_isRule (v0 : Int32) : Option (Int32) :=
  (j_X7_in v0 (0 : Int32) (2 : Int32)).bind (fun r1 => some r1)
set_option maxHeartbeats 4000000 in
set_option maxRecDepth 100000 in
theorem k_X7_isRule (l : Launch) (D : va_G) (tc : Nat → ClassId) (ws : va_W) (v0 : Int32) {x0 : Int32} (hj : j_X7_isRule v0 = some x0) : MetD l D tc yX7_isRule cX7_isRule 1 (some .boolean) 1 22 [.int v0] (ws) (some (.int x0)) (ws) :=
  x_entI (fun x : Int32 => x) (fun _ : Int32 => ws) (by decide) (own := RX7) rfl (Nat.le_of_ble_eq_true rfl) (fun p e s m args below meth c A Q ls C V hl hret => by
  obtain ⟨hx, hb, hr, hml, hown, hts, hlk, hN⟩ := id C
  have hRf : 1 ≤ (rmz 1 0 0 22).frames := Nat.le_refl _
  have hRl : 22 ≤ (rmz 1 0 0 22).locals := Nat.le_refl _
  generalize (rmz 1 0 0 22) = R at hret hRf hRl ⊢
  generalize s.heap = H at V ⊢
  generalize ([] : List Loc) = locs at V ⊢
  have hl : lv_has ls 1 [(0, .int v0)] := hl
  unfold j_X7_isRule at hj
  refine lv_iload_n hx hb dX7_isRule_0 rfl (lv_at hl 0 rfl) ?_
  refine lv_iconst (v := 0) hx hb dX7_isRule_1 (by decide) ?_
  refine lv_iconst (v := 2) hx hb dX7_isRule_2 (by decide) ?_
  obtain ⟨r1, hr1, hj⟩ := bd_some hj
  refine x_allI V _ (rg_map _) (x_runS (n := 3) (rest := []) C V _ (rg_map _) (rg_nd _) (k_X7_in l D tc (ws) v0 (0 : Int32) (2 : Int32) hr1) tw_619 tw_620 tw_6 tw_621 (by decide +kernel) ⟨Nat.le_trans (Nat.le_of_ble_eq_true rfl) hRf, Nat.le_trans (Nat.le_of_ble_eq_true rfl) hRl⟩ ⟨Nat.zero_le _, Nat.zero_le _⟩ rfl hl.1 rfl (Nat.le_of_ble_eq_true rfl) dX7_isRule_3) (fun H locs V zr1 => ?_)
  replace V : Wd D tc A s H locs (ws) := V
  exact hret r1 hj zr1 V dX7_isRule_6)

def j_X7_actsOf (v0 : Int32) : Option (Int32) :=
  if v0 = (1 : Int32) then some (2 : Int32) else if v0 = (2 : Int32) then some (2 : Int32) else if v0 = (3 : Int32) then some (2 : Int32) else if v0 = (6 : Int32) then some (4 : Int32) else some (3 : Int32)
set_option maxHeartbeats 4000000 in
set_option maxRecDepth 100000 in
theorem k_X7_actsOf (l : Launch) (D : va_G) (tc : Nat → ClassId) (ws : va_W) (v0 : Int32) {x0 : Int32} (hj : j_X7_actsOf v0 = some x0) : MetD l D tc yX7_actsOf cX7_actsOf 1 (some .int) 0 0 [.int v0] (ws) (some (.int x0)) (ws) :=
  x_entI (fun x : Int32 => x) (fun _ : Int32 => ws) (by decide) (own := RX7) rfl (Nat.le_of_ble_eq_true rfl) (fun p e s m args below meth c A Q ls C V hl hret => by
  obtain ⟨hx, hb, hr, hml, hown, hts, hlk, hN⟩ := id C
  have hRf : 0 ≤ (rmz 0 0 0 0).frames := Nat.le_refl _
  have hRl : 0 ≤ (rmz 0 0 0 0).locals := Nat.le_refl _
  generalize (rmz 0 0 0 0) = R at hret hRf hRl ⊢
  generalize s.heap = H at V ⊢
  generalize ([] : List Loc) = locs at V ⊢
  have hl : lv_has ls 1 [(0, .int v0)] := hl
  unfold j_X7_actsOf at hj
  refine lv_iload_n hx hb dX7_actsOf_0 rfl (lv_at hl 0 rfl) ?_
  refine lv_iconst (v := 1) hx hb dX7_actsOf_1 (by decide) ?_
  refine lv_icmp_eq (tgt := 15) hx hb dX7_actsOf_2 (by decide) (fun c1 => ?_) (fun c1 => ?_)
  · replace hj := ip _ c1 hj
    refine lv_iconst (v := 2) hx hb dX7_actsOf_15 (by decide) ?_
    refine lv_goto (tgt := 30) hx hb dX7_actsOf_16 (by decide) ?_
    exact hret (2 : Int32) hj rfl V dX7_actsOf_30
  · replace hj := iq _ c1 hj
    refine lv_iload_n hx hb dX7_actsOf_5 rfl (lv_at hl 0 rfl) ?_
    refine lv_iconst (v := 2) hx hb dX7_actsOf_6 (by decide) ?_
    refine lv_icmp_eq (tgt := 15) hx hb dX7_actsOf_7 (by decide) (fun c2 => ?_) (fun c2 => ?_)
    · replace hj := ip _ c2 hj
      refine lv_iconst (v := 2) hx hb dX7_actsOf_15 (by decide) ?_
      refine lv_goto (tgt := 30) hx hb dX7_actsOf_16 (by decide) ?_
      exact hret (2 : Int32) hj rfl V dX7_actsOf_30
    · replace hj := iq _ c2 hj
      refine lv_iload_n hx hb dX7_actsOf_10 rfl (lv_at hl 0 rfl) ?_
      refine lv_iconst (v := 3) hx hb dX7_actsOf_11 (by decide) ?_
      refine lv_icmp_ne (tgt := 19) hx hb dX7_actsOf_12 (by decide) (fun c3 => ?_) (fun c3 => ?_)
      · replace hj := iq _ c3 hj
        refine lv_iload_n hx hb dX7_actsOf_19 rfl (lv_at hl 0 rfl) ?_
        refine lv_bipush (v := 6) hx hb dX7_actsOf_20 (by decide) ?_
        refine lv_icmp_ne (tgt := 29) hx hb dX7_actsOf_22 (by decide) (fun c4 => ?_) (fun c4 => ?_)
        · replace hj := iq _ c4 hj
          refine lv_iconst (v := 3) hx hb dX7_actsOf_29 (by decide) ?_
          exact hret (3 : Int32) hj rfl V dX7_actsOf_30
        · replace hj := ip _ c4 hj
          refine lv_iconst (v := 4) hx hb dX7_actsOf_25 (by decide) ?_
          refine lv_goto (tgt := 30) hx hb dX7_actsOf_26 (by decide) ?_
          exact hret (4 : Int32) hj rfl V dX7_actsOf_30
      · replace hj := ip _ c3 hj
        refine lv_iconst (v := 2) hx hb dX7_actsOf_15 (by decide) ?_
        refine lv_goto (tgt := 30) hx hb dX7_actsOf_16 (by decide) ?_
        exact hret (2 : Int32) hj rfl V dX7_actsOf_30)

def j_X7_machine (u : St) : Option (Int32 × St) :=
  if (u.1 3) = (4 : Int32) then some ((-4 : Int32), u) else nm (sI u 3 ((u.1 3) + (1 : Int32))) (fun u2 => some ((u2.1 3) - (1 : Int32), u2))
set_option maxHeartbeats 4000000 in
set_option maxRecDepth 100000 in
theorem k_X7_machine (l : Launch) (D : va_G) (tc : Nat → ClassId) (o : Nat) (ad : Nat → Nat) (u : St) {x0 : Int32 × St} (hj : j_X7_machine u = some x0) : MetD l D tc yX7_machine cX7_machine 1 (some .int) 0 0 [.ref o] (Mw tc o ad u) (some (.int x0.1)) (Mw tc o ad x0.2) :=
  x_entI (fun x : Int32 × St => x.1) (fun x : Int32 × St => Mw tc o ad x.2) (by decide) (own := RX7) rfl (Nat.le_of_ble_eq_true rfl) (fun p e s m args below meth c A Q ls C V hl hret => by
  obtain ⟨hx, hb, hr, hml, hown, hts, hlk, hN⟩ := id C
  have hRf : 0 ≤ (rmz 0 0 0 0).frames := Nat.le_refl _
  have hRl : 0 ≤ (rmz 0 0 0 0).locals := Nat.le_refl _
  generalize (rmz 0 0 0 0) = R at hret hRf hRl ⊢
  generalize s.heap = H at V ⊢
  generalize ([] : List Loc) = locs at V ⊢
  have hl : lv_has ls 1 [(0, .ref o)] := hl
  unfold j_X7_machine at hj
  refine lv_aload_n hx hb dX7_machine_0 rfl (lv_at hl 0 rfl) ?_
  refine x_get hx hb hts hown V inX7 0 rfl rfl 3 (by decide) tw_523 rfl rfl dX7_machine_1 ?_
  refine lv_iconst (v := 4) hx hb dX7_machine_4 (by decide) ?_
  refine lv_icmp_ne (tgt := 11) hx hb dX7_machine_5 (by decide) (fun c1 => ?_) (fun c1 => ?_)
  · replace hj := iq _ c1 hj
    refine lv_aload_n hx hb dX7_machine_11 rfl (lv_at hl 0 rfl) ?_
    refine lv_dup hx hb dX7_machine_12 rfl ?_
    refine x_get hx hb hts hown V inX7 0 rfl rfl 3 (by decide) tw_523 rfl rfl dX7_machine_13 ?_
    refine lv_iconst (v := 1) hx hb dX7_machine_16 (by decide) ?_
    refine lv_iadd hx hb dX7_machine_17 ?_
    refine x_put hx hb hts hown V inX7 tyX7_ok nmX7 0 rfl rfl 3 (by decide) tw_523 rfl rfl rfl rfl (Nat.le_of_ble_eq_true rfl) dX7_machine_18 (fun H locs V => ?_)
    obtain ⟨u2, eu2, hj⟩ := nm_some hj
    replace V : Wd D tc A s H locs (Mw tc o ad u2) := by rw [eu2]; exact V
    refine lv_aload_n hx hb dX7_machine_21 rfl (lv_at hl 0 rfl) ?_
    refine x_get hx hb hts hown V inX7 0 rfl rfl 3 (by decide) tw_523 rfl rfl dX7_machine_22 ?_
    refine lv_iconst (v := 1) hx hb dX7_machine_25 (by decide) ?_
    refine lv_isub hx hb dX7_machine_26 ?_
    exact hret ((u2.1 3) - (1 : Int32), u2) hj rfl V dX7_machine_27
  · replace hj := ip _ c1 hj
    refine lv_bipush (v := (-4)) hx hb dX7_machine_8 (by decide) ?_
    exact hret ((-4 : Int32), u) hj rfl V dX7_machine_10)

def j_X7_isHistory (u : St) (v1 : Int32) : Option (Int32) :=
  (j_X7_in v1 (0 : Int32) ((u.1 4) - (1 : Int32))).bind (fun r1 => some r1)
set_option maxHeartbeats 4000000 in
set_option maxRecDepth 100000 in
theorem k_X7_isHistory (l : Launch) (D : va_G) (tc : Nat → ClassId) (o : Nat) (ad : Nat → Nat) (u : St) (v1 : Int32) {x0 : Int32} (hj : j_X7_isHistory u v1 = some x0) : MetD l D tc yX7_isHistory cX7_isHistory 2 (some .boolean) 1 22 [.ref o, .int v1] (Mw tc o ad u) (some (.int x0)) (Mw tc o ad u) :=
  x_entI (fun x : Int32 => x) (fun _ : Int32 => Mw tc o ad u) (by decide) (own := RX7) rfl (Nat.le_of_ble_eq_true rfl) (fun p e s m args below meth c A Q ls C V hl hret => by
  obtain ⟨hx, hb, hr, hml, hown, hts, hlk, hN⟩ := id C
  have hRf : 1 ≤ (rmz 1 0 0 22).frames := Nat.le_refl _
  have hRl : 22 ≤ (rmz 1 0 0 22).locals := Nat.le_refl _
  generalize (rmz 1 0 0 22) = R at hret hRf hRl ⊢
  generalize s.heap = H at V ⊢
  generalize ([] : List Loc) = locs at V ⊢
  have hl : lv_has ls 2 [(0, .ref o), (1, .int v1)] := hl
  unfold j_X7_isHistory at hj
  refine lv_iload_n hx hb dX7_isHistory_0 rfl (lv_at hl 1 rfl) ?_
  refine lv_iconst (v := 0) hx hb dX7_isHistory_1 (by decide) ?_
  refine lv_aload_n hx hb dX7_isHistory_2 rfl (lv_at hl 0 rfl) ?_
  refine x_get hx hb hts hown V inX7 0 rfl rfl 4 (by decide) tw_524 rfl rfl dX7_isHistory_3 ?_
  refine lv_iconst (v := 1) hx hb dX7_isHistory_6 (by decide) ?_
  refine lv_isub hx hb dX7_isHistory_7 ?_
  obtain ⟨r1, hr1, hj⟩ := bd_some hj
  refine x_allI V _ (rg_map _) (x_runS (n := 3) (rest := []) C V _ (rg_map _) (rg_nd _) (k_X7_in l D tc (Mw tc o ad u) v1 (0 : Int32) ((u.1 4) - (1 : Int32)) hr1) tw_619 tw_620 tw_6 tw_621 (by decide +kernel) ⟨Nat.le_trans (Nat.le_of_ble_eq_true rfl) hRf, Nat.le_trans (Nat.le_of_ble_eq_true rfl) hRl⟩ ⟨Nat.zero_le _, Nat.zero_le _⟩ rfl hl.1 rfl (Nat.le_of_ble_eq_true rfl) dX7_isHistory_8) (fun H locs V zr1 => ?_)
  replace V : Wd D tc A s H locs (Mw tc o ad u) := V
  exact hret r1 hj zr1 V dX7_isHistory_11)

def j_X7_isCall (u : St) (v1 : Int32) (v2 : Int32) : Option (Int32) :=
  (j_X7_isHistory u v1).bind (fun r1 => if r1 = (0 : Int32) then some (0 : Int32) else gd v1 12 ((j_X7_in v2 (0 : Int32) ((u.2.1 7 v1.toNatClampNeg) - (1 : Int32))).bind (fun r4 => if r4 = (0 : Int32) then some (0 : Int32) else some (1 : Int32))))
set_option maxHeartbeats 4000000 in
set_option maxRecDepth 100000 in
theorem k_X7_isCall (l : Launch) (D : va_G) (tc : Nat → ClassId) (o : Nat) (ad : Nat → Nat) (u : St) (v1 : Int32) (v2 : Int32) {x0 : Int32} (hj : j_X7_isCall u v1 v2 = some x0) : MetD l D tc yX7_isCall cX7_isCall 3 (some .boolean) 2 43 [.ref o, .int v1, .int v2] (Mw tc o ad u) (some (.int x0)) (Mw tc o ad u) :=
  x_entI (fun x : Int32 => x) (fun _ : Int32 => Mw tc o ad u) (by decide) (own := RX7) rfl (Nat.le_of_ble_eq_true rfl) (fun p e s m args below meth c A Q ls C V hl hret => by
  obtain ⟨hx, hb, hr, hml, hown, hts, hlk, hN⟩ := id C
  have hRf : 2 ≤ (rmz 2 0 0 43).frames := Nat.le_refl _
  have hRl : 43 ≤ (rmz 2 0 0 43).locals := Nat.le_refl _
  generalize (rmz 2 0 0 43) = R at hret hRf hRl ⊢
  generalize s.heap = H at V ⊢
  generalize ([] : List Loc) = locs at V ⊢
  have hl : lv_has ls 3 [(0, .ref o), (1, .int v1), (2, .int v2)] := hl
  unfold j_X7_isCall at hj
  refine lv_aload_n hx hb dX7_isCall_0 rfl (lv_at hl 0 rfl) ?_
  refine lv_iload_n hx hb dX7_isCall_1 rfl (lv_at hl 1 rfl) ?_
  obtain ⟨r1, hr1, hj⟩ := bd_some hj
  refine x_allI V _ (rg_map _) (x_runV (n := 1) (rest := []) C V _ (rg_map _) (rg_nd _) (k_X7_isHistory l D tc o ad u v1 hr1) tw_630 tw_632 tp_10 tw_6 tw_633 (by decide +kernel) ⟨Nat.le_trans (Nat.le_of_ble_eq_true rfl) hRf, Nat.le_trans (Nat.le_of_ble_eq_true rfl) hRl⟩ ⟨Nat.zero_le _, Nat.zero_le _⟩ 0 6 rfl rfl rfl hl.1 rfl (Nat.le_of_ble_eq_true rfl) dX7_isCall_2) (fun H locs V zr1 => ?_)
  replace V : Wd D tc A s H locs (Mw tc o ad u) := V
  refine lv_if_eq (tgt := 28) hx hb dX7_isCall_5 (by decide) (fun c2 => ?_) (fun c2 => ?_)
  · replace hj := ip _ c2 hj
    refine lv_iconst (v := 0) hx hb dX7_isCall_28 (by decide) ?_
    exact hret (0 : Int32) hj zn_0 V dX7_isCall_29
  · replace hj := iq _ c2 hj
    refine lv_iload_n hx hb dX7_isCall_8 rfl (lv_at hl 2 rfl) ?_
    refine lv_iconst (v := 0) hx hb dX7_isCall_9 (by decide) ?_
    refine lv_aload_n hx hb dX7_isCall_10 rfl (lv_at hl 0 rfl) ?_
    refine x_get hx hb hts hown V inX7 0 rfl rfl 7 (by decide) tw_527 rfl rfl dX7_isCall_11 ?_
    refine lv_iload_n hx hb dX7_isCall_14 rfl (lv_at hl 1 rfl) ?_
    obtain ⟨i3, hj⟩ := gd_some hj
    refine x_iald hx hb V 5 rfl i3 dX7_isCall_15 ?_
    refine lv_iconst (v := 1) hx hb dX7_isCall_16 (by decide) ?_
    refine lv_isub hx hb dX7_isCall_17 ?_
    obtain ⟨r4, hr4, hj⟩ := bd_some hj
    refine x_allI V _ (rg_map _) (x_runS (n := 3) (rest := []) C V _ (rg_map _) (rg_nd _) (k_X7_in l D tc (Mw tc o ad u) v2 (0 : Int32) ((u.2.1 7 v1.toNatClampNeg) - (1 : Int32)) hr4) tw_619 tw_620 tw_6 tw_621 (by decide +kernel) ⟨Nat.le_trans (Nat.le_of_ble_eq_true rfl) hRf, Nat.le_trans (Nat.le_of_ble_eq_true rfl) hRl⟩ ⟨Nat.zero_le _, Nat.zero_le _⟩ rfl hl.1 rfl (Nat.le_of_ble_eq_true rfl) dX7_isCall_18) (fun H locs V zr4 => ?_)
    replace V : Wd D tc A s H locs (Mw tc o ad u) := V
    refine lv_if_eq (tgt := 28) hx hb dX7_isCall_21 (by decide) (fun c5 => ?_) (fun c5 => ?_)
    · replace hj := ip _ c5 hj
      refine lv_iconst (v := 0) hx hb dX7_isCall_28 (by decide) ?_
      exact hret (0 : Int32) hj zn_0 V dX7_isCall_29
    · replace hj := iq _ c5 hj
      refine lv_iconst (v := 1) hx hb dX7_isCall_24 (by decide) ?_
      refine lv_goto (tgt := 29) hx hb dX7_isCall_25 (by decide) ?_
      exact hret (1 : Int32) hj zn_1 V dX7_isCall_29)

def j_X7_isOpen (u : St) (v1 : Int32) (v2 : Int32) : Option (Int32) :=
  gd (((10 : Int32) * v1) + v2) 120 (if (u.2.1 14 (((10 : Int32) * v1) + v2).toNatClampNeg) = (0 : Int32) then some (1 : Int32) else some (0 : Int32))
set_option maxHeartbeats 4000000 in
set_option maxRecDepth 100000 in
theorem k_X7_isOpen (l : Launch) (D : va_G) (tc : Nat → ClassId) (o : Nat) (ad : Nat → Nat) (u : St) (v1 : Int32) (v2 : Int32) {x0 : Int32} (hj : j_X7_isOpen u v1 v2 = some x0) : MetD l D tc yX7_isOpen cX7_isOpen 3 (some .boolean) 0 0 [.ref o, .int v1, .int v2] (Mw tc o ad u) (some (.int x0)) (Mw tc o ad u) :=
  x_entI (fun x : Int32 => x) (fun _ : Int32 => Mw tc o ad u) (by decide) (own := RX7) rfl (Nat.le_of_ble_eq_true rfl) (fun p e s m args below meth c A Q ls C V hl hret => by
  obtain ⟨hx, hb, hr, hml, hown, hts, hlk, hN⟩ := id C
  have hRf : 0 ≤ (rmz 0 0 0 0).frames := Nat.le_refl _
  have hRl : 0 ≤ (rmz 0 0 0 0).locals := Nat.le_refl _
  generalize (rmz 0 0 0 0) = R at hret hRf hRl ⊢
  generalize s.heap = H at V ⊢
  generalize ([] : List Loc) = locs at V ⊢
  have hl : lv_has ls 3 [(0, .ref o), (1, .int v1), (2, .int v2)] := hl
  unfold j_X7_isOpen at hj
  refine lv_aload_n hx hb dX7_isOpen_0 rfl (lv_at hl 0 rfl) ?_
  refine x_get hx hb hts hown V inX7 0 rfl rfl 14 (by decide) tw_534 rfl rfl dX7_isOpen_1 ?_
  refine lv_bipush (v := 10) hx hb dX7_isOpen_4 (by decide) ?_
  refine lv_iload_n hx hb dX7_isOpen_6 rfl (lv_at hl 1 rfl) ?_
  refine lv_imul hx hb dX7_isOpen_7 ?_
  refine lv_iload_n hx hb dX7_isOpen_8 rfl (lv_at hl 2 rfl) ?_
  refine lv_iadd hx hb dX7_isOpen_9 ?_
  obtain ⟨i1, hj⟩ := gd_some hj
  refine x_iald hx hb V 12 rfl i1 dX7_isOpen_10 ?_
  refine lv_if_ne (tgt := 18) hx hb dX7_isOpen_11 (by decide) (fun c2 => ?_) (fun c2 => ?_)
  · replace hj := iq _ c2 hj
    refine lv_iconst (v := 0) hx hb dX7_isOpen_18 (by decide) ?_
    exact hret (0 : Int32) hj zn_0 V dX7_isOpen_19
  · replace hj := ip _ c2 hj
    refine lv_iconst (v := 1) hx hb dX7_isOpen_14 (by decide) ?_
    refine lv_goto (tgt := 19) hx hb dX7_isOpen_15 (by decide) ?_
    exact hret (1 : Int32) hj zn_1 V dX7_isOpen_19)

def q_X7_row_52 (k_52 : St → Int32 → Int32 → Int32 → Int32 → Int32 → Int32 → Option (Int32 × St)) (u : St) (v1 : Int32) (v2 : Int32) (v3 : Int32) (v4 : Int32) (v5 : Int32) (v6 : Int32) : Option (Int32 × St) :=
  if (u.1 4) ≤ v6 then gd ((((32 : Int32) * v1) + ((4 : Int32) * v2)) + v3) 128 (nm (sA u 1 ((((32 : Int32) * v1) + ((4 : Int32) * v2)) + v3).toNatClampNeg v4) (fun u11 => gd ((((32 : Int32) * v1) + ((4 : Int32) * v2)) + v3) 128 (nm (sA u11 2 ((((32 : Int32) * v1) + ((4 : Int32) * v2)) + v3).toNatClampNeg v5) (fun u13 => some ((0 : Int32), u13))))) else gd v6 12 (if (u.2.1 5 v6.toNatClampNeg) = (6 : Int32) then gd v6 12 (if (u.2.1 6 v6.toNatClampNeg) = v1 then some ((-3 : Int32), u) else nm (v6 + 1) (fun x19 => k_52 u v1 v2 v3 v4 v5 x19)) else nm (v6 + 1) (fun x16 => k_52 u v1 v2 v3 v4 v5 x16))
set_option maxHeartbeats 4000000 in
set_option maxRecDepth 100000 in
theorem b_X7_row_52 {p : Program} {l : Launch} {e : Env} {R : Room} {s : State} {m : MethodId} {args : Array Value} {below : List Frame} {meth : Method} {c : Code} {A : Nat → Prop} {Q : State → Prop} {D : va_G} {tc : Nat → ClassId} (o : Nat) (ad : Nat → Nat) (hRf : 1 ≤ R.frames) (hRl : 22 ≤ R.locals) (C : Cx p s m args meth c cX7_row 7 RX7 (some .int)) {x0 : Int32 × St} (hret : RetI p l e R s m args below meth c Q cX7_row D tc A .int (some x0) (fun x : Int32 × St => x.1) (fun x : Int32 × St => Mw tc o ad x.2)) (k_52 : St → Int32 → Int32 → Int32 → Int32 → Int32 → Int32 → Option (Int32 × St)) (hk_52 : ∀ (u : St) (v1 : Int32) (v2 : Int32) (v3 : Int32) (v4 : Int32) (v5 : Int32) (v6 : Int32), k_52 u v1 v2 v3 v4 v5 v6 = some x0 → ∀ (H : Heap) (locs : List Loc) (ls : Array Slot), Wd D tc A s H locs (Mw tc o ad u) → lv_has ls 7 [(0, .ref o), (1, .int v1), (2, .int v2), (3, .int v3), (4, .int v4), (5, .int v5), (6, .int v6)] → W p l e R s m args below meth c H locs 0 0 Q (F0 m 52 ls [])) : ∀ (u : St) (v1 : Int32) (v2 : Int32) (v3 : Int32) (v4 : Int32) (v5 : Int32) (v6 : Int32), q_X7_row_52 k_52 u v1 v2 v3 v4 v5 v6 = some x0 → ∀ (H : Heap) (locs : List Loc) (ls : Array Slot), Wd D tc A s H locs (Mw tc o ad u) → lv_has ls 7 [(0, .ref o), (1, .int v1), (2, .int v2), (3, .int v3), (4, .int v4), (5, .int v5), (6, .int v6)] → W p l e R s m args below meth c H locs 0 0 Q (F0 m 52 ls []) := by
  obtain ⟨hx, hb, hr, hml, hown, hts, hlk, hN⟩ := id C
  intro u v1 v2 v3 v4 v5 v6 hj H locs ls V hl
  unfold q_X7_row_52 at hj
  refine lv_iload hx hb dX7_row_52 (lv_at hl 6 rfl) ?_
  refine lv_aload_n hx hb dX7_row_54 rfl (lv_at hl 0 rfl) ?_
  refine x_get hx hb hts hown V inX7 0 rfl rfl 4 (by decide) tw_524 rfl rfl dX7_row_55 ?_
  refine lv_icmp_ge (tgt := 93) hx hb dX7_row_58 (by decide) (fun c9 => ?_) (fun c9 => ?_)
  · replace hj := ip _ c9 hj
    refine lv_aload_n hx hb dX7_row_93 rfl (lv_at hl 0 rfl) ?_
    refine x_get hx hb hts hown V inX7 0 rfl rfl 1 (by decide) tw_521 rfl rfl dX7_row_94 ?_
    refine lv_bipush (v := 32) hx hb dX7_row_97 (by decide) ?_
    refine lv_iload_n hx hb dX7_row_99 rfl (lv_at hl 1 rfl) ?_
    refine lv_imul hx hb dX7_row_100 ?_
    refine lv_iconst (v := 4) hx hb dX7_row_101 (by decide) ?_
    refine lv_iload_n hx hb dX7_row_102 rfl (lv_at hl 2 rfl) ?_
    refine lv_imul hx hb dX7_row_103 ?_
    refine lv_iadd hx hb dX7_row_104 ?_
    refine lv_iload_n hx hb dX7_row_105 rfl (lv_at hl 3 rfl) ?_
    refine lv_iadd hx hb dX7_row_106 ?_
    refine lv_iload hx hb dX7_row_107 (lv_at hl 4 rfl) ?_
    obtain ⟨i10, hj⟩ := gd_some hj
    obtain ⟨u11, eu11, hj⟩ := nm_some hj
    refine x_iast hx hb V 1 rfl i10 dX7_row_109 (fun H locs V => ?_)
    replace V : Wd D tc A s H locs (Mw tc o ad u11) := by rw [eu11]; exact V
    refine lv_aload_n hx hb dX7_row_110 rfl (lv_at hl 0 rfl) ?_
    refine x_get hx hb hts hown V inX7 0 rfl rfl 2 (by decide) tw_522 rfl rfl dX7_row_111 ?_
    refine lv_bipush (v := 32) hx hb dX7_row_114 (by decide) ?_
    refine lv_iload_n hx hb dX7_row_116 rfl (lv_at hl 1 rfl) ?_
    refine lv_imul hx hb dX7_row_117 ?_
    refine lv_iconst (v := 4) hx hb dX7_row_118 (by decide) ?_
    refine lv_iload_n hx hb dX7_row_119 rfl (lv_at hl 2 rfl) ?_
    refine lv_imul hx hb dX7_row_120 ?_
    refine lv_iadd hx hb dX7_row_121 ?_
    refine lv_iload_n hx hb dX7_row_122 rfl (lv_at hl 3 rfl) ?_
    refine lv_iadd hx hb dX7_row_123 ?_
    refine lv_iload hx hb dX7_row_124 (lv_at hl 5 rfl) ?_
    obtain ⟨i12, hj⟩ := gd_some hj
    obtain ⟨u13, eu13, hj⟩ := nm_some hj
    refine x_iast hx hb V 2 rfl i12 dX7_row_126 (fun H locs V => ?_)
    replace V : Wd D tc A s H locs (Mw tc o ad u13) := by rw [eu13]; exact V
    refine lv_iconst (v := 0) hx hb dX7_row_127 (by decide) ?_
    exact hret ((0 : Int32), u13) hj rfl V dX7_row_128
  · replace hj := iq _ c9 hj
    refine lv_aload_n hx hb dX7_row_61 rfl (lv_at hl 0 rfl) ?_
    refine x_get hx hb hts hown V inX7 0 rfl rfl 5 (by decide) tw_525 rfl rfl dX7_row_62 ?_
    refine lv_iload hx hb dX7_row_65 (lv_at hl 6 rfl) ?_
    obtain ⟨i14, hj⟩ := gd_some hj
    refine x_iald hx hb V 3 rfl i14 dX7_row_67 ?_
    refine lv_bipush (v := 6) hx hb dX7_row_68 (by decide) ?_
    refine lv_icmp_ne (tgt := 87) hx hb dX7_row_70 (by decide) (fun c15 => ?_) (fun c15 => ?_)
    · replace hj := iq _ c15 hj
      obtain ⟨x16, ex16, hj⟩ := nm_some hj
      refine lv_iinc (v := x16) (lv' := [(6, .int x16), (0, .ref o), (1, .int v1), (2, .int v2), (3, .int v3), (4, .int v4), (5, .int v5)]) hx hb dX7_row_87 hl (k := 6) rfl (by rw [ex16]; rfl) (by decide) rfl (fun ls hl => ?_)
      refine lv_goto (tgt := 52) hx hb dX7_row_90 (by decide) ?_
      exact hk_52 u v1 v2 v3 v4 v5 x16 hj _ _ _ V (lv_sub hl [1, 2, 3, 4, 5, 6, 0] rfl)
    · replace hj := ip _ c15 hj
      refine lv_aload_n hx hb dX7_row_73 rfl (lv_at hl 0 rfl) ?_
      refine x_get hx hb hts hown V inX7 0 rfl rfl 6 (by decide) tw_526 rfl rfl dX7_row_74 ?_
      refine lv_iload hx hb dX7_row_77 (lv_at hl 6 rfl) ?_
      obtain ⟨i17, hj⟩ := gd_some hj
      refine x_iald hx hb V 4 rfl i17 dX7_row_79 ?_
      refine lv_iload_n hx hb dX7_row_80 rfl (lv_at hl 1 rfl) ?_
      refine lv_icmp_ne (tgt := 87) hx hb dX7_row_81 (by decide) (fun c18 => ?_) (fun c18 => ?_)
      · replace hj := iq _ c18 hj
        obtain ⟨x19, ex19, hj⟩ := nm_some hj
        refine lv_iinc (v := x19) (lv' := [(6, .int x19), (0, .ref o), (1, .int v1), (2, .int v2), (3, .int v3), (4, .int v4), (5, .int v5)]) hx hb dX7_row_87 hl (k := 6) rfl (by rw [ex19]; rfl) (by decide) rfl (fun ls hl => ?_)
        refine lv_goto (tgt := 52) hx hb dX7_row_90 (by decide) ?_
        exact hk_52 u v1 v2 v3 v4 v5 x19 hj _ _ _ V (lv_sub hl [1, 2, 3, 4, 5, 6, 0] rfl)
      · replace hj := ip _ c18 hj
        refine lv_bipush (v := (-3)) hx hb dX7_row_84 (by decide) ?_
        exact hret ((-3 : Int32), u) hj rfl V dX7_row_86
def j_X7_row_52  : Nat → St → Int32 → Int32 → Int32 → Int32 → Int32 → Int32 → Option (Int32 × St)
  | 0 => fun _ _ _ _ _ _ _ => none
  | n + 1 => q_X7_row_52  (j_X7_row_52  n)
theorem lp_X7_row_52 {p : Program} {l : Launch} {e : Env} {R : Room} {s : State} {m : MethodId} {args : Array Value} {below : List Frame} {meth : Method} {c : Code} {A : Nat → Prop} {Q : State → Prop} {D : va_G} {tc : Nat → ClassId} (o : Nat) (ad : Nat → Nat) (hRf : 1 ≤ R.frames) (hRl : 22 ≤ R.locals) (C : Cx p s m args meth c cX7_row 7 RX7 (some .int)) {x0 : Int32 × St} (hret : RetI p l e R s m args below meth c Q cX7_row D tc A .int (some x0) (fun x : Int32 × St => x.1) (fun x : Int32 × St => Mw tc o ad x.2))  : ∀ (n : Nat), ∀ (u : St) (v1 : Int32) (v2 : Int32) (v3 : Int32) (v4 : Int32) (v5 : Int32) (v6 : Int32), j_X7_row_52  n u v1 v2 v3 v4 v5 v6 = some x0 → ∀ (H : Heap) (locs : List Loc) (ls : Array Slot), Wd D tc A s H locs (Mw tc o ad u) → lv_has ls 7 [(0, .ref o), (1, .int v1), (2, .int v2), (3, .int v3), (4, .int v4), (5, .int v5), (6, .int v6)] → W p l e R s m args below meth c H locs 0 0 Q (F0 m 52 ls []) := by
  intro n
  induction n with
  | zero =>
    intro u v1 v2 v3 v4 v5 v6 hj
    have hj : (none : Option (Int32 × St)) = some x0 := hj
    cases hj
  | succ n ih =>
    intro u v1 v2 v3 v4 v5 v6 hj
    exact b_X7_row_52 o ad hRf hRl C hret   (j_X7_row_52  n) ih u v1 v2 v3 v4 v5 v6 hj
def j_X7_row (u : St) (v1 : Int32) (v2 : Int32) (v3 : Int32) (v4 : Int32) (v5 : Int32) : Option (Int32 × St) :=
  (j_X7_in v1 (0 : Int32) ((u.1 3) - (1 : Int32))).bind (fun r1 => if r1 = (0 : Int32) then some ((-1 : Int32), u) else (j_X7_in v2 (0 : Int32) (7 : Int32)).bind (fun r3 => if r3 = (0 : Int32) then some ((-2 : Int32), u) else (j_X7_in v3 (0 : Int32) (3 : Int32)).bind (fun r5 => if r5 = (0 : Int32) then some ((-2 : Int32), u) else (j_X7_in v5 (0 : Int32) (7 : Int32)).bind (fun r7 => if r7 = (0 : Int32) then some ((-2 : Int32), u) else j_X7_row_52  100 u v1 v2 v3 v4 v5 (0 : Int32)))))
set_option maxHeartbeats 4000000 in
set_option maxRecDepth 100000 in
theorem k_X7_row (l : Launch) (D : va_G) (tc : Nat → ClassId) (o : Nat) (ad : Nat → Nat) (u : St) (v1 : Int32) (v2 : Int32) (v3 : Int32) (v4 : Int32) (v5 : Int32) {x0 : Int32 × St} (hj : j_X7_row u v1 v2 v3 v4 v5 = some x0) : MetD l D tc yX7_row cX7_row 7 (some .int) 1 22 [.ref o, .int v1, .int v2, .int v3, .int v4, .int v5] (Mw tc o ad u) (some (.int x0.1)) (Mw tc o ad x0.2) :=
  x_entI (fun x : Int32 × St => x.1) (fun x : Int32 × St => Mw tc o ad x.2) (by decide) (own := RX7) rfl (Nat.le_of_ble_eq_true rfl) (fun p e s m args below meth c A Q ls C V hl hret => by
  obtain ⟨hx, hb, hr, hml, hown, hts, hlk, hN⟩ := id C
  have hRf : 1 ≤ (rmz 1 0 0 22).frames := Nat.le_refl _
  have hRl : 22 ≤ (rmz 1 0 0 22).locals := Nat.le_refl _
  generalize (rmz 1 0 0 22) = R at hret hRf hRl ⊢
  generalize s.heap = H at V ⊢
  generalize ([] : List Loc) = locs at V ⊢
  have hl : lv_has ls 7 [(0, .ref o), (1, .int v1), (2, .int v2), (3, .int v3), (4, .int v4), (5, .int v5)] := hl
  unfold j_X7_row at hj
  refine lv_iload_n hx hb dX7_row_0 rfl (lv_at hl 1 rfl) ?_
  refine lv_iconst (v := 0) hx hb dX7_row_1 (by decide) ?_
  refine lv_aload_n hx hb dX7_row_2 rfl (lv_at hl 0 rfl) ?_
  refine x_get hx hb hts hown V inX7 0 rfl rfl 3 (by decide) tw_523 rfl rfl dX7_row_3 ?_
  refine lv_iconst (v := 1) hx hb dX7_row_6 (by decide) ?_
  refine lv_isub hx hb dX7_row_7 ?_
  obtain ⟨r1, hr1, hj⟩ := bd_some hj
  refine x_allI V _ (rg_map _) (x_runS (n := 3) (rest := []) C V _ (rg_map _) (rg_nd _) (k_X7_in l D tc (Mw tc o ad u) v1 (0 : Int32) ((u.1 3) - (1 : Int32)) hr1) tw_619 tw_620 tw_6 tw_621 (by decide +kernel) ⟨Nat.le_trans (Nat.le_of_ble_eq_true rfl) hRf, Nat.le_trans (Nat.le_of_ble_eq_true rfl) hRl⟩ ⟨Nat.zero_le _, Nat.zero_le _⟩ rfl hl.1 rfl (Nat.le_of_ble_eq_true rfl) dX7_row_8) (fun H locs V zr1 => ?_)
  replace V : Wd D tc A s H locs (Mw tc o ad u) := V
  refine lv_if_ne (tgt := 16) hx hb dX7_row_11 (by decide) (fun c2 => ?_) (fun c2 => ?_)
  · replace hj := iq _ c2 hj
    refine lv_iload_n hx hb dX7_row_16 rfl (lv_at hl 2 rfl) ?_
    refine lv_iconst (v := 0) hx hb dX7_row_17 (by decide) ?_
    refine lv_bipush (v := 7) hx hb dX7_row_18 (by decide) ?_
    obtain ⟨r3, hr3, hj⟩ := bd_some hj
    refine x_allI V _ (rg_map _) (x_runS (n := 3) (rest := []) C V _ (rg_map _) (rg_nd _) (k_X7_in l D tc (Mw tc o ad u) v2 (0 : Int32) (7 : Int32) hr3) tw_619 tw_620 tw_6 tw_621 (by decide +kernel) ⟨Nat.le_trans (Nat.le_of_ble_eq_true rfl) hRf, Nat.le_trans (Nat.le_of_ble_eq_true rfl) hRl⟩ ⟨Nat.zero_le _, Nat.zero_le _⟩ rfl hl.1 rfl (Nat.le_of_ble_eq_true rfl) dX7_row_20) (fun H locs V zr3 => ?_)
    replace V : Wd D tc A s H locs (Mw tc o ad u) := V
    refine lv_if_eq (tgt := 46) hx hb dX7_row_23 (by decide) (fun c4 => ?_) (fun c4 => ?_)
    · replace hj := ip _ c4 hj
      refine lv_bipush (v := (-2)) hx hb dX7_row_46 (by decide) ?_
      exact hret ((-2 : Int32), u) hj rfl V dX7_row_48
    · replace hj := iq _ c4 hj
      refine lv_iload_n hx hb dX7_row_26 rfl (lv_at hl 3 rfl) ?_
      refine lv_iconst (v := 0) hx hb dX7_row_27 (by decide) ?_
      refine lv_iconst (v := 3) hx hb dX7_row_28 (by decide) ?_
      obtain ⟨r5, hr5, hj⟩ := bd_some hj
      refine x_allI V _ (rg_map _) (x_runS (n := 3) (rest := []) C V _ (rg_map _) (rg_nd _) (k_X7_in l D tc (Mw tc o ad u) v3 (0 : Int32) (3 : Int32) hr5) tw_619 tw_620 tw_6 tw_621 (by decide +kernel) ⟨Nat.le_trans (Nat.le_of_ble_eq_true rfl) hRf, Nat.le_trans (Nat.le_of_ble_eq_true rfl) hRl⟩ ⟨Nat.zero_le _, Nat.zero_le _⟩ rfl hl.1 rfl (Nat.le_of_ble_eq_true rfl) dX7_row_29) (fun H locs V zr5 => ?_)
      replace V : Wd D tc A s H locs (Mw tc o ad u) := V
      refine lv_if_eq (tgt := 46) hx hb dX7_row_32 (by decide) (fun c6 => ?_) (fun c6 => ?_)
      · replace hj := ip _ c6 hj
        refine lv_bipush (v := (-2)) hx hb dX7_row_46 (by decide) ?_
        exact hret ((-2 : Int32), u) hj rfl V dX7_row_48
      · replace hj := iq _ c6 hj
        refine lv_iload hx hb dX7_row_35 (lv_at hl 5 rfl) ?_
        refine lv_iconst (v := 0) hx hb dX7_row_37 (by decide) ?_
        refine lv_bipush (v := 7) hx hb dX7_row_38 (by decide) ?_
        obtain ⟨r7, hr7, hj⟩ := bd_some hj
        refine x_allI V _ (rg_map _) (x_runS (n := 3) (rest := []) C V _ (rg_map _) (rg_nd _) (k_X7_in l D tc (Mw tc o ad u) v5 (0 : Int32) (7 : Int32) hr7) tw_619 tw_620 tw_6 tw_621 (by decide +kernel) ⟨Nat.le_trans (Nat.le_of_ble_eq_true rfl) hRf, Nat.le_trans (Nat.le_of_ble_eq_true rfl) hRl⟩ ⟨Nat.zero_le _, Nat.zero_le _⟩ rfl hl.1 rfl (Nat.le_of_ble_eq_true rfl) dX7_row_40) (fun H locs V zr7 => ?_)
        replace V : Wd D tc A s H locs (Mw tc o ad u) := V
        refine lv_if_ne (tgt := 49) hx hb dX7_row_43 (by decide) (fun c8 => ?_) (fun c8 => ?_)
        · replace hj := iq _ c8 hj
          refine lv_iconst (v := 0) hx hb dX7_row_49 (by decide) ?_
          refine lv_istore (lv' := [(6, .int (0 : Int32)), (0, .ref o), (1, .int v1), (2, .int v2), (3, .int v3), (4, .int v4), (5, .int v5)]) hx hb dX7_row_50 hl (by decide) rfl (fun ls hl => ?_)
          exact lp_X7_row_52 o ad hRf hRl C hret   100 u v1 v2 v3 v4 v5 (0 : Int32) hj _ _ _ V (lv_sub hl [1, 2, 3, 4, 5, 6, 0] rfl)
        · replace hj := ip _ c8 hj
          refine lv_bipush (v := (-2)) hx hb dX7_row_46 (by decide) ?_
          exact hret ((-2 : Int32), u) hj rfl V dX7_row_48
  · replace hj := ip _ c2 hj
    refine lv_iconst (v := (-1)) hx hb dX7_row_14 (by decide) ?_
    exact hret ((-1 : Int32), u) hj rfl V dX7_row_15)

def j_X7_history (u : St) (v1 : Int32) (v2 : Int32) : Option (Int32 × St) :=
  (j_X7_in v1 (0 : Int32) (6 : Int32)).bind (fun r1 => if r1 = (0 : Int32) then some ((-1 : Int32), u) else if v1 = (6 : Int32) then (j_X7_in v2 (0 : Int32) ((u.1 3) - (1 : Int32))).bind (fun r26 => if r26 = (0 : Int32) then some ((-1 : Int32), u) else if v1 = (6 : Int32) then if (u.1 4) = (12 : Int32) then some ((-4 : Int32), u) else gd (u.1 4) 12 (nm (sA u 5 (u.1 4).toNatClampNeg v1) (fun u31 => gd (u31.1 4) 12 (nm (sA u31 6 (u31.1 4).toNatClampNeg v2) (fun u33 => gd (u33.1 4) 12 (nm (sA u33 7 (u33.1 4).toNatClampNeg (0 : Int32)) (fun u35 => gd (u35.1 4) 12 (nm (sA u35 8 (u35.1 4).toNatClampNeg (0 : Int32)) (fun u37 => nm (sI u37 4 ((u37.1 4) + (1 : Int32))) (fun u38 => some ((u38.1 4) - (1 : Int32), u38)))))))))) else if v2 = (0 : Int32) then if (u.1 4) = (12 : Int32) then some ((-4 : Int32), u) else gd (u.1 4) 12 (nm (sA u 5 (u.1 4).toNatClampNeg v1) (fun u42 => gd (u42.1 4) 12 (nm (sA u42 6 (u42.1 4).toNatClampNeg v2) (fun u44 => gd (u44.1 4) 12 (nm (sA u44 7 (u44.1 4).toNatClampNeg (0 : Int32)) (fun u46 => gd (u46.1 4) 12 (nm (sA u46 8 (u46.1 4).toNatClampNeg (0 : Int32)) (fun u48 => nm (sI u48 4 ((u48.1 4) + (1 : Int32))) (fun u49 => some ((u49.1 4) - (1 : Int32), u49)))))))))) else some ((-2 : Int32), u)) else if v1 = (6 : Int32) then if (u.1 4) = (12 : Int32) then some ((-4 : Int32), u) else gd (u.1 4) 12 (nm (sA u 5 (u.1 4).toNatClampNeg v1) (fun u7 => gd (u7.1 4) 12 (nm (sA u7 6 (u7.1 4).toNatClampNeg v2) (fun u9 => gd (u9.1 4) 12 (nm (sA u9 7 (u9.1 4).toNatClampNeg (0 : Int32)) (fun u11 => gd (u11.1 4) 12 (nm (sA u11 8 (u11.1 4).toNatClampNeg (0 : Int32)) (fun u13 => nm (sI u13 4 ((u13.1 4) + (1 : Int32))) (fun u14 => some ((u14.1 4) - (1 : Int32), u14)))))))))) else if v2 = (0 : Int32) then if (u.1 4) = (12 : Int32) then some ((-4 : Int32), u) else gd (u.1 4) 12 (nm (sA u 5 (u.1 4).toNatClampNeg v1) (fun u18 => gd (u18.1 4) 12 (nm (sA u18 6 (u18.1 4).toNatClampNeg v2) (fun u20 => gd (u20.1 4) 12 (nm (sA u20 7 (u20.1 4).toNatClampNeg (0 : Int32)) (fun u22 => gd (u22.1 4) 12 (nm (sA u22 8 (u22.1 4).toNatClampNeg (0 : Int32)) (fun u24 => nm (sI u24 4 ((u24.1 4) + (1 : Int32))) (fun u25 => some ((u25.1 4) - (1 : Int32), u25)))))))))) else some ((-2 : Int32), u))
set_option maxHeartbeats 4000000 in
set_option maxRecDepth 100000 in
theorem k_X7_history (l : Launch) (D : va_G) (tc : Nat → ClassId) (o : Nat) (ad : Nat → Nat) (u : St) (v1 : Int32) (v2 : Int32) {x0 : Int32 × St} (hj : j_X7_history u v1 v2 = some x0) : MetD l D tc yX7_history cX7_history 3 (some .int) 1 22 [.ref o, .int v1, .int v2] (Mw tc o ad u) (some (.int x0.1)) (Mw tc o ad x0.2) :=
  x_entI (fun x : Int32 × St => x.1) (fun x : Int32 × St => Mw tc o ad x.2) (by decide) (own := RX7) rfl (Nat.le_of_ble_eq_true rfl) (fun p e s m args below meth c A Q ls C V hl hret => by
  obtain ⟨hx, hb, hr, hml, hown, hts, hlk, hN⟩ := id C
  have hRf : 1 ≤ (rmz 1 0 0 22).frames := Nat.le_refl _
  have hRl : 22 ≤ (rmz 1 0 0 22).locals := Nat.le_refl _
  generalize (rmz 1 0 0 22) = R at hret hRf hRl ⊢
  generalize s.heap = H at V ⊢
  generalize ([] : List Loc) = locs at V ⊢
  have hl : lv_has ls 3 [(0, .ref o), (1, .int v1), (2, .int v2)] := hl
  unfold j_X7_history at hj
  refine lv_iload_n hx hb dX7_history_0 rfl (lv_at hl 1 rfl) ?_
  refine lv_iconst (v := 0) hx hb dX7_history_1 (by decide) ?_
  refine lv_bipush (v := 6) hx hb dX7_history_2 (by decide) ?_
  obtain ⟨r1, hr1, hj⟩ := bd_some hj
  refine x_allI V _ (rg_map _) (x_runS (n := 3) (rest := []) C V _ (rg_map _) (rg_nd _) (k_X7_in l D tc (Mw tc o ad u) v1 (0 : Int32) (6 : Int32) hr1) tw_619 tw_620 tw_6 tw_621 (by decide +kernel) ⟨Nat.le_trans (Nat.le_of_ble_eq_true rfl) hRf, Nat.le_trans (Nat.le_of_ble_eq_true rfl) hRl⟩ ⟨Nat.zero_le _, Nat.zero_le _⟩ rfl hl.1 rfl (Nat.le_of_ble_eq_true rfl) dX7_history_4) (fun H locs V zr1 => ?_)
  replace V : Wd D tc A s H locs (Mw tc o ad u) := V
  refine lv_if_eq (tgt := 30) hx hb dX7_history_7 (by decide) (fun c2 => ?_) (fun c2 => ?_)
  · replace hj := ip _ c2 hj
    refine lv_iconst (v := (-1)) hx hb dX7_history_30 (by decide) ?_
    exact hret ((-1 : Int32), u) hj rfl V dX7_history_31
  · replace hj := iq _ c2 hj
    refine lv_iload_n hx hb dX7_history_10 rfl (lv_at hl 1 rfl) ?_
    refine lv_bipush (v := 6) hx hb dX7_history_11 (by decide) ?_
    refine lv_icmp_ne (tgt := 32) hx hb dX7_history_13 (by decide) (fun c3 => ?_) (fun c3 => ?_)
    · replace hj := iq _ c3 hj
      refine lv_iload_n hx hb dX7_history_32 rfl (lv_at hl 1 rfl) ?_
      refine lv_bipush (v := 6) hx hb dX7_history_33 (by decide) ?_
      refine lv_icmp_eq (tgt := 45) hx hb dX7_history_35 (by decide) (fun c4 => ?_) (fun c4 => ?_)
      · replace hj := ip _ c4 hj
        refine lv_aload_n hx hb dX7_history_45 rfl (lv_at hl 0 rfl) ?_
        refine x_get hx hb hts hown V inX7 0 rfl rfl 4 (by decide) tw_524 rfl rfl dX7_history_46 ?_
        refine lv_bipush (v := 12) hx hb dX7_history_49 (by decide) ?_
        refine lv_icmp_ne (tgt := 57) hx hb dX7_history_51 (by decide) (fun c5 => ?_) (fun c5 => ?_)
        · replace hj := iq _ c5 hj
          refine lv_aload_n hx hb dX7_history_57 rfl (lv_at hl 0 rfl) ?_
          refine x_get hx hb hts hown V inX7 0 rfl rfl 5 (by decide) tw_525 rfl rfl dX7_history_58 ?_
          refine lv_aload_n hx hb dX7_history_61 rfl (lv_at hl 0 rfl) ?_
          refine x_get hx hb hts hown V inX7 0 rfl rfl 4 (by decide) tw_524 rfl rfl dX7_history_62 ?_
          refine lv_iload_n hx hb dX7_history_65 rfl (lv_at hl 1 rfl) ?_
          obtain ⟨i6, hj⟩ := gd_some hj
          obtain ⟨u7, eu7, hj⟩ := nm_some hj
          refine x_iast hx hb V 3 rfl i6 dX7_history_66 (fun H locs V => ?_)
          replace V : Wd D tc A s H locs (Mw tc o ad u7) := by rw [eu7]; exact V
          refine lv_aload_n hx hb dX7_history_67 rfl (lv_at hl 0 rfl) ?_
          refine x_get hx hb hts hown V inX7 0 rfl rfl 6 (by decide) tw_526 rfl rfl dX7_history_68 ?_
          refine lv_aload_n hx hb dX7_history_71 rfl (lv_at hl 0 rfl) ?_
          refine x_get hx hb hts hown V inX7 0 rfl rfl 4 (by decide) tw_524 rfl rfl dX7_history_72 ?_
          refine lv_iload_n hx hb dX7_history_75 rfl (lv_at hl 2 rfl) ?_
          obtain ⟨i8, hj⟩ := gd_some hj
          obtain ⟨u9, eu9, hj⟩ := nm_some hj
          refine x_iast hx hb V 4 rfl i8 dX7_history_76 (fun H locs V => ?_)
          replace V : Wd D tc A s H locs (Mw tc o ad u9) := by rw [eu9]; exact V
          refine lv_aload_n hx hb dX7_history_77 rfl (lv_at hl 0 rfl) ?_
          refine x_get hx hb hts hown V inX7 0 rfl rfl 7 (by decide) tw_527 rfl rfl dX7_history_78 ?_
          refine lv_aload_n hx hb dX7_history_81 rfl (lv_at hl 0 rfl) ?_
          refine x_get hx hb hts hown V inX7 0 rfl rfl 4 (by decide) tw_524 rfl rfl dX7_history_82 ?_
          refine lv_iconst (v := 0) hx hb dX7_history_85 (by decide) ?_
          obtain ⟨i10, hj⟩ := gd_some hj
          obtain ⟨u11, eu11, hj⟩ := nm_some hj
          refine x_iast hx hb V 5 rfl i10 dX7_history_86 (fun H locs V => ?_)
          replace V : Wd D tc A s H locs (Mw tc o ad u11) := by rw [eu11]; exact V
          refine lv_aload_n hx hb dX7_history_87 rfl (lv_at hl 0 rfl) ?_
          refine x_get hx hb hts hown V inX7 0 rfl rfl 8 (by decide) tw_528 rfl rfl dX7_history_88 ?_
          refine lv_aload_n hx hb dX7_history_91 rfl (lv_at hl 0 rfl) ?_
          refine x_get hx hb hts hown V inX7 0 rfl rfl 4 (by decide) tw_524 rfl rfl dX7_history_92 ?_
          refine lv_iconst (v := 0) hx hb dX7_history_95 (by decide) ?_
          obtain ⟨i12, hj⟩ := gd_some hj
          obtain ⟨u13, eu13, hj⟩ := nm_some hj
          refine x_iast hx hb V 6 rfl i12 dX7_history_96 (fun H locs V => ?_)
          replace V : Wd D tc A s H locs (Mw tc o ad u13) := by rw [eu13]; exact V
          refine lv_aload_n hx hb dX7_history_97 rfl (lv_at hl 0 rfl) ?_
          refine lv_dup hx hb dX7_history_98 rfl ?_
          refine x_get hx hb hts hown V inX7 0 rfl rfl 4 (by decide) tw_524 rfl rfl dX7_history_99 ?_
          refine lv_iconst (v := 1) hx hb dX7_history_102 (by decide) ?_
          refine lv_iadd hx hb dX7_history_103 ?_
          refine x_put hx hb hts hown V inX7 tyX7_ok nmX7 0 rfl rfl 4 (by decide) tw_524 rfl rfl rfl rfl (Nat.le_of_ble_eq_true rfl) dX7_history_104 (fun H locs V => ?_)
          obtain ⟨u14, eu14, hj⟩ := nm_some hj
          replace V : Wd D tc A s H locs (Mw tc o ad u14) := by rw [eu14]; exact V
          refine lv_aload_n hx hb dX7_history_107 rfl (lv_at hl 0 rfl) ?_
          refine x_get hx hb hts hown V inX7 0 rfl rfl 4 (by decide) tw_524 rfl rfl dX7_history_108 ?_
          refine lv_iconst (v := 1) hx hb dX7_history_111 (by decide) ?_
          refine lv_isub hx hb dX7_history_112 ?_
          exact hret ((u14.1 4) - (1 : Int32), u14) hj rfl V dX7_history_113
        · replace hj := ip _ c5 hj
          refine lv_bipush (v := (-4)) hx hb dX7_history_54 (by decide) ?_
          exact hret ((-4 : Int32), u) hj rfl V dX7_history_56
      · replace hj := iq _ c4 hj
        refine lv_iload_n hx hb dX7_history_38 rfl (lv_at hl 2 rfl) ?_
        refine lv_if_eq (tgt := 45) hx hb dX7_history_39 (by decide) (fun c15 => ?_) (fun c15 => ?_)
        · replace hj := ip _ c15 hj
          refine lv_aload_n hx hb dX7_history_45 rfl (lv_at hl 0 rfl) ?_
          refine x_get hx hb hts hown V inX7 0 rfl rfl 4 (by decide) tw_524 rfl rfl dX7_history_46 ?_
          refine lv_bipush (v := 12) hx hb dX7_history_49 (by decide) ?_
          refine lv_icmp_ne (tgt := 57) hx hb dX7_history_51 (by decide) (fun c16 => ?_) (fun c16 => ?_)
          · replace hj := iq _ c16 hj
            refine lv_aload_n hx hb dX7_history_57 rfl (lv_at hl 0 rfl) ?_
            refine x_get hx hb hts hown V inX7 0 rfl rfl 5 (by decide) tw_525 rfl rfl dX7_history_58 ?_
            refine lv_aload_n hx hb dX7_history_61 rfl (lv_at hl 0 rfl) ?_
            refine x_get hx hb hts hown V inX7 0 rfl rfl 4 (by decide) tw_524 rfl rfl dX7_history_62 ?_
            refine lv_iload_n hx hb dX7_history_65 rfl (lv_at hl 1 rfl) ?_
            obtain ⟨i17, hj⟩ := gd_some hj
            obtain ⟨u18, eu18, hj⟩ := nm_some hj
            refine x_iast hx hb V 3 rfl i17 dX7_history_66 (fun H locs V => ?_)
            replace V : Wd D tc A s H locs (Mw tc o ad u18) := by rw [eu18]; exact V
            refine lv_aload_n hx hb dX7_history_67 rfl (lv_at hl 0 rfl) ?_
            refine x_get hx hb hts hown V inX7 0 rfl rfl 6 (by decide) tw_526 rfl rfl dX7_history_68 ?_
            refine lv_aload_n hx hb dX7_history_71 rfl (lv_at hl 0 rfl) ?_
            refine x_get hx hb hts hown V inX7 0 rfl rfl 4 (by decide) tw_524 rfl rfl dX7_history_72 ?_
            refine lv_iload_n hx hb dX7_history_75 rfl (lv_at hl 2 rfl) ?_
            obtain ⟨i19, hj⟩ := gd_some hj
            obtain ⟨u20, eu20, hj⟩ := nm_some hj
            refine x_iast hx hb V 4 rfl i19 dX7_history_76 (fun H locs V => ?_)
            replace V : Wd D tc A s H locs (Mw tc o ad u20) := by rw [eu20]; exact V
            refine lv_aload_n hx hb dX7_history_77 rfl (lv_at hl 0 rfl) ?_
            refine x_get hx hb hts hown V inX7 0 rfl rfl 7 (by decide) tw_527 rfl rfl dX7_history_78 ?_
            refine lv_aload_n hx hb dX7_history_81 rfl (lv_at hl 0 rfl) ?_
            refine x_get hx hb hts hown V inX7 0 rfl rfl 4 (by decide) tw_524 rfl rfl dX7_history_82 ?_
            refine lv_iconst (v := 0) hx hb dX7_history_85 (by decide) ?_
            obtain ⟨i21, hj⟩ := gd_some hj
            obtain ⟨u22, eu22, hj⟩ := nm_some hj
            refine x_iast hx hb V 5 rfl i21 dX7_history_86 (fun H locs V => ?_)
            replace V : Wd D tc A s H locs (Mw tc o ad u22) := by rw [eu22]; exact V
            refine lv_aload_n hx hb dX7_history_87 rfl (lv_at hl 0 rfl) ?_
            refine x_get hx hb hts hown V inX7 0 rfl rfl 8 (by decide) tw_528 rfl rfl dX7_history_88 ?_
            refine lv_aload_n hx hb dX7_history_91 rfl (lv_at hl 0 rfl) ?_
            refine x_get hx hb hts hown V inX7 0 rfl rfl 4 (by decide) tw_524 rfl rfl dX7_history_92 ?_
            refine lv_iconst (v := 0) hx hb dX7_history_95 (by decide) ?_
            obtain ⟨i23, hj⟩ := gd_some hj
            obtain ⟨u24, eu24, hj⟩ := nm_some hj
            refine x_iast hx hb V 6 rfl i23 dX7_history_96 (fun H locs V => ?_)
            replace V : Wd D tc A s H locs (Mw tc o ad u24) := by rw [eu24]; exact V
            refine lv_aload_n hx hb dX7_history_97 rfl (lv_at hl 0 rfl) ?_
            refine lv_dup hx hb dX7_history_98 rfl ?_
            refine x_get hx hb hts hown V inX7 0 rfl rfl 4 (by decide) tw_524 rfl rfl dX7_history_99 ?_
            refine lv_iconst (v := 1) hx hb dX7_history_102 (by decide) ?_
            refine lv_iadd hx hb dX7_history_103 ?_
            refine x_put hx hb hts hown V inX7 tyX7_ok nmX7 0 rfl rfl 4 (by decide) tw_524 rfl rfl rfl rfl (Nat.le_of_ble_eq_true rfl) dX7_history_104 (fun H locs V => ?_)
            obtain ⟨u25, eu25, hj⟩ := nm_some hj
            replace V : Wd D tc A s H locs (Mw tc o ad u25) := by rw [eu25]; exact V
            refine lv_aload_n hx hb dX7_history_107 rfl (lv_at hl 0 rfl) ?_
            refine x_get hx hb hts hown V inX7 0 rfl rfl 4 (by decide) tw_524 rfl rfl dX7_history_108 ?_
            refine lv_iconst (v := 1) hx hb dX7_history_111 (by decide) ?_
            refine lv_isub hx hb dX7_history_112 ?_
            exact hret ((u25.1 4) - (1 : Int32), u25) hj rfl V dX7_history_113
          · replace hj := ip _ c16 hj
            refine lv_bipush (v := (-4)) hx hb dX7_history_54 (by decide) ?_
            exact hret ((-4 : Int32), u) hj rfl V dX7_history_56
        · replace hj := iq _ c15 hj
          refine lv_bipush (v := (-2)) hx hb dX7_history_42 (by decide) ?_
          exact hret ((-2 : Int32), u) hj rfl V dX7_history_44
    · replace hj := ip _ c3 hj
      refine lv_iload_n hx hb dX7_history_16 rfl (lv_at hl 2 rfl) ?_
      refine lv_iconst (v := 0) hx hb dX7_history_17 (by decide) ?_
      refine lv_aload_n hx hb dX7_history_18 rfl (lv_at hl 0 rfl) ?_
      refine x_get hx hb hts hown V inX7 0 rfl rfl 3 (by decide) tw_523 rfl rfl dX7_history_19 ?_
      refine lv_iconst (v := 1) hx hb dX7_history_22 (by decide) ?_
      refine lv_isub hx hb dX7_history_23 ?_
      obtain ⟨r26, hr26, hj⟩ := bd_some hj
      refine x_allI V _ (rg_map _) (x_runS (n := 3) (rest := []) C V _ (rg_map _) (rg_nd _) (k_X7_in l D tc (Mw tc o ad u) v2 (0 : Int32) ((u.1 3) - (1 : Int32)) hr26) tw_619 tw_620 tw_6 tw_621 (by decide +kernel) ⟨Nat.le_trans (Nat.le_of_ble_eq_true rfl) hRf, Nat.le_trans (Nat.le_of_ble_eq_true rfl) hRl⟩ ⟨Nat.zero_le _, Nat.zero_le _⟩ rfl hl.1 rfl (Nat.le_of_ble_eq_true rfl) dX7_history_24) (fun H locs V zr26 => ?_)
      replace V : Wd D tc A s H locs (Mw tc o ad u) := V
      refine lv_if_ne (tgt := 32) hx hb dX7_history_27 (by decide) (fun c27 => ?_) (fun c27 => ?_)
      · replace hj := iq _ c27 hj
        refine lv_iload_n hx hb dX7_history_32 rfl (lv_at hl 1 rfl) ?_
        refine lv_bipush (v := 6) hx hb dX7_history_33 (by decide) ?_
        refine lv_icmp_eq (tgt := 45) hx hb dX7_history_35 (by decide) (fun c28 => ?_) (fun c28 => ?_)
        · replace hj := ip _ c28 hj
          refine lv_aload_n hx hb dX7_history_45 rfl (lv_at hl 0 rfl) ?_
          refine x_get hx hb hts hown V inX7 0 rfl rfl 4 (by decide) tw_524 rfl rfl dX7_history_46 ?_
          refine lv_bipush (v := 12) hx hb dX7_history_49 (by decide) ?_
          refine lv_icmp_ne (tgt := 57) hx hb dX7_history_51 (by decide) (fun c29 => ?_) (fun c29 => ?_)
          · replace hj := iq _ c29 hj
            refine lv_aload_n hx hb dX7_history_57 rfl (lv_at hl 0 rfl) ?_
            refine x_get hx hb hts hown V inX7 0 rfl rfl 5 (by decide) tw_525 rfl rfl dX7_history_58 ?_
            refine lv_aload_n hx hb dX7_history_61 rfl (lv_at hl 0 rfl) ?_
            refine x_get hx hb hts hown V inX7 0 rfl rfl 4 (by decide) tw_524 rfl rfl dX7_history_62 ?_
            refine lv_iload_n hx hb dX7_history_65 rfl (lv_at hl 1 rfl) ?_
            obtain ⟨i30, hj⟩ := gd_some hj
            obtain ⟨u31, eu31, hj⟩ := nm_some hj
            refine x_iast hx hb V 3 rfl i30 dX7_history_66 (fun H locs V => ?_)
            replace V : Wd D tc A s H locs (Mw tc o ad u31) := by rw [eu31]; exact V
            refine lv_aload_n hx hb dX7_history_67 rfl (lv_at hl 0 rfl) ?_
            refine x_get hx hb hts hown V inX7 0 rfl rfl 6 (by decide) tw_526 rfl rfl dX7_history_68 ?_
            refine lv_aload_n hx hb dX7_history_71 rfl (lv_at hl 0 rfl) ?_
            refine x_get hx hb hts hown V inX7 0 rfl rfl 4 (by decide) tw_524 rfl rfl dX7_history_72 ?_
            refine lv_iload_n hx hb dX7_history_75 rfl (lv_at hl 2 rfl) ?_
            obtain ⟨i32, hj⟩ := gd_some hj
            obtain ⟨u33, eu33, hj⟩ := nm_some hj
            refine x_iast hx hb V 4 rfl i32 dX7_history_76 (fun H locs V => ?_)
            replace V : Wd D tc A s H locs (Mw tc o ad u33) := by rw [eu33]; exact V
            refine lv_aload_n hx hb dX7_history_77 rfl (lv_at hl 0 rfl) ?_
            refine x_get hx hb hts hown V inX7 0 rfl rfl 7 (by decide) tw_527 rfl rfl dX7_history_78 ?_
            refine lv_aload_n hx hb dX7_history_81 rfl (lv_at hl 0 rfl) ?_
            refine x_get hx hb hts hown V inX7 0 rfl rfl 4 (by decide) tw_524 rfl rfl dX7_history_82 ?_
            refine lv_iconst (v := 0) hx hb dX7_history_85 (by decide) ?_
            obtain ⟨i34, hj⟩ := gd_some hj
            obtain ⟨u35, eu35, hj⟩ := nm_some hj
            refine x_iast hx hb V 5 rfl i34 dX7_history_86 (fun H locs V => ?_)
            replace V : Wd D tc A s H locs (Mw tc o ad u35) := by rw [eu35]; exact V
            refine lv_aload_n hx hb dX7_history_87 rfl (lv_at hl 0 rfl) ?_
            refine x_get hx hb hts hown V inX7 0 rfl rfl 8 (by decide) tw_528 rfl rfl dX7_history_88 ?_
            refine lv_aload_n hx hb dX7_history_91 rfl (lv_at hl 0 rfl) ?_
            refine x_get hx hb hts hown V inX7 0 rfl rfl 4 (by decide) tw_524 rfl rfl dX7_history_92 ?_
            refine lv_iconst (v := 0) hx hb dX7_history_95 (by decide) ?_
            obtain ⟨i36, hj⟩ := gd_some hj
            obtain ⟨u37, eu37, hj⟩ := nm_some hj
            refine x_iast hx hb V 6 rfl i36 dX7_history_96 (fun H locs V => ?_)
            replace V : Wd D tc A s H locs (Mw tc o ad u37) := by rw [eu37]; exact V
            refine lv_aload_n hx hb dX7_history_97 rfl (lv_at hl 0 rfl) ?_
            refine lv_dup hx hb dX7_history_98 rfl ?_
            refine x_get hx hb hts hown V inX7 0 rfl rfl 4 (by decide) tw_524 rfl rfl dX7_history_99 ?_
            refine lv_iconst (v := 1) hx hb dX7_history_102 (by decide) ?_
            refine lv_iadd hx hb dX7_history_103 ?_
            refine x_put hx hb hts hown V inX7 tyX7_ok nmX7 0 rfl rfl 4 (by decide) tw_524 rfl rfl rfl rfl (Nat.le_of_ble_eq_true rfl) dX7_history_104 (fun H locs V => ?_)
            obtain ⟨u38, eu38, hj⟩ := nm_some hj
            replace V : Wd D tc A s H locs (Mw tc o ad u38) := by rw [eu38]; exact V
            refine lv_aload_n hx hb dX7_history_107 rfl (lv_at hl 0 rfl) ?_
            refine x_get hx hb hts hown V inX7 0 rfl rfl 4 (by decide) tw_524 rfl rfl dX7_history_108 ?_
            refine lv_iconst (v := 1) hx hb dX7_history_111 (by decide) ?_
            refine lv_isub hx hb dX7_history_112 ?_
            exact hret ((u38.1 4) - (1 : Int32), u38) hj rfl V dX7_history_113
          · replace hj := ip _ c29 hj
            refine lv_bipush (v := (-4)) hx hb dX7_history_54 (by decide) ?_
            exact hret ((-4 : Int32), u) hj rfl V dX7_history_56
        · replace hj := iq _ c28 hj
          refine lv_iload_n hx hb dX7_history_38 rfl (lv_at hl 2 rfl) ?_
          refine lv_if_eq (tgt := 45) hx hb dX7_history_39 (by decide) (fun c39 => ?_) (fun c39 => ?_)
          · replace hj := ip _ c39 hj
            refine lv_aload_n hx hb dX7_history_45 rfl (lv_at hl 0 rfl) ?_
            refine x_get hx hb hts hown V inX7 0 rfl rfl 4 (by decide) tw_524 rfl rfl dX7_history_46 ?_
            refine lv_bipush (v := 12) hx hb dX7_history_49 (by decide) ?_
            refine lv_icmp_ne (tgt := 57) hx hb dX7_history_51 (by decide) (fun c40 => ?_) (fun c40 => ?_)
            · replace hj := iq _ c40 hj
              refine lv_aload_n hx hb dX7_history_57 rfl (lv_at hl 0 rfl) ?_
              refine x_get hx hb hts hown V inX7 0 rfl rfl 5 (by decide) tw_525 rfl rfl dX7_history_58 ?_
              refine lv_aload_n hx hb dX7_history_61 rfl (lv_at hl 0 rfl) ?_
              refine x_get hx hb hts hown V inX7 0 rfl rfl 4 (by decide) tw_524 rfl rfl dX7_history_62 ?_
              refine lv_iload_n hx hb dX7_history_65 rfl (lv_at hl 1 rfl) ?_
              obtain ⟨i41, hj⟩ := gd_some hj
              obtain ⟨u42, eu42, hj⟩ := nm_some hj
              refine x_iast hx hb V 3 rfl i41 dX7_history_66 (fun H locs V => ?_)
              replace V : Wd D tc A s H locs (Mw tc o ad u42) := by rw [eu42]; exact V
              refine lv_aload_n hx hb dX7_history_67 rfl (lv_at hl 0 rfl) ?_
              refine x_get hx hb hts hown V inX7 0 rfl rfl 6 (by decide) tw_526 rfl rfl dX7_history_68 ?_
              refine lv_aload_n hx hb dX7_history_71 rfl (lv_at hl 0 rfl) ?_
              refine x_get hx hb hts hown V inX7 0 rfl rfl 4 (by decide) tw_524 rfl rfl dX7_history_72 ?_
              refine lv_iload_n hx hb dX7_history_75 rfl (lv_at hl 2 rfl) ?_
              obtain ⟨i43, hj⟩ := gd_some hj
              obtain ⟨u44, eu44, hj⟩ := nm_some hj
              refine x_iast hx hb V 4 rfl i43 dX7_history_76 (fun H locs V => ?_)
              replace V : Wd D tc A s H locs (Mw tc o ad u44) := by rw [eu44]; exact V
              refine lv_aload_n hx hb dX7_history_77 rfl (lv_at hl 0 rfl) ?_
              refine x_get hx hb hts hown V inX7 0 rfl rfl 7 (by decide) tw_527 rfl rfl dX7_history_78 ?_
              refine lv_aload_n hx hb dX7_history_81 rfl (lv_at hl 0 rfl) ?_
              refine x_get hx hb hts hown V inX7 0 rfl rfl 4 (by decide) tw_524 rfl rfl dX7_history_82 ?_
              refine lv_iconst (v := 0) hx hb dX7_history_85 (by decide) ?_
              obtain ⟨i45, hj⟩ := gd_some hj
              obtain ⟨u46, eu46, hj⟩ := nm_some hj
              refine x_iast hx hb V 5 rfl i45 dX7_history_86 (fun H locs V => ?_)
              replace V : Wd D tc A s H locs (Mw tc o ad u46) := by rw [eu46]; exact V
              refine lv_aload_n hx hb dX7_history_87 rfl (lv_at hl 0 rfl) ?_
              refine x_get hx hb hts hown V inX7 0 rfl rfl 8 (by decide) tw_528 rfl rfl dX7_history_88 ?_
              refine lv_aload_n hx hb dX7_history_91 rfl (lv_at hl 0 rfl) ?_
              refine x_get hx hb hts hown V inX7 0 rfl rfl 4 (by decide) tw_524 rfl rfl dX7_history_92 ?_
              refine lv_iconst (v := 0) hx hb dX7_history_95 (by decide) ?_
              obtain ⟨i47, hj⟩ := gd_some hj
              obtain ⟨u48, eu48, hj⟩ := nm_some hj
              refine x_iast hx hb V 6 rfl i47 dX7_history_96 (fun H locs V => ?_)
              replace V : Wd D tc A s H locs (Mw tc o ad u48) := by rw [eu48]; exact V
              refine lv_aload_n hx hb dX7_history_97 rfl (lv_at hl 0 rfl) ?_
              refine lv_dup hx hb dX7_history_98 rfl ?_
              refine x_get hx hb hts hown V inX7 0 rfl rfl 4 (by decide) tw_524 rfl rfl dX7_history_99 ?_
              refine lv_iconst (v := 1) hx hb dX7_history_102 (by decide) ?_
              refine lv_iadd hx hb dX7_history_103 ?_
              refine x_put hx hb hts hown V inX7 tyX7_ok nmX7 0 rfl rfl 4 (by decide) tw_524 rfl rfl rfl rfl (Nat.le_of_ble_eq_true rfl) dX7_history_104 (fun H locs V => ?_)
              obtain ⟨u49, eu49, hj⟩ := nm_some hj
              replace V : Wd D tc A s H locs (Mw tc o ad u49) := by rw [eu49]; exact V
              refine lv_aload_n hx hb dX7_history_107 rfl (lv_at hl 0 rfl) ?_
              refine x_get hx hb hts hown V inX7 0 rfl rfl 4 (by decide) tw_524 rfl rfl dX7_history_108 ?_
              refine lv_iconst (v := 1) hx hb dX7_history_111 (by decide) ?_
              refine lv_isub hx hb dX7_history_112 ?_
              exact hret ((u49.1 4) - (1 : Int32), u49) hj rfl V dX7_history_113
            · replace hj := ip _ c40 hj
              refine lv_bipush (v := (-4)) hx hb dX7_history_54 (by decide) ?_
              exact hret ((-4 : Int32), u) hj rfl V dX7_history_56
          · replace hj := iq _ c39 hj
            refine lv_bipush (v := (-2)) hx hb dX7_history_42 (by decide) ?_
            exact hret ((-2 : Int32), u) hj rfl V dX7_history_44
      · replace hj := ip _ c27 hj
        refine lv_iconst (v := (-1)) hx hb dX7_history_30 (by decide) ?_
        exact hret ((-1 : Int32), u) hj rfl V dX7_history_31)

def q_X7_copy_77 (k_77 : St → Int32 → Int32 → Int32 → Option (Int32 × St)) (u : St) (v1 : Int32) (v2 : Int32) (v3 : Int32) : Option (Int32 × St) :=
  if (10 : Int32) ≤ v3 then nm (sI u 4 ((u.1 4) + (1 : Int32))) (fun u18 => some (v2, u18)) else gd (((10 : Int32) * v1) + v3) 120 (gd (((10 : Int32) * v2) + v3) 120 (nm (sA u 9 (((10 : Int32) * v2) + v3).toNatClampNeg (u.2.1 9 (((10 : Int32) * v1) + v3).toNatClampNeg)) (fun u21 => gd (((10 : Int32) * v1) + v3) 120 (gd (((10 : Int32) * v2) + v3) 120 (nm (sA u21 10 (((10 : Int32) * v2) + v3).toNatClampNeg (u21.2.1 10 (((10 : Int32) * v1) + v3).toNatClampNeg)) (fun u24 => gd (((10 : Int32) * v1) + v3) 120 (gd (((10 : Int32) * v2) + v3) 120 (nm (sA u24 11 (((10 : Int32) * v2) + v3).toNatClampNeg (u24.2.1 11 (((10 : Int32) * v1) + v3).toNatClampNeg)) (fun u27 => gd (((10 : Int32) * v1) + v3) 120 (gd (((10 : Int32) * v2) + v3) 120 (nm (sA u27 12 (((10 : Int32) * v2) + v3).toNatClampNeg (u27.2.1 12 (((10 : Int32) * v1) + v3).toNatClampNeg)) (fun u30 => gd (((10 : Int32) * v1) + v3) 120 (gd (((10 : Int32) * v2) + v3) 120 (nm (sA u30 13 (((10 : Int32) * v2) + v3).toNatClampNeg (u30.2.1 13 (((10 : Int32) * v1) + v3).toNatClampNeg)) (fun u33 => gd (((10 : Int32) * v1) + v3) 120 (gd (((10 : Int32) * v2) + v3) 120 (nm (sA u33 14 (((10 : Int32) * v2) + v3).toNatClampNeg (u33.2.1 14 (((10 : Int32) * v1) + v3).toNatClampNeg)) (fun u36 => gd (((10 : Int32) * v1) + v3) 120 (gd (((10 : Int32) * v2) + v3) 120 (nm (sA u36 15 (((10 : Int32) * v2) + v3).toNatClampNeg (u36.2.1 15 (((10 : Int32) * v1) + v3).toNatClampNeg)) (fun u39 => nm (v3 + 1) (fun x40 => k_77 u39 v1 v2 x40))))))))))))))))))))))
set_option maxHeartbeats 4000000 in
set_option maxRecDepth 100000 in
theorem b_X7_copy_77 {p : Program} {l : Launch} {e : Env} {R : Room} {s : State} {m : MethodId} {args : Array Value} {below : List Frame} {meth : Method} {c : Code} {A : Nat → Prop} {Q : State → Prop} {D : va_G} {tc : Nat → ClassId} (o : Nat) (ad : Nat → Nat) (hRf : 2 ≤ R.frames) (hRl : 43 ≤ R.locals) (C : Cx p s m args meth c cX7_copy 4 RX7 (some .int)) {x0 : Int32 × St} (hret : RetI p l e R s m args below meth c Q cX7_copy D tc A .int (some x0) (fun x : Int32 × St => x.1) (fun x : Int32 × St => Mw tc o ad x.2)) (k_77 : St → Int32 → Int32 → Int32 → Option (Int32 × St)) (hk_77 : ∀ (u : St) (v1 : Int32) (v2 : Int32) (v3 : Int32), k_77 u v1 v2 v3 = some x0 → ∀ (H : Heap) (locs : List Loc) (ls : Array Slot), Wd D tc A s H locs (Mw tc o ad u) → lv_has ls 4 [(0, .ref o), (1, .int v1), (2, .int v2), (3, .int v3)] → W p l e R s m args below meth c H locs 0 0 Q (F0 m 77 ls [])) : ∀ (u : St) (v1 : Int32) (v2 : Int32) (v3 : Int32), q_X7_copy_77 k_77 u v1 v2 v3 = some x0 → ∀ (H : Heap) (locs : List Loc) (ls : Array Slot), Wd D tc A s H locs (Mw tc o ad u) → lv_has ls 4 [(0, .ref o), (1, .int v1), (2, .int v2), (3, .int v3)] → W p l e R s m args below meth c H locs 0 0 Q (F0 m 77 ls []) := by
  obtain ⟨hx, hb, hr, hml, hown, hts, hlk, hN⟩ := id C
  intro u v1 v2 v3 hj H locs ls V hl
  unfold q_X7_copy_77 at hj
  refine lv_iload_n hx hb dX7_copy_77 rfl (lv_at hl 3 rfl) ?_
  refine lv_bipush (v := 10) hx hb dX7_copy_78 (by decide) ?_
  refine lv_icmp_ge (tgt := 243) hx hb dX7_copy_80 (by decide) (fun c17 => ?_) (fun c17 => ?_)
  · replace hj := ip _ c17 hj
    refine lv_aload_n hx hb dX7_copy_243 rfl (lv_at hl 0 rfl) ?_
    refine lv_dup hx hb dX7_copy_244 rfl ?_
    refine x_get hx hb hts hown V inX7 0 rfl rfl 4 (by decide) tw_524 rfl rfl dX7_copy_245 ?_
    refine lv_iconst (v := 1) hx hb dX7_copy_248 (by decide) ?_
    refine lv_iadd hx hb dX7_copy_249 ?_
    refine x_put hx hb hts hown V inX7 tyX7_ok nmX7 0 rfl rfl 4 (by decide) tw_524 rfl rfl rfl rfl (Nat.le_of_ble_eq_true rfl) dX7_copy_250 (fun H locs V => ?_)
    obtain ⟨u18, eu18, hj⟩ := nm_some hj
    replace V : Wd D tc A s H locs (Mw tc o ad u18) := by rw [eu18]; exact V
    refine lv_iload_n hx hb dX7_copy_253 rfl (lv_at hl 2 rfl) ?_
    exact hret (v2, u18) hj rfl V dX7_copy_254
  · replace hj := iq _ c17 hj
    refine lv_aload_n hx hb dX7_copy_83 rfl (lv_at hl 0 rfl) ?_
    refine x_get hx hb hts hown V inX7 0 rfl rfl 9 (by decide) tw_529 rfl rfl dX7_copy_84 ?_
    refine lv_bipush (v := 10) hx hb dX7_copy_87 (by decide) ?_
    refine lv_iload_n hx hb dX7_copy_89 rfl (lv_at hl 2 rfl) ?_
    refine lv_imul hx hb dX7_copy_90 ?_
    refine lv_iload_n hx hb dX7_copy_91 rfl (lv_at hl 3 rfl) ?_
    refine lv_iadd hx hb dX7_copy_92 ?_
    refine lv_aload_n hx hb dX7_copy_93 rfl (lv_at hl 0 rfl) ?_
    refine x_get hx hb hts hown V inX7 0 rfl rfl 9 (by decide) tw_529 rfl rfl dX7_copy_94 ?_
    refine lv_bipush (v := 10) hx hb dX7_copy_97 (by decide) ?_
    refine lv_iload_n hx hb dX7_copy_99 rfl (lv_at hl 1 rfl) ?_
    refine lv_imul hx hb dX7_copy_100 ?_
    refine lv_iload_n hx hb dX7_copy_101 rfl (lv_at hl 3 rfl) ?_
    refine lv_iadd hx hb dX7_copy_102 ?_
    obtain ⟨i19, hj⟩ := gd_some hj
    refine x_iald hx hb V 7 rfl i19 dX7_copy_103 ?_
    obtain ⟨i20, hj⟩ := gd_some hj
    obtain ⟨u21, eu21, hj⟩ := nm_some hj
    refine x_iast hx hb V 7 rfl i20 dX7_copy_104 (fun H locs V => ?_)
    replace V : Wd D tc A s H locs (Mw tc o ad u21) := by rw [eu21]; exact V
    refine lv_aload_n hx hb dX7_copy_105 rfl (lv_at hl 0 rfl) ?_
    refine x_get hx hb hts hown V inX7 0 rfl rfl 10 (by decide) tw_530 rfl rfl dX7_copy_106 ?_
    refine lv_bipush (v := 10) hx hb dX7_copy_109 (by decide) ?_
    refine lv_iload_n hx hb dX7_copy_111 rfl (lv_at hl 2 rfl) ?_
    refine lv_imul hx hb dX7_copy_112 ?_
    refine lv_iload_n hx hb dX7_copy_113 rfl (lv_at hl 3 rfl) ?_
    refine lv_iadd hx hb dX7_copy_114 ?_
    refine lv_aload_n hx hb dX7_copy_115 rfl (lv_at hl 0 rfl) ?_
    refine x_get hx hb hts hown V inX7 0 rfl rfl 10 (by decide) tw_530 rfl rfl dX7_copy_116 ?_
    refine lv_bipush (v := 10) hx hb dX7_copy_119 (by decide) ?_
    refine lv_iload_n hx hb dX7_copy_121 rfl (lv_at hl 1 rfl) ?_
    refine lv_imul hx hb dX7_copy_122 ?_
    refine lv_iload_n hx hb dX7_copy_123 rfl (lv_at hl 3 rfl) ?_
    refine lv_iadd hx hb dX7_copy_124 ?_
    obtain ⟨i22, hj⟩ := gd_some hj
    refine x_iald hx hb V 8 rfl i22 dX7_copy_125 ?_
    obtain ⟨i23, hj⟩ := gd_some hj
    obtain ⟨u24, eu24, hj⟩ := nm_some hj
    refine x_iast hx hb V 8 rfl i23 dX7_copy_126 (fun H locs V => ?_)
    replace V : Wd D tc A s H locs (Mw tc o ad u24) := by rw [eu24]; exact V
    refine lv_aload_n hx hb dX7_copy_127 rfl (lv_at hl 0 rfl) ?_
    refine x_get hx hb hts hown V inX7 0 rfl rfl 11 (by decide) tw_531 rfl rfl dX7_copy_128 ?_
    refine lv_bipush (v := 10) hx hb dX7_copy_131 (by decide) ?_
    refine lv_iload_n hx hb dX7_copy_133 rfl (lv_at hl 2 rfl) ?_
    refine lv_imul hx hb dX7_copy_134 ?_
    refine lv_iload_n hx hb dX7_copy_135 rfl (lv_at hl 3 rfl) ?_
    refine lv_iadd hx hb dX7_copy_136 ?_
    refine lv_aload_n hx hb dX7_copy_137 rfl (lv_at hl 0 rfl) ?_
    refine x_get hx hb hts hown V inX7 0 rfl rfl 11 (by decide) tw_531 rfl rfl dX7_copy_138 ?_
    refine lv_bipush (v := 10) hx hb dX7_copy_141 (by decide) ?_
    refine lv_iload_n hx hb dX7_copy_143 rfl (lv_at hl 1 rfl) ?_
    refine lv_imul hx hb dX7_copy_144 ?_
    refine lv_iload_n hx hb dX7_copy_145 rfl (lv_at hl 3 rfl) ?_
    refine lv_iadd hx hb dX7_copy_146 ?_
    obtain ⟨i25, hj⟩ := gd_some hj
    refine x_iald hx hb V 9 rfl i25 dX7_copy_147 ?_
    obtain ⟨i26, hj⟩ := gd_some hj
    obtain ⟨u27, eu27, hj⟩ := nm_some hj
    refine x_iast hx hb V 9 rfl i26 dX7_copy_148 (fun H locs V => ?_)
    replace V : Wd D tc A s H locs (Mw tc o ad u27) := by rw [eu27]; exact V
    refine lv_aload_n hx hb dX7_copy_149 rfl (lv_at hl 0 rfl) ?_
    refine x_get hx hb hts hown V inX7 0 rfl rfl 12 (by decide) tw_532 rfl rfl dX7_copy_150 ?_
    refine lv_bipush (v := 10) hx hb dX7_copy_153 (by decide) ?_
    refine lv_iload_n hx hb dX7_copy_155 rfl (lv_at hl 2 rfl) ?_
    refine lv_imul hx hb dX7_copy_156 ?_
    refine lv_iload_n hx hb dX7_copy_157 rfl (lv_at hl 3 rfl) ?_
    refine lv_iadd hx hb dX7_copy_158 ?_
    refine lv_aload_n hx hb dX7_copy_159 rfl (lv_at hl 0 rfl) ?_
    refine x_get hx hb hts hown V inX7 0 rfl rfl 12 (by decide) tw_532 rfl rfl dX7_copy_160 ?_
    refine lv_bipush (v := 10) hx hb dX7_copy_163 (by decide) ?_
    refine lv_iload_n hx hb dX7_copy_165 rfl (lv_at hl 1 rfl) ?_
    refine lv_imul hx hb dX7_copy_166 ?_
    refine lv_iload_n hx hb dX7_copy_167 rfl (lv_at hl 3 rfl) ?_
    refine lv_iadd hx hb dX7_copy_168 ?_
    obtain ⟨i28, hj⟩ := gd_some hj
    refine x_iald hx hb V 10 rfl i28 dX7_copy_169 ?_
    obtain ⟨i29, hj⟩ := gd_some hj
    obtain ⟨u30, eu30, hj⟩ := nm_some hj
    refine x_iast hx hb V 10 rfl i29 dX7_copy_170 (fun H locs V => ?_)
    replace V : Wd D tc A s H locs (Mw tc o ad u30) := by rw [eu30]; exact V
    refine lv_aload_n hx hb dX7_copy_171 rfl (lv_at hl 0 rfl) ?_
    refine x_get hx hb hts hown V inX7 0 rfl rfl 13 (by decide) tw_533 rfl rfl dX7_copy_172 ?_
    refine lv_bipush (v := 10) hx hb dX7_copy_175 (by decide) ?_
    refine lv_iload_n hx hb dX7_copy_177 rfl (lv_at hl 2 rfl) ?_
    refine lv_imul hx hb dX7_copy_178 ?_
    refine lv_iload_n hx hb dX7_copy_179 rfl (lv_at hl 3 rfl) ?_
    refine lv_iadd hx hb dX7_copy_180 ?_
    refine lv_aload_n hx hb dX7_copy_181 rfl (lv_at hl 0 rfl) ?_
    refine x_get hx hb hts hown V inX7 0 rfl rfl 13 (by decide) tw_533 rfl rfl dX7_copy_182 ?_
    refine lv_bipush (v := 10) hx hb dX7_copy_185 (by decide) ?_
    refine lv_iload_n hx hb dX7_copy_187 rfl (lv_at hl 1 rfl) ?_
    refine lv_imul hx hb dX7_copy_188 ?_
    refine lv_iload_n hx hb dX7_copy_189 rfl (lv_at hl 3 rfl) ?_
    refine lv_iadd hx hb dX7_copy_190 ?_
    obtain ⟨i31, hj⟩ := gd_some hj
    refine x_iald hx hb V 11 rfl i31 dX7_copy_191 ?_
    obtain ⟨i32, hj⟩ := gd_some hj
    obtain ⟨u33, eu33, hj⟩ := nm_some hj
    refine x_iast hx hb V 11 rfl i32 dX7_copy_192 (fun H locs V => ?_)
    replace V : Wd D tc A s H locs (Mw tc o ad u33) := by rw [eu33]; exact V
    refine lv_aload_n hx hb dX7_copy_193 rfl (lv_at hl 0 rfl) ?_
    refine x_get hx hb hts hown V inX7 0 rfl rfl 14 (by decide) tw_534 rfl rfl dX7_copy_194 ?_
    refine lv_bipush (v := 10) hx hb dX7_copy_197 (by decide) ?_
    refine lv_iload_n hx hb dX7_copy_199 rfl (lv_at hl 2 rfl) ?_
    refine lv_imul hx hb dX7_copy_200 ?_
    refine lv_iload_n hx hb dX7_copy_201 rfl (lv_at hl 3 rfl) ?_
    refine lv_iadd hx hb dX7_copy_202 ?_
    refine lv_aload_n hx hb dX7_copy_203 rfl (lv_at hl 0 rfl) ?_
    refine x_get hx hb hts hown V inX7 0 rfl rfl 14 (by decide) tw_534 rfl rfl dX7_copy_204 ?_
    refine lv_bipush (v := 10) hx hb dX7_copy_207 (by decide) ?_
    refine lv_iload_n hx hb dX7_copy_209 rfl (lv_at hl 1 rfl) ?_
    refine lv_imul hx hb dX7_copy_210 ?_
    refine lv_iload_n hx hb dX7_copy_211 rfl (lv_at hl 3 rfl) ?_
    refine lv_iadd hx hb dX7_copy_212 ?_
    obtain ⟨i34, hj⟩ := gd_some hj
    refine x_iald hx hb V 12 rfl i34 dX7_copy_213 ?_
    obtain ⟨i35, hj⟩ := gd_some hj
    obtain ⟨u36, eu36, hj⟩ := nm_some hj
    refine x_iast hx hb V 12 rfl i35 dX7_copy_214 (fun H locs V => ?_)
    replace V : Wd D tc A s H locs (Mw tc o ad u36) := by rw [eu36]; exact V
    refine lv_aload_n hx hb dX7_copy_215 rfl (lv_at hl 0 rfl) ?_
    refine x_get hx hb hts hown V inX7 0 rfl rfl 15 (by decide) tw_535 rfl rfl dX7_copy_216 ?_
    refine lv_bipush (v := 10) hx hb dX7_copy_219 (by decide) ?_
    refine lv_iload_n hx hb dX7_copy_221 rfl (lv_at hl 2 rfl) ?_
    refine lv_imul hx hb dX7_copy_222 ?_
    refine lv_iload_n hx hb dX7_copy_223 rfl (lv_at hl 3 rfl) ?_
    refine lv_iadd hx hb dX7_copy_224 ?_
    refine lv_aload_n hx hb dX7_copy_225 rfl (lv_at hl 0 rfl) ?_
    refine x_get hx hb hts hown V inX7 0 rfl rfl 15 (by decide) tw_535 rfl rfl dX7_copy_226 ?_
    refine lv_bipush (v := 10) hx hb dX7_copy_229 (by decide) ?_
    refine lv_iload_n hx hb dX7_copy_231 rfl (lv_at hl 1 rfl) ?_
    refine lv_imul hx hb dX7_copy_232 ?_
    refine lv_iload_n hx hb dX7_copy_233 rfl (lv_at hl 3 rfl) ?_
    refine lv_iadd hx hb dX7_copy_234 ?_
    obtain ⟨i37, hj⟩ := gd_some hj
    refine x_iald hx hb V 13 rfl i37 dX7_copy_235 ?_
    obtain ⟨i38, hj⟩ := gd_some hj
    obtain ⟨u39, eu39, hj⟩ := nm_some hj
    refine x_iast hx hb V 13 rfl i38 dX7_copy_236 (fun H locs V => ?_)
    replace V : Wd D tc A s H locs (Mw tc o ad u39) := by rw [eu39]; exact V
    obtain ⟨x40, ex40, hj⟩ := nm_some hj
    refine lv_iinc (v := x40) (lv' := [(3, .int x40), (0, .ref o), (1, .int v1), (2, .int v2)]) hx hb dX7_copy_237 hl (k := 3) rfl (by rw [ex40]; rfl) (by decide) rfl (fun ls hl => ?_)
    refine lv_goto (tgt := 77) hx hb dX7_copy_240 (by decide) ?_
    exact hk_77 u39 v1 v2 x40 hj _ _ _ V (lv_sub hl [1, 2, 3, 0] rfl)
def j_X7_copy_77  : Nat → St → Int32 → Int32 → Int32 → Option (Int32 × St)
  | 0 => fun _ _ _ _ => none
  | n + 1 => q_X7_copy_77  (j_X7_copy_77  n)
theorem lp_X7_copy_77 {p : Program} {l : Launch} {e : Env} {R : Room} {s : State} {m : MethodId} {args : Array Value} {below : List Frame} {meth : Method} {c : Code} {A : Nat → Prop} {Q : State → Prop} {D : va_G} {tc : Nat → ClassId} (o : Nat) (ad : Nat → Nat) (hRf : 2 ≤ R.frames) (hRl : 43 ≤ R.locals) (C : Cx p s m args meth c cX7_copy 4 RX7 (some .int)) {x0 : Int32 × St} (hret : RetI p l e R s m args below meth c Q cX7_copy D tc A .int (some x0) (fun x : Int32 × St => x.1) (fun x : Int32 × St => Mw tc o ad x.2))  : ∀ (n : Nat), ∀ (u : St) (v1 : Int32) (v2 : Int32) (v3 : Int32), j_X7_copy_77  n u v1 v2 v3 = some x0 → ∀ (H : Heap) (locs : List Loc) (ls : Array Slot), Wd D tc A s H locs (Mw tc o ad u) → lv_has ls 4 [(0, .ref o), (1, .int v1), (2, .int v2), (3, .int v3)] → W p l e R s m args below meth c H locs 0 0 Q (F0 m 77 ls []) := by
  intro n
  induction n with
  | zero =>
    intro u v1 v2 v3 hj
    have hj : (none : Option (Int32 × St)) = some x0 := hj
    cases hj
  | succ n ih =>
    intro u v1 v2 v3 hj
    exact b_X7_copy_77 o ad hRf hRl C hret   (j_X7_copy_77  n) ih u v1 v2 v3 hj
def j_X7_copy (u : St) (v1 : Int32) : Option (Int32 × St) :=
  (j_X7_isHistory u v1).bind (fun r1 => if r1 = (0 : Int32) then some ((-1 : Int32), u) else if (u.1 4) = (12 : Int32) then some ((-4 : Int32), u) else nm (u.1 4) (fun x4 => gd v1 12 (gd x4 12 (nm (sA u 5 x4.toNatClampNeg (u.2.1 5 v1.toNatClampNeg)) (fun u7 => gd v1 12 (gd x4 12 (nm (sA u7 6 x4.toNatClampNeg (u7.2.1 6 v1.toNatClampNeg)) (fun u10 => gd v1 12 (gd x4 12 (nm (sA u10 7 x4.toNatClampNeg (u10.2.1 7 v1.toNatClampNeg)) (fun u13 => gd v1 12 (gd x4 12 (nm (sA u13 8 x4.toNatClampNeg (u13.2.1 8 v1.toNatClampNeg)) (fun u16 => j_X7_copy_77  100 u16 v1 x4 (0 : Int32)))))))))))))))
set_option maxHeartbeats 4000000 in
set_option maxRecDepth 100000 in
theorem k_X7_copy (l : Launch) (D : va_G) (tc : Nat → ClassId) (o : Nat) (ad : Nat → Nat) (u : St) (v1 : Int32) {x0 : Int32 × St} (hj : j_X7_copy u v1 = some x0) : MetD l D tc yX7_copy cX7_copy 4 (some .int) 2 43 [.ref o, .int v1] (Mw tc o ad u) (some (.int x0.1)) (Mw tc o ad x0.2) :=
  x_entI (fun x : Int32 × St => x.1) (fun x : Int32 × St => Mw tc o ad x.2) (by decide) (own := RX7) rfl (Nat.le_of_ble_eq_true rfl) (fun p e s m args below meth c A Q ls C V hl hret => by
  obtain ⟨hx, hb, hr, hml, hown, hts, hlk, hN⟩ := id C
  have hRf : 2 ≤ (rmz 2 0 0 43).frames := Nat.le_refl _
  have hRl : 43 ≤ (rmz 2 0 0 43).locals := Nat.le_refl _
  generalize (rmz 2 0 0 43) = R at hret hRf hRl ⊢
  generalize s.heap = H at V ⊢
  generalize ([] : List Loc) = locs at V ⊢
  have hl : lv_has ls 4 [(0, .ref o), (1, .int v1)] := hl
  unfold j_X7_copy at hj
  refine lv_aload_n hx hb dX7_copy_0 rfl (lv_at hl 0 rfl) ?_
  refine lv_iload_n hx hb dX7_copy_1 rfl (lv_at hl 1 rfl) ?_
  obtain ⟨r1, hr1, hj⟩ := bd_some hj
  refine x_allI V _ (rg_map _) (x_runV (n := 1) (rest := []) C V _ (rg_map _) (rg_nd _) (k_X7_isHistory l D tc o ad u v1 hr1) tw_630 tw_632 tp_10 tw_6 tw_633 (by decide +kernel) ⟨Nat.le_trans (Nat.le_of_ble_eq_true rfl) hRf, Nat.le_trans (Nat.le_of_ble_eq_true rfl) hRl⟩ ⟨Nat.zero_le _, Nat.zero_le _⟩ 0 6 rfl rfl rfl hl.1 rfl (Nat.le_of_ble_eq_true rfl) dX7_copy_2) (fun H locs V zr1 => ?_)
  replace V : Wd D tc A s H locs (Mw tc o ad u) := V
  refine lv_if_ne (tgt := 10) hx hb dX7_copy_5 (by decide) (fun c2 => ?_) (fun c2 => ?_)
  · replace hj := iq _ c2 hj
    refine lv_aload_n hx hb dX7_copy_10 rfl (lv_at hl 0 rfl) ?_
    refine x_get hx hb hts hown V inX7 0 rfl rfl 4 (by decide) tw_524 rfl rfl dX7_copy_11 ?_
    refine lv_bipush (v := 12) hx hb dX7_copy_14 (by decide) ?_
    refine lv_icmp_ne (tgt := 22) hx hb dX7_copy_16 (by decide) (fun c3 => ?_) (fun c3 => ?_)
    · replace hj := iq _ c3 hj
      refine lv_aload_n hx hb dX7_copy_22 rfl (lv_at hl 0 rfl) ?_
      refine x_get hx hb hts hown V inX7 0 rfl rfl 4 (by decide) tw_524 rfl rfl dX7_copy_23 ?_
      obtain ⟨x4, ex4, hj⟩ := nm_some hj
      refine x_topi ex4 ?_
      refine lv_istore_n (lv' := [(2, .int x4), (0, .ref o), (1, .int v1)]) hx hb dX7_copy_26 rfl hl (by decide) rfl (fun ls hl => ?_)
      refine lv_aload_n hx hb dX7_copy_27 rfl (lv_at hl 1 rfl) ?_
      refine x_get hx hb hts hown V inX7 0 rfl rfl 5 (by decide) tw_525 rfl rfl dX7_copy_28 ?_
      refine lv_iload_n hx hb dX7_copy_31 rfl (lv_at hl 0 rfl) ?_
      refine lv_aload_n hx hb dX7_copy_32 rfl (lv_at hl 1 rfl) ?_
      refine x_get hx hb hts hown V inX7 0 rfl rfl 5 (by decide) tw_525 rfl rfl dX7_copy_33 ?_
      refine lv_iload_n hx hb dX7_copy_36 rfl (lv_at hl 2 rfl) ?_
      obtain ⟨i5, hj⟩ := gd_some hj
      refine x_iald hx hb V 3 rfl i5 dX7_copy_37 ?_
      obtain ⟨i6, hj⟩ := gd_some hj
      obtain ⟨u7, eu7, hj⟩ := nm_some hj
      refine x_iast hx hb V 3 rfl i6 dX7_copy_38 (fun H locs V => ?_)
      replace V : Wd D tc A s H locs (Mw tc o ad u7) := by rw [eu7]; exact V
      refine lv_aload_n hx hb dX7_copy_39 rfl (lv_at hl 1 rfl) ?_
      refine x_get hx hb hts hown V inX7 0 rfl rfl 6 (by decide) tw_526 rfl rfl dX7_copy_40 ?_
      refine lv_iload_n hx hb dX7_copy_43 rfl (lv_at hl 0 rfl) ?_
      refine lv_aload_n hx hb dX7_copy_44 rfl (lv_at hl 1 rfl) ?_
      refine x_get hx hb hts hown V inX7 0 rfl rfl 6 (by decide) tw_526 rfl rfl dX7_copy_45 ?_
      refine lv_iload_n hx hb dX7_copy_48 rfl (lv_at hl 2 rfl) ?_
      obtain ⟨i8, hj⟩ := gd_some hj
      refine x_iald hx hb V 4 rfl i8 dX7_copy_49 ?_
      obtain ⟨i9, hj⟩ := gd_some hj
      obtain ⟨u10, eu10, hj⟩ := nm_some hj
      refine x_iast hx hb V 4 rfl i9 dX7_copy_50 (fun H locs V => ?_)
      replace V : Wd D tc A s H locs (Mw tc o ad u10) := by rw [eu10]; exact V
      refine lv_aload_n hx hb dX7_copy_51 rfl (lv_at hl 1 rfl) ?_
      refine x_get hx hb hts hown V inX7 0 rfl rfl 7 (by decide) tw_527 rfl rfl dX7_copy_52 ?_
      refine lv_iload_n hx hb dX7_copy_55 rfl (lv_at hl 0 rfl) ?_
      refine lv_aload_n hx hb dX7_copy_56 rfl (lv_at hl 1 rfl) ?_
      refine x_get hx hb hts hown V inX7 0 rfl rfl 7 (by decide) tw_527 rfl rfl dX7_copy_57 ?_
      refine lv_iload_n hx hb dX7_copy_60 rfl (lv_at hl 2 rfl) ?_
      obtain ⟨i11, hj⟩ := gd_some hj
      refine x_iald hx hb V 5 rfl i11 dX7_copy_61 ?_
      obtain ⟨i12, hj⟩ := gd_some hj
      obtain ⟨u13, eu13, hj⟩ := nm_some hj
      refine x_iast hx hb V 5 rfl i12 dX7_copy_62 (fun H locs V => ?_)
      replace V : Wd D tc A s H locs (Mw tc o ad u13) := by rw [eu13]; exact V
      refine lv_aload_n hx hb dX7_copy_63 rfl (lv_at hl 1 rfl) ?_
      refine x_get hx hb hts hown V inX7 0 rfl rfl 8 (by decide) tw_528 rfl rfl dX7_copy_64 ?_
      refine lv_iload_n hx hb dX7_copy_67 rfl (lv_at hl 0 rfl) ?_
      refine lv_aload_n hx hb dX7_copy_68 rfl (lv_at hl 1 rfl) ?_
      refine x_get hx hb hts hown V inX7 0 rfl rfl 8 (by decide) tw_528 rfl rfl dX7_copy_69 ?_
      refine lv_iload_n hx hb dX7_copy_72 rfl (lv_at hl 2 rfl) ?_
      obtain ⟨i14, hj⟩ := gd_some hj
      refine x_iald hx hb V 6 rfl i14 dX7_copy_73 ?_
      obtain ⟨i15, hj⟩ := gd_some hj
      obtain ⟨u16, eu16, hj⟩ := nm_some hj
      refine x_iast hx hb V 6 rfl i15 dX7_copy_74 (fun H locs V => ?_)
      replace V : Wd D tc A s H locs (Mw tc o ad u16) := by rw [eu16]; exact V
      refine lv_iconst (v := 0) hx hb dX7_copy_75 (by decide) ?_
      refine lv_istore_n (lv' := [(3, .int (0 : Int32)), (2, .int x4), (0, .ref o), (1, .int v1)]) hx hb dX7_copy_76 rfl hl (by decide) rfl (fun ls hl => ?_)
      exact lp_X7_copy_77 o ad hRf hRl C hret   100 u16 v1 x4 (0 : Int32) hj _ _ _ V (lv_sub hl [2, 3, 1, 0] rfl)
    · replace hj := ip _ c3 hj
      refine lv_bipush (v := (-4)) hx hb dX7_copy_19 (by decide) ?_
      exact hret ((-4 : Int32), u) hj rfl V dX7_copy_21
  · replace hj := ip _ c2 hj
    refine lv_iconst (v := (-1)) hx hb dX7_copy_8 (by decide) ?_
    exact hret ((-1 : Int32), u) hj rfl V dX7_copy_9)

def q_X7_begin_81 (k_81 : St → Int32 → Int32 → Int32 → Int32 → Int32 → Int32 → Option (Int32 × St)) (u : St) (v1 : Int32) (v2 : Int32) (v3 : Int32) (v4 : Int32) (v5 : Int32) (v7 : Int32) : Option (Int32 × St) :=
  gd v1 12 (if (u.2.1 7 v1.toNatClampNeg) ≤ v7 then gd v1 12 (if (u.2.1 7 v1.toNatClampNeg) = (10 : Int32) then some ((-4 : Int32), u) else gd v1 12 (nm (((10 : Int32) * v1) + (u.2.1 7 v1.toNatClampNeg)) (fun x17 => gd v1 12 (gd v1 12 (nm (sA u 8 v1.toNatClampNeg ((u.2.1 8 v1.toNatClampNeg) + (1 : Int32))) (fun u20 => gd x17 120 (nm (sA u20 9 x17.toNatClampNeg v2) (fun u22 => gd x17 120 (nm (sA u22 10 x17.toNatClampNeg v3) (fun u24 => gd x17 120 (nm (sA u24 11 x17.toNatClampNeg v4) (fun u26 => gd x17 120 (nm (sA u26 12 x17.toNatClampNeg v5) (fun u28 => gd v1 12 (gd x17 120 (nm (sA u28 13 x17.toNatClampNeg (u28.2.1 8 v1.toNatClampNeg)) (fun u31 => gd x17 120 (nm (sA u31 14 x17.toNatClampNeg (0 : Int32)) (fun u33 => gd x17 120 (nm (sA u33 15 x17.toNatClampNeg (0 : Int32)) (fun u35 => gd v1 12 (gd v1 12 (nm (sA u35 7 v1.toNatClampNeg ((u35.2.1 7 v1.toNatClampNeg) + (1 : Int32))) (fun u38 => gd v1 12 (some ((u38.2.1 7 v1.toNatClampNeg) - (1 : Int32), u38)))))))))))))))))))))))))) else gd (((10 : Int32) * v1) + v7) 120 (if (u.2.1 9 (((10 : Int32) * v1) + v7).toNatClampNeg) = v2 then (j_X7_isOpen u v1 v7).bind (fun r43 => if r43 = (0 : Int32) then nm (v7 + 1) (fun x45 => k_81 u v1 v2 v3 v4 v5 x45) else some ((-3 : Int32), u)) else nm (v7 + 1) (fun x42 => k_81 u v1 v2 v3 v4 v5 x42)))
set_option maxHeartbeats 4000000 in
set_option maxRecDepth 100000 in
theorem b_X7_begin_81 {p : Program} {l : Launch} {e : Env} {R : Room} {s : State} {m : MethodId} {args : Array Value} {below : List Frame} {meth : Method} {c : Code} {A : Nat → Prop} {Q : State → Prop} {D : va_G} {tc : Nat → ClassId} (o : Nat) (ad : Nat → Nat) (hRf : 2 ≤ R.frames) (hRl : 43 ≤ R.locals) (C : Cx p s m args meth c cX7_begin 8 RX7 (some .int)) {x0 : Int32 × St} (hret : RetI p l e R s m args below meth c Q cX7_begin D tc A .int (some x0) (fun x : Int32 × St => x.1) (fun x : Int32 × St => Mw tc o ad x.2)) (k_81 : St → Int32 → Int32 → Int32 → Int32 → Int32 → Int32 → Option (Int32 × St)) (hk_81 : ∀ (u : St) (v1 : Int32) (v2 : Int32) (v3 : Int32) (v4 : Int32) (v5 : Int32) (v7 : Int32), k_81 u v1 v2 v3 v4 v5 v7 = some x0 → ∀ (H : Heap) (locs : List Loc) (ls : Array Slot), Wd D tc A s H locs (Mw tc o ad u) → lv_has ls 8 [(0, .ref o), (1, .int v1), (2, .int v2), (3, .int v3), (4, .int v4), (5, .int v5), (7, .int v7)] → W p l e R s m args below meth c H locs 0 0 Q (F0 m 81 ls [])) : ∀ (u : St) (v1 : Int32) (v2 : Int32) (v3 : Int32) (v4 : Int32) (v5 : Int32) (v7 : Int32), q_X7_begin_81 k_81 u v1 v2 v3 v4 v5 v7 = some x0 → ∀ (H : Heap) (locs : List Loc) (ls : Array Slot), Wd D tc A s H locs (Mw tc o ad u) → lv_has ls 8 [(0, .ref o), (1, .int v1), (2, .int v2), (3, .int v3), (4, .int v4), (5, .int v5), (7, .int v7)] → W p l e R s m args below meth c H locs 0 0 Q (F0 m 81 ls []) := by
  obtain ⟨hx, hb, hr, hml, hown, hts, hlk, hN⟩ := id C
  intro u v1 v2 v3 v4 v5 v7 hj H locs ls V hl
  unfold q_X7_begin_81 at hj
  refine lv_iload hx hb dX7_begin_81 (lv_at hl 6 rfl) ?_
  refine lv_aload_n hx hb dX7_begin_83 rfl (lv_at hl 0 rfl) ?_
  refine x_get hx hb hts hown V inX7 0 rfl rfl 7 (by decide) tw_527 rfl rfl dX7_begin_84 ?_
  refine lv_iload_n hx hb dX7_begin_87 rfl (lv_at hl 1 rfl) ?_
  obtain ⟨i12, hj⟩ := gd_some hj
  refine x_iald hx hb V 5 rfl i12 dX7_begin_88 ?_
  refine lv_icmp_ge (tgt := 127) hx hb dX7_begin_89 (by decide) (fun c13 => ?_) (fun c13 => ?_)
  · replace hj := ip _ c13 hj
    refine lv_aload_n hx hb dX7_begin_127 rfl (lv_at hl 0 rfl) ?_
    refine x_get hx hb hts hown V inX7 0 rfl rfl 7 (by decide) tw_527 rfl rfl dX7_begin_128 ?_
    refine lv_iload_n hx hb dX7_begin_131 rfl (lv_at hl 1 rfl) ?_
    obtain ⟨i14, hj⟩ := gd_some hj
    refine x_iald hx hb V 5 rfl i14 dX7_begin_132 ?_
    refine lv_bipush (v := 10) hx hb dX7_begin_133 (by decide) ?_
    refine lv_icmp_ne (tgt := 141) hx hb dX7_begin_135 (by decide) (fun c15 => ?_) (fun c15 => ?_)
    · replace hj := iq _ c15 hj
      refine lv_bipush (v := 10) hx hb dX7_begin_141 (by decide) ?_
      refine lv_iload_n hx hb dX7_begin_143 rfl (lv_at hl 1 rfl) ?_
      refine lv_imul hx hb dX7_begin_144 ?_
      refine lv_aload_n hx hb dX7_begin_145 rfl (lv_at hl 0 rfl) ?_
      refine x_get hx hb hts hown V inX7 0 rfl rfl 7 (by decide) tw_527 rfl rfl dX7_begin_146 ?_
      refine lv_iload_n hx hb dX7_begin_149 rfl (lv_at hl 1 rfl) ?_
      obtain ⟨i16, hj⟩ := gd_some hj
      refine x_iald hx hb V 5 rfl i16 dX7_begin_150 ?_
      refine lv_iadd hx hb dX7_begin_151 ?_
      obtain ⟨x17, ex17, hj⟩ := nm_some hj
      refine x_topi ex17 ?_
      refine lv_istore (lv' := [(7, .int x17), (0, .ref o), (1, .int v1), (2, .int v2), (3, .int v3), (4, .int v4), (5, .int v5)]) hx hb dX7_begin_152 hl (by decide) rfl (fun ls hl => ?_)
      refine lv_aload_n hx hb dX7_begin_154 rfl (lv_at hl 1 rfl) ?_
      refine x_get hx hb hts hown V inX7 0 rfl rfl 8 (by decide) tw_528 rfl rfl dX7_begin_155 ?_
      refine lv_iload_n hx hb dX7_begin_158 rfl (lv_at hl 2 rfl) ?_
      refine lv_dup2_11 hx hb dX7_begin_159 rfl rfl ?_
      obtain ⟨i18, hj⟩ := gd_some hj
      refine x_iald hx hb V 6 rfl i18 dX7_begin_160 ?_
      refine lv_iconst (v := 1) hx hb dX7_begin_161 (by decide) ?_
      refine lv_iadd hx hb dX7_begin_162 ?_
      obtain ⟨i19, hj⟩ := gd_some hj
      obtain ⟨u20, eu20, hj⟩ := nm_some hj
      refine x_iast hx hb V 6 rfl i19 dX7_begin_163 (fun H locs V => ?_)
      replace V : Wd D tc A s H locs (Mw tc o ad u20) := by rw [eu20]; exact V
      refine lv_aload_n hx hb dX7_begin_164 rfl (lv_at hl 1 rfl) ?_
      refine x_get hx hb hts hown V inX7 0 rfl rfl 9 (by decide) tw_529 rfl rfl dX7_begin_165 ?_
      refine lv_iload hx hb dX7_begin_168 (lv_at hl 0 rfl) ?_
      refine lv_iload_n hx hb dX7_begin_170 rfl (lv_at hl 3 rfl) ?_
      obtain ⟨i21, hj⟩ := gd_some hj
      obtain ⟨u22, eu22, hj⟩ := nm_some hj
      refine x_iast hx hb V 7 rfl i21 dX7_begin_171 (fun H locs V => ?_)
      replace V : Wd D tc A s H locs (Mw tc o ad u22) := by rw [eu22]; exact V
      refine lv_aload_n hx hb dX7_begin_172 rfl (lv_at hl 1 rfl) ?_
      refine x_get hx hb hts hown V inX7 0 rfl rfl 10 (by decide) tw_530 rfl rfl dX7_begin_173 ?_
      refine lv_iload hx hb dX7_begin_176 (lv_at hl 0 rfl) ?_
      refine lv_iload_n hx hb dX7_begin_178 rfl (lv_at hl 4 rfl) ?_
      obtain ⟨i23, hj⟩ := gd_some hj
      obtain ⟨u24, eu24, hj⟩ := nm_some hj
      refine x_iast hx hb V 8 rfl i23 dX7_begin_179 (fun H locs V => ?_)
      replace V : Wd D tc A s H locs (Mw tc o ad u24) := by rw [eu24]; exact V
      refine lv_aload_n hx hb dX7_begin_180 rfl (lv_at hl 1 rfl) ?_
      refine x_get hx hb hts hown V inX7 0 rfl rfl 11 (by decide) tw_531 rfl rfl dX7_begin_181 ?_
      refine lv_iload hx hb dX7_begin_184 (lv_at hl 0 rfl) ?_
      refine lv_iload hx hb dX7_begin_186 (lv_at hl 5 rfl) ?_
      obtain ⟨i25, hj⟩ := gd_some hj
      obtain ⟨u26, eu26, hj⟩ := nm_some hj
      refine x_iast hx hb V 9 rfl i25 dX7_begin_188 (fun H locs V => ?_)
      replace V : Wd D tc A s H locs (Mw tc o ad u26) := by rw [eu26]; exact V
      refine lv_aload_n hx hb dX7_begin_189 rfl (lv_at hl 1 rfl) ?_
      refine x_get hx hb hts hown V inX7 0 rfl rfl 12 (by decide) tw_532 rfl rfl dX7_begin_190 ?_
      refine lv_iload hx hb dX7_begin_193 (lv_at hl 0 rfl) ?_
      refine lv_iload hx hb dX7_begin_195 (lv_at hl 6 rfl) ?_
      obtain ⟨i27, hj⟩ := gd_some hj
      obtain ⟨u28, eu28, hj⟩ := nm_some hj
      refine x_iast hx hb V 10 rfl i27 dX7_begin_197 (fun H locs V => ?_)
      replace V : Wd D tc A s H locs (Mw tc o ad u28) := by rw [eu28]; exact V
      refine lv_aload_n hx hb dX7_begin_198 rfl (lv_at hl 1 rfl) ?_
      refine x_get hx hb hts hown V inX7 0 rfl rfl 13 (by decide) tw_533 rfl rfl dX7_begin_199 ?_
      refine lv_iload hx hb dX7_begin_202 (lv_at hl 0 rfl) ?_
      refine lv_aload_n hx hb dX7_begin_204 rfl (lv_at hl 1 rfl) ?_
      refine x_get hx hb hts hown V inX7 0 rfl rfl 8 (by decide) tw_528 rfl rfl dX7_begin_205 ?_
      refine lv_iload_n hx hb dX7_begin_208 rfl (lv_at hl 2 rfl) ?_
      obtain ⟨i29, hj⟩ := gd_some hj
      refine x_iald hx hb V 6 rfl i29 dX7_begin_209 ?_
      obtain ⟨i30, hj⟩ := gd_some hj
      obtain ⟨u31, eu31, hj⟩ := nm_some hj
      refine x_iast hx hb V 11 rfl i30 dX7_begin_210 (fun H locs V => ?_)
      replace V : Wd D tc A s H locs (Mw tc o ad u31) := by rw [eu31]; exact V
      refine lv_aload_n hx hb dX7_begin_211 rfl (lv_at hl 1 rfl) ?_
      refine x_get hx hb hts hown V inX7 0 rfl rfl 14 (by decide) tw_534 rfl rfl dX7_begin_212 ?_
      refine lv_iload hx hb dX7_begin_215 (lv_at hl 0 rfl) ?_
      refine lv_iconst (v := 0) hx hb dX7_begin_217 (by decide) ?_
      obtain ⟨i32, hj⟩ := gd_some hj
      obtain ⟨u33, eu33, hj⟩ := nm_some hj
      refine x_iast hx hb V 12 rfl i32 dX7_begin_218 (fun H locs V => ?_)
      replace V : Wd D tc A s H locs (Mw tc o ad u33) := by rw [eu33]; exact V
      refine lv_aload_n hx hb dX7_begin_219 rfl (lv_at hl 1 rfl) ?_
      refine x_get hx hb hts hown V inX7 0 rfl rfl 15 (by decide) tw_535 rfl rfl dX7_begin_220 ?_
      refine lv_iload hx hb dX7_begin_223 (lv_at hl 0 rfl) ?_
      refine lv_iconst (v := 0) hx hb dX7_begin_225 (by decide) ?_
      obtain ⟨i34, hj⟩ := gd_some hj
      obtain ⟨u35, eu35, hj⟩ := nm_some hj
      refine x_iast hx hb V 13 rfl i34 dX7_begin_226 (fun H locs V => ?_)
      replace V : Wd D tc A s H locs (Mw tc o ad u35) := by rw [eu35]; exact V
      refine lv_aload_n hx hb dX7_begin_227 rfl (lv_at hl 1 rfl) ?_
      refine x_get hx hb hts hown V inX7 0 rfl rfl 7 (by decide) tw_527 rfl rfl dX7_begin_228 ?_
      refine lv_iload_n hx hb dX7_begin_231 rfl (lv_at hl 2 rfl) ?_
      refine lv_dup2_11 hx hb dX7_begin_232 rfl rfl ?_
      obtain ⟨i36, hj⟩ := gd_some hj
      refine x_iald hx hb V 5 rfl i36 dX7_begin_233 ?_
      refine lv_iconst (v := 1) hx hb dX7_begin_234 (by decide) ?_
      refine lv_iadd hx hb dX7_begin_235 ?_
      obtain ⟨i37, hj⟩ := gd_some hj
      obtain ⟨u38, eu38, hj⟩ := nm_some hj
      refine x_iast hx hb V 5 rfl i37 dX7_begin_236 (fun H locs V => ?_)
      replace V : Wd D tc A s H locs (Mw tc o ad u38) := by rw [eu38]; exact V
      refine lv_aload_n hx hb dX7_begin_237 rfl (lv_at hl 1 rfl) ?_
      refine x_get hx hb hts hown V inX7 0 rfl rfl 7 (by decide) tw_527 rfl rfl dX7_begin_238 ?_
      refine lv_iload_n hx hb dX7_begin_241 rfl (lv_at hl 2 rfl) ?_
      obtain ⟨i39, hj⟩ := gd_some hj
      refine x_iald hx hb V 5 rfl i39 dX7_begin_242 ?_
      refine lv_iconst (v := 1) hx hb dX7_begin_243 (by decide) ?_
      refine lv_isub hx hb dX7_begin_244 ?_
      exact hret ((u38.2.1 7 v1.toNatClampNeg) - (1 : Int32), u38) hj rfl V dX7_begin_245
    · replace hj := ip _ c15 hj
      refine lv_bipush (v := (-4)) hx hb dX7_begin_138 (by decide) ?_
      exact hret ((-4 : Int32), u) hj rfl V dX7_begin_140
  · replace hj := iq _ c13 hj
    refine lv_aload_n hx hb dX7_begin_92 rfl (lv_at hl 0 rfl) ?_
    refine x_get hx hb hts hown V inX7 0 rfl rfl 9 (by decide) tw_529 rfl rfl dX7_begin_93 ?_
    refine lv_bipush (v := 10) hx hb dX7_begin_96 (by decide) ?_
    refine lv_iload_n hx hb dX7_begin_98 rfl (lv_at hl 1 rfl) ?_
    refine lv_imul hx hb dX7_begin_99 ?_
    refine lv_iload hx hb dX7_begin_100 (lv_at hl 6 rfl) ?_
    refine lv_iadd hx hb dX7_begin_102 ?_
    obtain ⟨i40, hj⟩ := gd_some hj
    refine x_iald hx hb V 7 rfl i40 dX7_begin_103 ?_
    refine lv_iload_n hx hb dX7_begin_104 rfl (lv_at hl 2 rfl) ?_
    refine lv_icmp_ne (tgt := 121) hx hb dX7_begin_105 (by decide) (fun c41 => ?_) (fun c41 => ?_)
    · replace hj := iq _ c41 hj
      obtain ⟨x42, ex42, hj⟩ := nm_some hj
      refine lv_iinc (v := x42) (lv' := [(7, .int x42), (0, .ref o), (1, .int v1), (2, .int v2), (3, .int v3), (4, .int v4), (5, .int v5)]) hx hb dX7_begin_121 hl (k := 6) rfl (by rw [ex42]; rfl) (by decide) rfl (fun ls hl => ?_)
      refine lv_goto (tgt := 81) hx hb dX7_begin_124 (by decide) ?_
      exact hk_81 u v1 v2 v3 v4 v5 x42 hj _ _ _ V (lv_sub hl [1, 2, 3, 4, 5, 6, 0] rfl)
    · replace hj := ip _ c41 hj
      refine lv_aload_n hx hb dX7_begin_108 rfl (lv_at hl 0 rfl) ?_
      refine lv_iload_n hx hb dX7_begin_109 rfl (lv_at hl 1 rfl) ?_
      refine lv_iload hx hb dX7_begin_110 (lv_at hl 6 rfl) ?_
      obtain ⟨r43, hr43, hj⟩ := bd_some hj
      refine x_allI V _ (rg_map _) (x_runV (n := 2) (rest := []) C V _ (rg_map _) (rg_nd _) (k_X7_isOpen l D tc o ad u v1 v7 hr43) tw_641 tw_643 tp_11 tw_6 tw_644 (by decide +kernel) ⟨Nat.le_trans (Nat.le_of_ble_eq_true rfl) hRf, Nat.le_trans (Nat.le_of_ble_eq_true rfl) hRl⟩ ⟨Nat.zero_le _, Nat.zero_le _⟩ 0 6 rfl rfl rfl hl.1 rfl (Nat.le_of_ble_eq_true rfl) dX7_begin_112) (fun H locs V zr43 => ?_)
      replace V : Wd D tc A s H locs (Mw tc o ad u) := V
      refine lv_if_eq (tgt := 121) hx hb dX7_begin_115 (by decide) (fun c44 => ?_) (fun c44 => ?_)
      · replace hj := ip _ c44 hj
        obtain ⟨x45, ex45, hj⟩ := nm_some hj
        refine lv_iinc (v := x45) (lv' := [(7, .int x45), (0, .ref o), (1, .int v1), (2, .int v2), (3, .int v3), (4, .int v4), (5, .int v5)]) hx hb dX7_begin_121 hl (k := 6) rfl (by rw [ex45]; rfl) (by decide) rfl (fun ls hl => ?_)
        refine lv_goto (tgt := 81) hx hb dX7_begin_124 (by decide) ?_
        exact hk_81 u v1 v2 v3 v4 v5 x45 hj _ _ _ V (lv_sub hl [1, 2, 3, 4, 5, 6, 0] rfl)
      · replace hj := iq _ c44 hj
        refine lv_bipush (v := (-3)) hx hb dX7_begin_118 (by decide) ?_
        exact hret ((-3 : Int32), u) hj rfl V dX7_begin_120
def j_X7_begin_81  : Nat → St → Int32 → Int32 → Int32 → Int32 → Int32 → Int32 → Option (Int32 × St)
  | 0 => fun _ _ _ _ _ _ _ => none
  | n + 1 => q_X7_begin_81  (j_X7_begin_81  n)
theorem lp_X7_begin_81 {p : Program} {l : Launch} {e : Env} {R : Room} {s : State} {m : MethodId} {args : Array Value} {below : List Frame} {meth : Method} {c : Code} {A : Nat → Prop} {Q : State → Prop} {D : va_G} {tc : Nat → ClassId} (o : Nat) (ad : Nat → Nat) (hRf : 2 ≤ R.frames) (hRl : 43 ≤ R.locals) (C : Cx p s m args meth c cX7_begin 8 RX7 (some .int)) {x0 : Int32 × St} (hret : RetI p l e R s m args below meth c Q cX7_begin D tc A .int (some x0) (fun x : Int32 × St => x.1) (fun x : Int32 × St => Mw tc o ad x.2))  : ∀ (n : Nat), ∀ (u : St) (v1 : Int32) (v2 : Int32) (v3 : Int32) (v4 : Int32) (v5 : Int32) (v7 : Int32), j_X7_begin_81  n u v1 v2 v3 v4 v5 v7 = some x0 → ∀ (H : Heap) (locs : List Loc) (ls : Array Slot), Wd D tc A s H locs (Mw tc o ad u) → lv_has ls 8 [(0, .ref o), (1, .int v1), (2, .int v2), (3, .int v3), (4, .int v4), (5, .int v5), (7, .int v7)] → W p l e R s m args below meth c H locs 0 0 Q (F0 m 81 ls []) := by
  intro n
  induction n with
  | zero =>
    intro u v1 v2 v3 v4 v5 v7 hj
    have hj : (none : Option (Int32 × St)) = some x0 := hj
    cases hj
  | succ n ih =>
    intro u v1 v2 v3 v4 v5 v7 hj
    exact b_X7_begin_81 o ad hRf hRl C hret   (j_X7_begin_81  n) ih u v1 v2 v3 v4 v5 v7 hj
def j_X7_begin (u : St) (v1 : Int32) (v2 : Int32) (v3 : Int32) (v4 : Int32) (v5 : Int32) : Option (Int32 × St) :=
  (j_X7_isHistory u v1).bind (fun r1 => if r1 = (0 : Int32) then some ((-1 : Int32), u) else gd v1 12 (nm (u.2.1 5 v1.toNatClampNeg) (fun x4 => (j_X7_in v2 (0 : Int32) (3 : Int32)).bind (fun r5 => if r5 = (0 : Int32) then some ((-2 : Int32), u) else (j_X7_actsOf x4).bind (fun r7 => (j_X7_in v3 (0 : Int32) (r7 - (1 : Int32))).bind (fun r8 => if r8 = (0 : Int32) then some ((-2 : Int32), u) else if x4 = (4 : Int32) then (j_X7_in v4 (0 : Int32) (15 : Int32)).bind (fun r48 => if r48 = (0 : Int32) then some ((-2 : Int32), u) else if x4 = (5 : Int32) then (j_X7_in v4 (0 : Int32) (3 : Int32)).bind (fun r51 => if r51 = (0 : Int32) then some ((-2 : Int32), u) else j_X7_begin_81  100 u v1 v2 v3 v4 v5 (0 : Int32)) else j_X7_begin_81  100 u v1 v2 v3 v4 v5 (0 : Int32)) else if x4 = (5 : Int32) then (j_X7_in v4 (0 : Int32) (3 : Int32)).bind (fun r46 => if r46 = (0 : Int32) then some ((-2 : Int32), u) else j_X7_begin_81  100 u v1 v2 v3 v4 v5 (0 : Int32)) else j_X7_begin_81  100 u v1 v2 v3 v4 v5 (0 : Int32)))))))
set_option maxHeartbeats 4000000 in
set_option maxRecDepth 100000 in
theorem k_X7_begin (l : Launch) (D : va_G) (tc : Nat → ClassId) (o : Nat) (ad : Nat → Nat) (u : St) (v1 : Int32) (v2 : Int32) (v3 : Int32) (v4 : Int32) (v5 : Int32) {x0 : Int32 × St} (hj : j_X7_begin u v1 v2 v3 v4 v5 = some x0) : MetD l D tc yX7_begin cX7_begin 8 (some .int) 2 43 [.ref o, .int v1, .int v2, .int v3, .int v4, .int v5] (Mw tc o ad u) (some (.int x0.1)) (Mw tc o ad x0.2) :=
  x_entI (fun x : Int32 × St => x.1) (fun x : Int32 × St => Mw tc o ad x.2) (by decide) (own := RX7) rfl (Nat.le_of_ble_eq_true rfl) (fun p e s m args below meth c A Q ls C V hl hret => by
  obtain ⟨hx, hb, hr, hml, hown, hts, hlk, hN⟩ := id C
  have hRf : 2 ≤ (rmz 2 0 0 43).frames := Nat.le_refl _
  have hRl : 43 ≤ (rmz 2 0 0 43).locals := Nat.le_refl _
  generalize (rmz 2 0 0 43) = R at hret hRf hRl ⊢
  generalize s.heap = H at V ⊢
  generalize ([] : List Loc) = locs at V ⊢
  have hl : lv_has ls 8 [(0, .ref o), (1, .int v1), (2, .int v2), (3, .int v3), (4, .int v4), (5, .int v5)] := hl
  unfold j_X7_begin at hj
  refine lv_aload_n hx hb dX7_begin_0 rfl (lv_at hl 0 rfl) ?_
  refine lv_iload_n hx hb dX7_begin_1 rfl (lv_at hl 1 rfl) ?_
  obtain ⟨r1, hr1, hj⟩ := bd_some hj
  refine x_allI V _ (rg_map _) (x_runV (n := 1) (rest := []) C V _ (rg_map _) (rg_nd _) (k_X7_isHistory l D tc o ad u v1 hr1) tw_630 tw_632 tp_10 tw_6 tw_633 (by decide +kernel) ⟨Nat.le_trans (Nat.le_of_ble_eq_true rfl) hRf, Nat.le_trans (Nat.le_of_ble_eq_true rfl) hRl⟩ ⟨Nat.zero_le _, Nat.zero_le _⟩ 0 6 rfl rfl rfl hl.1 rfl (Nat.le_of_ble_eq_true rfl) dX7_begin_2) (fun H locs V zr1 => ?_)
  replace V : Wd D tc A s H locs (Mw tc o ad u) := V
  refine lv_if_ne (tgt := 10) hx hb dX7_begin_5 (by decide) (fun c2 => ?_) (fun c2 => ?_)
  · replace hj := iq _ c2 hj
    refine lv_aload_n hx hb dX7_begin_10 rfl (lv_at hl 0 rfl) ?_
    refine x_get hx hb hts hown V inX7 0 rfl rfl 5 (by decide) tw_525 rfl rfl dX7_begin_11 ?_
    refine lv_iload_n hx hb dX7_begin_14 rfl (lv_at hl 1 rfl) ?_
    obtain ⟨i3, hj⟩ := gd_some hj
    refine x_iald hx hb V 3 rfl i3 dX7_begin_15 ?_
    obtain ⟨x4, ex4, hj⟩ := nm_some hj
    refine x_topi ex4 ?_
    refine lv_istore (lv' := [(6, .int x4), (0, .ref o), (1, .int v1), (2, .int v2), (3, .int v3), (4, .int v4), (5, .int v5)]) hx hb dX7_begin_16 hl (by decide) rfl (fun ls hl => ?_)
    refine lv_iload_n hx hb dX7_begin_18 rfl (lv_at hl 3 rfl) ?_
    refine lv_iconst (v := 0) hx hb dX7_begin_19 (by decide) ?_
    refine lv_iconst (v := 3) hx hb dX7_begin_20 (by decide) ?_
    obtain ⟨r5, hr5, hj⟩ := bd_some hj
    refine x_allI V _ (rg_map _) (x_runS (n := 3) (rest := []) C V _ (rg_map _) (rg_nd _) (k_X7_in l D tc (Mw tc o ad u) v2 (0 : Int32) (3 : Int32) hr5) tw_619 tw_620 tw_6 tw_621 (by decide +kernel) ⟨Nat.le_trans (Nat.le_of_ble_eq_true rfl) hRf, Nat.le_trans (Nat.le_of_ble_eq_true rfl) hRl⟩ ⟨Nat.zero_le _, Nat.zero_le _⟩ rfl hl.1 rfl (Nat.le_of_ble_eq_true rfl) dX7_begin_21) (fun H locs V zr5 => ?_)
    replace V : Wd D tc A s H locs (Mw tc o ad u) := V
    refine lv_if_eq (tgt := 75) hx hb dX7_begin_24 (by decide) (fun c6 => ?_) (fun c6 => ?_)
    · replace hj := ip _ c6 hj
      refine lv_bipush (v := (-2)) hx hb dX7_begin_75 (by decide) ?_
      exact hret ((-2 : Int32), u) hj rfl V dX7_begin_77
    · replace hj := iq _ c6 hj
      refine lv_iload_n hx hb dX7_begin_27 rfl (lv_at hl 4 rfl) ?_
      refine lv_iconst (v := 0) hx hb dX7_begin_28 (by decide) ?_
      refine lv_iload hx hb dX7_begin_29 (lv_at hl 0 rfl) ?_
      obtain ⟨r7, hr7, hj⟩ := bd_some hj
      refine x_allI V _ (rg_map _) (x_runS (n := 1) (rest := [.int (0 : Int32), .int v3]) C V _ (rg_map _) (rg_nd _) (k_X7_actsOf l D tc (Mw tc o ad u) x4 hr7) tw_638 tw_639 tw_6 tw_640 (by decide +kernel) ⟨Nat.le_trans (Nat.le_of_ble_eq_true rfl) hRf, Nat.le_trans (Nat.le_of_ble_eq_true rfl) hRl⟩ ⟨Nat.zero_le _, Nat.zero_le _⟩ rfl hl.1 rfl (Nat.le_of_ble_eq_true rfl) dX7_begin_31) (fun H locs V zr7 => ?_)
      replace V : Wd D tc A s H locs (Mw tc o ad u) := V
      refine lv_iconst (v := 1) hx hb dX7_begin_34 (by decide) ?_
      refine lv_isub hx hb dX7_begin_35 ?_
      obtain ⟨r8, hr8, hj⟩ := bd_some hj
      refine x_allI V _ (rg_map _) (x_runS (n := 3) (rest := []) C V _ (rg_map _) (rg_nd _) (k_X7_in l D tc (Mw tc o ad u) v3 (0 : Int32) (r7 - (1 : Int32)) hr8) tw_619 tw_620 tw_6 tw_621 (by decide +kernel) ⟨Nat.le_trans (Nat.le_of_ble_eq_true rfl) hRf, Nat.le_trans (Nat.le_of_ble_eq_true rfl) hRl⟩ ⟨Nat.zero_le _, Nat.zero_le _⟩ rfl hl.1 rfl (Nat.le_of_ble_eq_true rfl) dX7_begin_36) (fun H locs V zr8 => ?_)
      replace V : Wd D tc A s H locs (Mw tc o ad u) := V
      refine lv_if_eq (tgt := 75) hx hb dX7_begin_39 (by decide) (fun c9 => ?_) (fun c9 => ?_)
      · replace hj := ip _ c9 hj
        refine lv_bipush (v := (-2)) hx hb dX7_begin_75 (by decide) ?_
        exact hret ((-2 : Int32), u) hj rfl V dX7_begin_77
      · replace hj := iq _ c9 hj
        refine lv_iload hx hb dX7_begin_42 (lv_at hl 0 rfl) ?_
        refine lv_iconst (v := 4) hx hb dX7_begin_44 (by decide) ?_
        refine lv_icmp_ne (tgt := 59) hx hb dX7_begin_45 (by decide) (fun c10 => ?_) (fun c10 => ?_)
        · replace hj := iq _ c10 hj
          refine lv_iload hx hb dX7_begin_59 (lv_at hl 0 rfl) ?_
          refine lv_iconst (v := 5) hx hb dX7_begin_61 (by decide) ?_
          refine lv_icmp_ne (tgt := 78) hx hb dX7_begin_62 (by decide) (fun c11 => ?_) (fun c11 => ?_)
          · replace hj := iq _ c11 hj
            refine lv_iconst (v := 0) hx hb dX7_begin_78 (by decide) ?_
            refine lv_istore (lv' := [(7, .int (0 : Int32)), (6, .int x4), (0, .ref o), (1, .int v1), (2, .int v2), (3, .int v3), (4, .int v4), (5, .int v5)]) hx hb dX7_begin_79 hl (by decide) rfl (fun ls hl => ?_)
            exact lp_X7_begin_81 o ad hRf hRl C hret   100 u v1 v2 v3 v4 v5 (0 : Int32) hj _ _ _ V (lv_sub hl [2, 3, 4, 5, 6, 7, 0] rfl)
          · replace hj := ip _ c11 hj
            refine lv_iload hx hb dX7_begin_65 (lv_at hl 5 rfl) ?_
            refine lv_iconst (v := 0) hx hb dX7_begin_67 (by decide) ?_
            refine lv_iconst (v := 3) hx hb dX7_begin_68 (by decide) ?_
            obtain ⟨r46, hr46, hj⟩ := bd_some hj
            refine x_allI V _ (rg_map _) (x_runS (n := 3) (rest := []) C V _ (rg_map _) (rg_nd _) (k_X7_in l D tc (Mw tc o ad u) v4 (0 : Int32) (3 : Int32) hr46) tw_619 tw_620 tw_6 tw_621 (by decide +kernel) ⟨Nat.le_trans (Nat.le_of_ble_eq_true rfl) hRf, Nat.le_trans (Nat.le_of_ble_eq_true rfl) hRl⟩ ⟨Nat.zero_le _, Nat.zero_le _⟩ rfl hl.1 rfl (Nat.le_of_ble_eq_true rfl) dX7_begin_69) (fun H locs V zr46 => ?_)
            replace V : Wd D tc A s H locs (Mw tc o ad u) := V
            refine lv_if_ne (tgt := 78) hx hb dX7_begin_72 (by decide) (fun c47 => ?_) (fun c47 => ?_)
            · replace hj := iq _ c47 hj
              refine lv_iconst (v := 0) hx hb dX7_begin_78 (by decide) ?_
              refine lv_istore (lv' := [(7, .int (0 : Int32)), (6, .int x4), (0, .ref o), (1, .int v1), (2, .int v2), (3, .int v3), (4, .int v4), (5, .int v5)]) hx hb dX7_begin_79 hl (by decide) rfl (fun ls hl => ?_)
              exact lp_X7_begin_81 o ad hRf hRl C hret   100 u v1 v2 v3 v4 v5 (0 : Int32) hj _ _ _ V (lv_sub hl [2, 3, 4, 5, 6, 7, 0] rfl)
            · replace hj := ip _ c47 hj
              refine lv_bipush (v := (-2)) hx hb dX7_begin_75 (by decide) ?_
              exact hret ((-2 : Int32), u) hj rfl V dX7_begin_77
        · replace hj := ip _ c10 hj
          refine lv_iload hx hb dX7_begin_48 (lv_at hl 5 rfl) ?_
          refine lv_iconst (v := 0) hx hb dX7_begin_50 (by decide) ?_
          refine lv_bipush (v := 15) hx hb dX7_begin_51 (by decide) ?_
          obtain ⟨r48, hr48, hj⟩ := bd_some hj
          refine x_allI V _ (rg_map _) (x_runS (n := 3) (rest := []) C V _ (rg_map _) (rg_nd _) (k_X7_in l D tc (Mw tc o ad u) v4 (0 : Int32) (15 : Int32) hr48) tw_619 tw_620 tw_6 tw_621 (by decide +kernel) ⟨Nat.le_trans (Nat.le_of_ble_eq_true rfl) hRf, Nat.le_trans (Nat.le_of_ble_eq_true rfl) hRl⟩ ⟨Nat.zero_le _, Nat.zero_le _⟩ rfl hl.1 rfl (Nat.le_of_ble_eq_true rfl) dX7_begin_53) (fun H locs V zr48 => ?_)
          replace V : Wd D tc A s H locs (Mw tc o ad u) := V
          refine lv_if_eq (tgt := 75) hx hb dX7_begin_56 (by decide) (fun c49 => ?_) (fun c49 => ?_)
          · replace hj := ip _ c49 hj
            refine lv_bipush (v := (-2)) hx hb dX7_begin_75 (by decide) ?_
            exact hret ((-2 : Int32), u) hj rfl V dX7_begin_77
          · replace hj := iq _ c49 hj
            refine lv_iload hx hb dX7_begin_59 (lv_at hl 0 rfl) ?_
            refine lv_iconst (v := 5) hx hb dX7_begin_61 (by decide) ?_
            refine lv_icmp_ne (tgt := 78) hx hb dX7_begin_62 (by decide) (fun c50 => ?_) (fun c50 => ?_)
            · replace hj := iq _ c50 hj
              refine lv_iconst (v := 0) hx hb dX7_begin_78 (by decide) ?_
              refine lv_istore (lv' := [(7, .int (0 : Int32)), (6, .int x4), (0, .ref o), (1, .int v1), (2, .int v2), (3, .int v3), (4, .int v4), (5, .int v5)]) hx hb dX7_begin_79 hl (by decide) rfl (fun ls hl => ?_)
              exact lp_X7_begin_81 o ad hRf hRl C hret   100 u v1 v2 v3 v4 v5 (0 : Int32) hj _ _ _ V (lv_sub hl [2, 3, 4, 5, 6, 7, 0] rfl)
            · replace hj := ip _ c50 hj
              refine lv_iload hx hb dX7_begin_65 (lv_at hl 5 rfl) ?_
              refine lv_iconst (v := 0) hx hb dX7_begin_67 (by decide) ?_
              refine lv_iconst (v := 3) hx hb dX7_begin_68 (by decide) ?_
              obtain ⟨r51, hr51, hj⟩ := bd_some hj
              refine x_allI V _ (rg_map _) (x_runS (n := 3) (rest := []) C V _ (rg_map _) (rg_nd _) (k_X7_in l D tc (Mw tc o ad u) v4 (0 : Int32) (3 : Int32) hr51) tw_619 tw_620 tw_6 tw_621 (by decide +kernel) ⟨Nat.le_trans (Nat.le_of_ble_eq_true rfl) hRf, Nat.le_trans (Nat.le_of_ble_eq_true rfl) hRl⟩ ⟨Nat.zero_le _, Nat.zero_le _⟩ rfl hl.1 rfl (Nat.le_of_ble_eq_true rfl) dX7_begin_69) (fun H locs V zr51 => ?_)
              replace V : Wd D tc A s H locs (Mw tc o ad u) := V
              refine lv_if_ne (tgt := 78) hx hb dX7_begin_72 (by decide) (fun c52 => ?_) (fun c52 => ?_)
              · replace hj := iq _ c52 hj
                refine lv_iconst (v := 0) hx hb dX7_begin_78 (by decide) ?_
                refine lv_istore (lv' := [(7, .int (0 : Int32)), (6, .int x4), (0, .ref o), (1, .int v1), (2, .int v2), (3, .int v3), (4, .int v4), (5, .int v5)]) hx hb dX7_begin_79 hl (by decide) rfl (fun ls hl => ?_)
                exact lp_X7_begin_81 o ad hRf hRl C hret   100 u v1 v2 v3 v4 v5 (0 : Int32) hj _ _ _ V (lv_sub hl [2, 3, 4, 5, 6, 7, 0] rfl)
              · replace hj := ip _ c52 hj
                refine lv_bipush (v := (-2)) hx hb dX7_begin_75 (by decide) ?_
                exact hret ((-2 : Int32), u) hj rfl V dX7_begin_77
  · replace hj := ip _ c2 hj
    refine lv_iconst (v := (-1)) hx hb dX7_begin_8 (by decide) ?_
    exact hret ((-1 : Int32), u) hj rfl V dX7_begin_9)

def j_X7_answer (u : St) (v1 : Int32) (v2 : Int32) (v3 : Int32) : Option (Int32 × St) :=
  (j_X7_isCall u v1 v2).bind (fun r1 => if r1 = (0 : Int32) then some ((-1 : Int32), u) else (j_X7_isOpen u v1 v2).bind (fun r3 => if r3 = (0 : Int32) then some ((-3 : Int32), u) else gd v1 12 (gd v1 12 (nm (sA u 8 v1.toNatClampNeg ((u.2.1 8 v1.toNatClampNeg) + (1 : Int32))) (fun u7 => gd v1 12 (gd (((10 : Int32) * v1) + v2) 120 (nm (sA u7 14 (((10 : Int32) * v1) + v2).toNatClampNeg (u7.2.1 8 v1.toNatClampNeg)) (fun u10 => gd (((10 : Int32) * v1) + v2) 120 (nm (sA u10 15 (((10 : Int32) * v1) + v2).toNatClampNeg v3) (fun u12 => gd v1 12 (some (u12.2.1 8 v1.toNatClampNeg, u12))))))))))))
set_option maxHeartbeats 4000000 in
set_option maxRecDepth 100000 in
theorem k_X7_answer (l : Launch) (D : va_G) (tc : Nat → ClassId) (o : Nat) (ad : Nat → Nat) (u : St) (v1 : Int32) (v2 : Int32) (v3 : Int32) {x0 : Int32 × St} (hj : j_X7_answer u v1 v2 v3 = some x0) : MetD l D tc yX7_answer cX7_answer 4 (some .int) 3 65 [.ref o, .int v1, .int v2, .int v3] (Mw tc o ad u) (some (.int x0.1)) (Mw tc o ad x0.2) :=
  x_entI (fun x : Int32 × St => x.1) (fun x : Int32 × St => Mw tc o ad x.2) (by decide) (own := RX7) rfl (Nat.le_of_ble_eq_true rfl) (fun p e s m args below meth c A Q ls C V hl hret => by
  obtain ⟨hx, hb, hr, hml, hown, hts, hlk, hN⟩ := id C
  have hRf : 3 ≤ (rmz 3 0 0 65).frames := Nat.le_refl _
  have hRl : 65 ≤ (rmz 3 0 0 65).locals := Nat.le_refl _
  generalize (rmz 3 0 0 65) = R at hret hRf hRl ⊢
  generalize s.heap = H at V ⊢
  generalize ([] : List Loc) = locs at V ⊢
  have hl : lv_has ls 4 [(0, .ref o), (1, .int v1), (2, .int v2), (3, .int v3)] := hl
  unfold j_X7_answer at hj
  refine lv_aload_n hx hb dX7_answer_0 rfl (lv_at hl 0 rfl) ?_
  refine lv_iload_n hx hb dX7_answer_1 rfl (lv_at hl 1 rfl) ?_
  refine lv_iload_n hx hb dX7_answer_2 rfl (lv_at hl 2 rfl) ?_
  obtain ⟨r1, hr1, hj⟩ := bd_some hj
  refine x_allI V _ (rg_map _) (x_runV (n := 2) (rest := []) C V _ (rg_map _) (rg_nd _) (k_X7_isCall l D tc o ad u v1 v2 hr1) tw_649 tw_651 tp_12 tw_6 tw_652 (by decide +kernel) ⟨Nat.le_trans (Nat.le_of_ble_eq_true rfl) hRf, Nat.le_trans (Nat.le_of_ble_eq_true rfl) hRl⟩ ⟨Nat.zero_le _, Nat.zero_le _⟩ 0 6 rfl rfl rfl hl.1 rfl (Nat.le_of_ble_eq_true rfl) dX7_answer_3) (fun H locs V zr1 => ?_)
  replace V : Wd D tc A s H locs (Mw tc o ad u) := V
  refine lv_if_ne (tgt := 11) hx hb dX7_answer_6 (by decide) (fun c2 => ?_) (fun c2 => ?_)
  · replace hj := iq _ c2 hj
    refine lv_aload_n hx hb dX7_answer_11 rfl (lv_at hl 0 rfl) ?_
    refine lv_iload_n hx hb dX7_answer_12 rfl (lv_at hl 1 rfl) ?_
    refine lv_iload_n hx hb dX7_answer_13 rfl (lv_at hl 2 rfl) ?_
    obtain ⟨r3, hr3, hj⟩ := bd_some hj
    refine x_allI V _ (rg_map _) (x_runV (n := 2) (rest := []) C V _ (rg_map _) (rg_nd _) (k_X7_isOpen l D tc o ad u v1 v2 hr3) tw_641 tw_643 tp_11 tw_6 tw_644 (by decide +kernel) ⟨Nat.le_trans (Nat.le_of_ble_eq_true rfl) hRf, Nat.le_trans (Nat.le_of_ble_eq_true rfl) hRl⟩ ⟨Nat.zero_le _, Nat.zero_le _⟩ 0 6 rfl rfl rfl hl.1 rfl (Nat.le_of_ble_eq_true rfl) dX7_answer_14) (fun H locs V zr3 => ?_)
    replace V : Wd D tc A s H locs (Mw tc o ad u) := V
    refine lv_if_ne (tgt := 23) hx hb dX7_answer_17 (by decide) (fun c4 => ?_) (fun c4 => ?_)
    · replace hj := iq _ c4 hj
      refine lv_aload_n hx hb dX7_answer_23 rfl (lv_at hl 0 rfl) ?_
      refine x_get hx hb hts hown V inX7 0 rfl rfl 8 (by decide) tw_528 rfl rfl dX7_answer_24 ?_
      refine lv_iload_n hx hb dX7_answer_27 rfl (lv_at hl 1 rfl) ?_
      refine lv_dup2_11 hx hb dX7_answer_28 rfl rfl ?_
      obtain ⟨i5, hj⟩ := gd_some hj
      refine x_iald hx hb V 6 rfl i5 dX7_answer_29 ?_
      refine lv_iconst (v := 1) hx hb dX7_answer_30 (by decide) ?_
      refine lv_iadd hx hb dX7_answer_31 ?_
      obtain ⟨i6, hj⟩ := gd_some hj
      obtain ⟨u7, eu7, hj⟩ := nm_some hj
      refine x_iast hx hb V 6 rfl i6 dX7_answer_32 (fun H locs V => ?_)
      replace V : Wd D tc A s H locs (Mw tc o ad u7) := by rw [eu7]; exact V
      refine lv_aload_n hx hb dX7_answer_33 rfl (lv_at hl 0 rfl) ?_
      refine x_get hx hb hts hown V inX7 0 rfl rfl 14 (by decide) tw_534 rfl rfl dX7_answer_34 ?_
      refine lv_bipush (v := 10) hx hb dX7_answer_37 (by decide) ?_
      refine lv_iload_n hx hb dX7_answer_39 rfl (lv_at hl 1 rfl) ?_
      refine lv_imul hx hb dX7_answer_40 ?_
      refine lv_iload_n hx hb dX7_answer_41 rfl (lv_at hl 2 rfl) ?_
      refine lv_iadd hx hb dX7_answer_42 ?_
      refine lv_aload_n hx hb dX7_answer_43 rfl (lv_at hl 0 rfl) ?_
      refine x_get hx hb hts hown V inX7 0 rfl rfl 8 (by decide) tw_528 rfl rfl dX7_answer_44 ?_
      refine lv_iload_n hx hb dX7_answer_47 rfl (lv_at hl 1 rfl) ?_
      obtain ⟨i8, hj⟩ := gd_some hj
      refine x_iald hx hb V 6 rfl i8 dX7_answer_48 ?_
      obtain ⟨i9, hj⟩ := gd_some hj
      obtain ⟨u10, eu10, hj⟩ := nm_some hj
      refine x_iast hx hb V 12 rfl i9 dX7_answer_49 (fun H locs V => ?_)
      replace V : Wd D tc A s H locs (Mw tc o ad u10) := by rw [eu10]; exact V
      refine lv_aload_n hx hb dX7_answer_50 rfl (lv_at hl 0 rfl) ?_
      refine x_get hx hb hts hown V inX7 0 rfl rfl 15 (by decide) tw_535 rfl rfl dX7_answer_51 ?_
      refine lv_bipush (v := 10) hx hb dX7_answer_54 (by decide) ?_
      refine lv_iload_n hx hb dX7_answer_56 rfl (lv_at hl 1 rfl) ?_
      refine lv_imul hx hb dX7_answer_57 ?_
      refine lv_iload_n hx hb dX7_answer_58 rfl (lv_at hl 2 rfl) ?_
      refine lv_iadd hx hb dX7_answer_59 ?_
      refine lv_iload_n hx hb dX7_answer_60 rfl (lv_at hl 3 rfl) ?_
      obtain ⟨i11, hj⟩ := gd_some hj
      obtain ⟨u12, eu12, hj⟩ := nm_some hj
      refine x_iast hx hb V 13 rfl i11 dX7_answer_61 (fun H locs V => ?_)
      replace V : Wd D tc A s H locs (Mw tc o ad u12) := by rw [eu12]; exact V
      refine lv_aload_n hx hb dX7_answer_62 rfl (lv_at hl 0 rfl) ?_
      refine x_get hx hb hts hown V inX7 0 rfl rfl 8 (by decide) tw_528 rfl rfl dX7_answer_63 ?_
      refine lv_iload_n hx hb dX7_answer_66 rfl (lv_at hl 1 rfl) ?_
      obtain ⟨i13, hj⟩ := gd_some hj
      refine x_iald hx hb V 6 rfl i13 dX7_answer_67 ?_
      exact hret (u12.2.1 8 v1.toNatClampNeg, u12) hj rfl V dX7_answer_68
    · replace hj := ip _ c4 hj
      refine lv_bipush (v := (-3)) hx hb dX7_answer_20 (by decide) ?_
      exact hret ((-3 : Int32), u) hj rfl V dX7_answer_22
  · replace hj := ip _ c2 hj
    refine lv_iconst (v := (-1)) hx hb dX7_answer_9 (by decide) ?_
    exact hret ((-1 : Int32), u) hj rfl V dX7_answer_10)

def j_X7_alter (u : St) (v1 : Int32) (v2 : Int32) (v3 : Int32) : Option (Int32 × St) :=
  (j_X7_isCall u v1 v2).bind (fun r1 => if r1 = (0 : Int32) then nm (sI u 16 (-1 : Int32)) (fun u17 => if (u17.1 16) = (0 : Int32) then gd (((10 : Int32) * v1) + v2) 120 (nm (u17.2.1 15 (((10 : Int32) * v1) + v2).toNatClampNeg) (fun x20 => gd (((10 : Int32) * v1) + v2) 120 (nm (sA u17 15 (((10 : Int32) * v1) + v2).toNatClampNeg v3) (fun u22 => some (x20, u22))))) else some ((0 : Int32), u17)) else (j_X7_isOpen u v1 v2).bind (fun r3 => if r3 = (0 : Int32) then nm (sI u 16 (0 : Int32)) (fun u5 => if (u5.1 16) = (0 : Int32) then gd (((10 : Int32) * v1) + v2) 120 (nm (u5.2.1 15 (((10 : Int32) * v1) + v2).toNatClampNeg) (fun x8 => gd (((10 : Int32) * v1) + v2) 120 (nm (sA u5 15 (((10 : Int32) * v1) + v2).toNatClampNeg v3) (fun u10 => some (x8, u10))))) else some ((0 : Int32), u5)) else nm (sI u 16 (-3 : Int32)) (fun u11 => if (u11.1 16) = (0 : Int32) then gd (((10 : Int32) * v1) + v2) 120 (nm (u11.2.1 15 (((10 : Int32) * v1) + v2).toNatClampNeg) (fun x14 => gd (((10 : Int32) * v1) + v2) 120 (nm (sA u11 15 (((10 : Int32) * v1) + v2).toNatClampNeg v3) (fun u16 => some (x14, u16))))) else some ((0 : Int32), u11))))
set_option maxHeartbeats 4000000 in
set_option maxRecDepth 100000 in
theorem k_X7_alter (l : Launch) (D : va_G) (tc : Nat → ClassId) (o : Nat) (ad : Nat → Nat) (u : St) (v1 : Int32) (v2 : Int32) (v3 : Int32) {x0 : Int32 × St} (hj : j_X7_alter u v1 v2 v3 = some x0) : MetD l D tc yX7_alter cX7_alter 5 (some .int) 3 65 [.ref o, .int v1, .int v2, .int v3] (Mw tc o ad u) (some (.int x0.1)) (Mw tc o ad x0.2) :=
  x_entI (fun x : Int32 × St => x.1) (fun x : Int32 × St => Mw tc o ad x.2) (by decide) (own := RX7) rfl (Nat.le_of_ble_eq_true rfl) (fun p e s m args below meth c A Q ls C V hl hret => by
  obtain ⟨hx, hb, hr, hml, hown, hts, hlk, hN⟩ := id C
  have hRf : 3 ≤ (rmz 3 0 0 65).frames := Nat.le_refl _
  have hRl : 65 ≤ (rmz 3 0 0 65).locals := Nat.le_refl _
  generalize (rmz 3 0 0 65) = R at hret hRf hRl ⊢
  generalize s.heap = H at V ⊢
  generalize ([] : List Loc) = locs at V ⊢
  have hl : lv_has ls 5 [(0, .ref o), (1, .int v1), (2, .int v2), (3, .int v3)] := hl
  unfold j_X7_alter at hj
  refine lv_aload_n hx hb dX7_alter_0 rfl (lv_at hl 0 rfl) ?_
  refine lv_aload_n hx hb dX7_alter_1 rfl (lv_at hl 0 rfl) ?_
  refine lv_iload_n hx hb dX7_alter_2 rfl (lv_at hl 1 rfl) ?_
  refine lv_iload_n hx hb dX7_alter_3 rfl (lv_at hl 2 rfl) ?_
  obtain ⟨r1, hr1, hj⟩ := bd_some hj
  refine x_allI V _ (rg_map _) (x_runV (n := 2) (rest := [.ref o]) C V _ (rg_map _) (rg_nd _) (k_X7_isCall l D tc o ad u v1 v2 hr1) tw_649 tw_651 tp_12 tw_6 tw_652 (by decide +kernel) ⟨Nat.le_trans (Nat.le_of_ble_eq_true rfl) hRf, Nat.le_trans (Nat.le_of_ble_eq_true rfl) hRl⟩ ⟨Nat.zero_le _, Nat.zero_le _⟩ 0 6 rfl rfl rfl hl.1 rfl (Nat.le_of_ble_eq_true rfl) dX7_alter_4) (fun H locs V zr1 => ?_)
  replace V : Wd D tc A s H locs (Mw tc o ad u) := V
  refine lv_if_ne (tgt := 14) hx hb dX7_alter_7 (by decide) (fun c2 => ?_) (fun c2 => ?_)
  · replace hj := iq _ c2 hj
    refine lv_aload_n hx hb dX7_alter_14 rfl (lv_at hl 0 rfl) ?_
    refine lv_iload_n hx hb dX7_alter_15 rfl (lv_at hl 1 rfl) ?_
    refine lv_iload_n hx hb dX7_alter_16 rfl (lv_at hl 2 rfl) ?_
    obtain ⟨r3, hr3, hj⟩ := bd_some hj
    refine x_allI V _ (rg_map _) (x_runV (n := 2) (rest := [.ref o]) C V _ (rg_map _) (rg_nd _) (k_X7_isOpen l D tc o ad u v1 v2 hr3) tw_641 tw_643 tp_11 tw_6 tw_644 (by decide +kernel) ⟨Nat.le_trans (Nat.le_of_ble_eq_true rfl) hRf, Nat.le_trans (Nat.le_of_ble_eq_true rfl) hRl⟩ ⟨Nat.zero_le _, Nat.zero_le _⟩ 0 6 rfl rfl rfl hl.1 rfl (Nat.le_of_ble_eq_true rfl) dX7_alter_17) (fun H locs V zr3 => ?_)
    replace V : Wd D tc A s H locs (Mw tc o ad u) := V
    refine lv_if_eq (tgt := 28) hx hb dX7_alter_20 (by decide) (fun c4 => ?_) (fun c4 => ?_)
    · replace hj := ip _ c4 hj
      refine lv_iconst (v := 0) hx hb dX7_alter_28 (by decide) ?_
      refine x_put hx hb hts hown V inX7 tyX7_ok nmX7 0 rfl rfl 16 (by decide) tw_536 rfl rfl rfl rfl (Nat.le_of_ble_eq_true rfl) dX7_alter_29 (fun H locs V => ?_)
      obtain ⟨u5, eu5, hj⟩ := nm_some hj
      replace V : Wd D tc A s H locs (Mw tc o ad u5) := by rw [eu5]; exact V
      refine lv_aload_n hx hb dX7_alter_32 rfl (lv_at hl 0 rfl) ?_
      refine x_get hx hb hts hown V inX7 0 rfl rfl 16 (by decide) tw_536 rfl rfl dX7_alter_33 ?_
      refine lv_if_eq (tgt := 41) hx hb dX7_alter_36 (by decide) (fun c6 => ?_) (fun c6 => ?_)
      · replace hj := ip _ c6 hj
        refine lv_aload_n hx hb dX7_alter_41 rfl (lv_at hl 0 rfl) ?_
        refine x_get hx hb hts hown V inX7 0 rfl rfl 15 (by decide) tw_535 rfl rfl dX7_alter_42 ?_
        refine lv_bipush (v := 10) hx hb dX7_alter_45 (by decide) ?_
        refine lv_iload_n hx hb dX7_alter_47 rfl (lv_at hl 1 rfl) ?_
        refine lv_imul hx hb dX7_alter_48 ?_
        refine lv_iload_n hx hb dX7_alter_49 rfl (lv_at hl 2 rfl) ?_
        refine lv_iadd hx hb dX7_alter_50 ?_
        obtain ⟨i7, hj⟩ := gd_some hj
        refine x_iald hx hb V 13 rfl i7 dX7_alter_51 ?_
        obtain ⟨x8, ex8, hj⟩ := nm_some hj
        refine x_topi ex8 ?_
        refine lv_istore (lv' := [(4, .int x8), (0, .ref o), (1, .int v1), (2, .int v2), (3, .int v3)]) hx hb dX7_alter_52 hl (by decide) rfl (fun ls hl => ?_)
        refine lv_aload_n hx hb dX7_alter_54 rfl (lv_at hl 1 rfl) ?_
        refine x_get hx hb hts hown V inX7 0 rfl rfl 15 (by decide) tw_535 rfl rfl dX7_alter_55 ?_
        refine lv_bipush (v := 10) hx hb dX7_alter_58 (by decide) ?_
        refine lv_iload_n hx hb dX7_alter_60 rfl (lv_at hl 2 rfl) ?_
        refine lv_imul hx hb dX7_alter_61 ?_
        refine lv_iload_n hx hb dX7_alter_62 rfl (lv_at hl 3 rfl) ?_
        refine lv_iadd hx hb dX7_alter_63 ?_
        refine lv_iload_n hx hb dX7_alter_64 rfl (lv_at hl 4 rfl) ?_
        obtain ⟨i9, hj⟩ := gd_some hj
        obtain ⟨u10, eu10, hj⟩ := nm_some hj
        refine x_iast hx hb V 13 rfl i9 dX7_alter_65 (fun H locs V => ?_)
        replace V : Wd D tc A s H locs (Mw tc o ad u10) := by rw [eu10]; exact V
        refine lv_iload hx hb dX7_alter_66 (lv_at hl 0 rfl) ?_
        exact hret (x8, u10) hj rfl V dX7_alter_68
      · replace hj := iq _ c6 hj
        refine lv_iconst (v := 0) hx hb dX7_alter_39 (by decide) ?_
        exact hret ((0 : Int32), u5) hj rfl V dX7_alter_40
    · replace hj := iq _ c4 hj
      refine lv_bipush (v := (-3)) hx hb dX7_alter_23 (by decide) ?_
      refine lv_goto (tgt := 29) hx hb dX7_alter_25 (by decide) ?_
      refine x_put hx hb hts hown V inX7 tyX7_ok nmX7 0 rfl rfl 16 (by decide) tw_536 rfl rfl rfl rfl (Nat.le_of_ble_eq_true rfl) dX7_alter_29 (fun H locs V => ?_)
      obtain ⟨u11, eu11, hj⟩ := nm_some hj
      replace V : Wd D tc A s H locs (Mw tc o ad u11) := by rw [eu11]; exact V
      refine lv_aload_n hx hb dX7_alter_32 rfl (lv_at hl 0 rfl) ?_
      refine x_get hx hb hts hown V inX7 0 rfl rfl 16 (by decide) tw_536 rfl rfl dX7_alter_33 ?_
      refine lv_if_eq (tgt := 41) hx hb dX7_alter_36 (by decide) (fun c12 => ?_) (fun c12 => ?_)
      · replace hj := ip _ c12 hj
        refine lv_aload_n hx hb dX7_alter_41 rfl (lv_at hl 0 rfl) ?_
        refine x_get hx hb hts hown V inX7 0 rfl rfl 15 (by decide) tw_535 rfl rfl dX7_alter_42 ?_
        refine lv_bipush (v := 10) hx hb dX7_alter_45 (by decide) ?_
        refine lv_iload_n hx hb dX7_alter_47 rfl (lv_at hl 1 rfl) ?_
        refine lv_imul hx hb dX7_alter_48 ?_
        refine lv_iload_n hx hb dX7_alter_49 rfl (lv_at hl 2 rfl) ?_
        refine lv_iadd hx hb dX7_alter_50 ?_
        obtain ⟨i13, hj⟩ := gd_some hj
        refine x_iald hx hb V 13 rfl i13 dX7_alter_51 ?_
        obtain ⟨x14, ex14, hj⟩ := nm_some hj
        refine x_topi ex14 ?_
        refine lv_istore (lv' := [(4, .int x14), (0, .ref o), (1, .int v1), (2, .int v2), (3, .int v3)]) hx hb dX7_alter_52 hl (by decide) rfl (fun ls hl => ?_)
        refine lv_aload_n hx hb dX7_alter_54 rfl (lv_at hl 1 rfl) ?_
        refine x_get hx hb hts hown V inX7 0 rfl rfl 15 (by decide) tw_535 rfl rfl dX7_alter_55 ?_
        refine lv_bipush (v := 10) hx hb dX7_alter_58 (by decide) ?_
        refine lv_iload_n hx hb dX7_alter_60 rfl (lv_at hl 2 rfl) ?_
        refine lv_imul hx hb dX7_alter_61 ?_
        refine lv_iload_n hx hb dX7_alter_62 rfl (lv_at hl 3 rfl) ?_
        refine lv_iadd hx hb dX7_alter_63 ?_
        refine lv_iload_n hx hb dX7_alter_64 rfl (lv_at hl 4 rfl) ?_
        obtain ⟨i15, hj⟩ := gd_some hj
        obtain ⟨u16, eu16, hj⟩ := nm_some hj
        refine x_iast hx hb V 13 rfl i15 dX7_alter_65 (fun H locs V => ?_)
        replace V : Wd D tc A s H locs (Mw tc o ad u16) := by rw [eu16]; exact V
        refine lv_iload hx hb dX7_alter_66 (lv_at hl 0 rfl) ?_
        exact hret (x14, u16) hj rfl V dX7_alter_68
      · replace hj := iq _ c12 hj
        refine lv_iconst (v := 0) hx hb dX7_alter_39 (by decide) ?_
        exact hret ((0 : Int32), u11) hj rfl V dX7_alter_40
  · replace hj := ip _ c2 hj
    refine lv_iconst (v := (-1)) hx hb dX7_alter_10 (by decide) ?_
    refine lv_goto (tgt := 29) hx hb dX7_alter_11 (by decide) ?_
    refine x_put hx hb hts hown V inX7 tyX7_ok nmX7 0 rfl rfl 16 (by decide) tw_536 rfl rfl rfl rfl (Nat.le_of_ble_eq_true rfl) dX7_alter_29 (fun H locs V => ?_)
    obtain ⟨u17, eu17, hj⟩ := nm_some hj
    replace V : Wd D tc A s H locs (Mw tc o ad u17) := by rw [eu17]; exact V
    refine lv_aload_n hx hb dX7_alter_32 rfl (lv_at hl 0 rfl) ?_
    refine x_get hx hb hts hown V inX7 0 rfl rfl 16 (by decide) tw_536 rfl rfl dX7_alter_33 ?_
    refine lv_if_eq (tgt := 41) hx hb dX7_alter_36 (by decide) (fun c18 => ?_) (fun c18 => ?_)
    · replace hj := ip _ c18 hj
      refine lv_aload_n hx hb dX7_alter_41 rfl (lv_at hl 0 rfl) ?_
      refine x_get hx hb hts hown V inX7 0 rfl rfl 15 (by decide) tw_535 rfl rfl dX7_alter_42 ?_
      refine lv_bipush (v := 10) hx hb dX7_alter_45 (by decide) ?_
      refine lv_iload_n hx hb dX7_alter_47 rfl (lv_at hl 1 rfl) ?_
      refine lv_imul hx hb dX7_alter_48 ?_
      refine lv_iload_n hx hb dX7_alter_49 rfl (lv_at hl 2 rfl) ?_
      refine lv_iadd hx hb dX7_alter_50 ?_
      obtain ⟨i19, hj⟩ := gd_some hj
      refine x_iald hx hb V 13 rfl i19 dX7_alter_51 ?_
      obtain ⟨x20, ex20, hj⟩ := nm_some hj
      refine x_topi ex20 ?_
      refine lv_istore (lv' := [(4, .int x20), (0, .ref o), (1, .int v1), (2, .int v2), (3, .int v3)]) hx hb dX7_alter_52 hl (by decide) rfl (fun ls hl => ?_)
      refine lv_aload_n hx hb dX7_alter_54 rfl (lv_at hl 1 rfl) ?_
      refine x_get hx hb hts hown V inX7 0 rfl rfl 15 (by decide) tw_535 rfl rfl dX7_alter_55 ?_
      refine lv_bipush (v := 10) hx hb dX7_alter_58 (by decide) ?_
      refine lv_iload_n hx hb dX7_alter_60 rfl (lv_at hl 2 rfl) ?_
      refine lv_imul hx hb dX7_alter_61 ?_
      refine lv_iload_n hx hb dX7_alter_62 rfl (lv_at hl 3 rfl) ?_
      refine lv_iadd hx hb dX7_alter_63 ?_
      refine lv_iload_n hx hb dX7_alter_64 rfl (lv_at hl 4 rfl) ?_
      obtain ⟨i21, hj⟩ := gd_some hj
      obtain ⟨u22, eu22, hj⟩ := nm_some hj
      refine x_iast hx hb V 13 rfl i21 dX7_alter_65 (fun H locs V => ?_)
      replace V : Wd D tc A s H locs (Mw tc o ad u22) := by rw [eu22]; exact V
      refine lv_iload hx hb dX7_alter_66 (lv_at hl 0 rfl) ?_
      exact hret (x20, u22) hj rfl V dX7_alter_68
    · replace hj := iq _ c18 hj
      refine lv_iconst (v := 0) hx hb dX7_alter_39 (by decide) ?_
      exact hret ((0 : Int32), u17) hj rfl V dX7_alter_40)

def j_X7_status (u : St) : Option (Int32) :=
  some (u.1 16)
set_option maxHeartbeats 4000000 in
set_option maxRecDepth 100000 in
theorem k_X7_status (l : Launch) (D : va_G) (tc : Nat → ClassId) (o : Nat) (ad : Nat → Nat) (u : St) {x0 : Int32} (hj : j_X7_status u = some x0) : MetD l D tc yX7_status cX7_status 1 (some .int) 0 0 [.ref o] (Mw tc o ad u) (some (.int x0)) (Mw tc o ad u) :=
  x_entI (fun x : Int32 => x) (fun _ : Int32 => Mw tc o ad u) (by decide) (own := RX7) rfl (Nat.le_of_ble_eq_true rfl) (fun p e s m args below meth c A Q ls C V hl hret => by
  obtain ⟨hx, hb, hr, hml, hown, hts, hlk, hN⟩ := id C
  have hRf : 0 ≤ (rmz 0 0 0 0).frames := Nat.le_refl _
  have hRl : 0 ≤ (rmz 0 0 0 0).locals := Nat.le_refl _
  generalize (rmz 0 0 0 0) = R at hret hRf hRl ⊢
  generalize s.heap = H at V ⊢
  generalize ([] : List Loc) = locs at V ⊢
  have hl : lv_has ls 1 [(0, .ref o)] := hl
  unfold j_X7_status at hj
  refine lv_aload_n hx hb dX7_status_0 rfl (lv_at hl 0 rfl) ?_
  refine x_get hx hb hts hown V inX7 0 rfl rfl 16 (by decide) tw_536 rfl rfl dX7_status_1 ?_
  exact hret (u.1 16) hj rfl V dX7_status_4)

def j_X7_answered (u : St) (v1 : Int32) (v2 : Int32) : Option (Int32 × St) :=
  (j_X7_isCall u v1 v2).bind (fun r1 => if r1 = (0 : Int32) then nm (sI u 16 (-1 : Int32)) (fun u11 => if (u11.1 16) = (0 : Int32) then gd (((10 : Int32) * v1) + v2) 120 (some (u11.2.1 15 (((10 : Int32) * v1) + v2).toNatClampNeg, u11)) else some ((0 : Int32), u11)) else (j_X7_isOpen u v1 v2).bind (fun r3 => if r3 = (0 : Int32) then nm (sI u 16 (0 : Int32)) (fun u5 => if (u5.1 16) = (0 : Int32) then gd (((10 : Int32) * v1) + v2) 120 (some (u5.2.1 15 (((10 : Int32) * v1) + v2).toNatClampNeg, u5)) else some ((0 : Int32), u5)) else nm (sI u 16 (-3 : Int32)) (fun u8 => if (u8.1 16) = (0 : Int32) then gd (((10 : Int32) * v1) + v2) 120 (some (u8.2.1 15 (((10 : Int32) * v1) + v2).toNatClampNeg, u8)) else some ((0 : Int32), u8))))
set_option maxHeartbeats 4000000 in
set_option maxRecDepth 100000 in
theorem k_X7_answered (l : Launch) (D : va_G) (tc : Nat → ClassId) (o : Nat) (ad : Nat → Nat) (u : St) (v1 : Int32) (v2 : Int32) {x0 : Int32 × St} (hj : j_X7_answered u v1 v2 = some x0) : MetD l D tc yX7_answered cX7_answered 3 (some .int) 3 65 [.ref o, .int v1, .int v2] (Mw tc o ad u) (some (.int x0.1)) (Mw tc o ad x0.2) :=
  x_entI (fun x : Int32 × St => x.1) (fun x : Int32 × St => Mw tc o ad x.2) (by decide) (own := RX7) rfl (Nat.le_of_ble_eq_true rfl) (fun p e s m args below meth c A Q ls C V hl hret => by
  obtain ⟨hx, hb, hr, hml, hown, hts, hlk, hN⟩ := id C
  have hRf : 3 ≤ (rmz 3 0 0 65).frames := Nat.le_refl _
  have hRl : 65 ≤ (rmz 3 0 0 65).locals := Nat.le_refl _
  generalize (rmz 3 0 0 65) = R at hret hRf hRl ⊢
  generalize s.heap = H at V ⊢
  generalize ([] : List Loc) = locs at V ⊢
  have hl : lv_has ls 3 [(0, .ref o), (1, .int v1), (2, .int v2)] := hl
  unfold j_X7_answered at hj
  refine lv_aload_n hx hb dX7_answered_0 rfl (lv_at hl 0 rfl) ?_
  refine lv_aload_n hx hb dX7_answered_1 rfl (lv_at hl 0 rfl) ?_
  refine lv_iload_n hx hb dX7_answered_2 rfl (lv_at hl 1 rfl) ?_
  refine lv_iload_n hx hb dX7_answered_3 rfl (lv_at hl 2 rfl) ?_
  obtain ⟨r1, hr1, hj⟩ := bd_some hj
  refine x_allI V _ (rg_map _) (x_runV (n := 2) (rest := [.ref o]) C V _ (rg_map _) (rg_nd _) (k_X7_isCall l D tc o ad u v1 v2 hr1) tw_649 tw_651 tp_12 tw_6 tw_652 (by decide +kernel) ⟨Nat.le_trans (Nat.le_of_ble_eq_true rfl) hRf, Nat.le_trans (Nat.le_of_ble_eq_true rfl) hRl⟩ ⟨Nat.zero_le _, Nat.zero_le _⟩ 0 6 rfl rfl rfl hl.1 rfl (Nat.le_of_ble_eq_true rfl) dX7_answered_4) (fun H locs V zr1 => ?_)
  replace V : Wd D tc A s H locs (Mw tc o ad u) := V
  refine lv_if_ne (tgt := 14) hx hb dX7_answered_7 (by decide) (fun c2 => ?_) (fun c2 => ?_)
  · replace hj := iq _ c2 hj
    refine lv_aload_n hx hb dX7_answered_14 rfl (lv_at hl 0 rfl) ?_
    refine lv_iload_n hx hb dX7_answered_15 rfl (lv_at hl 1 rfl) ?_
    refine lv_iload_n hx hb dX7_answered_16 rfl (lv_at hl 2 rfl) ?_
    obtain ⟨r3, hr3, hj⟩ := bd_some hj
    refine x_allI V _ (rg_map _) (x_runV (n := 2) (rest := [.ref o]) C V _ (rg_map _) (rg_nd _) (k_X7_isOpen l D tc o ad u v1 v2 hr3) tw_641 tw_643 tp_11 tw_6 tw_644 (by decide +kernel) ⟨Nat.le_trans (Nat.le_of_ble_eq_true rfl) hRf, Nat.le_trans (Nat.le_of_ble_eq_true rfl) hRl⟩ ⟨Nat.zero_le _, Nat.zero_le _⟩ 0 6 rfl rfl rfl hl.1 rfl (Nat.le_of_ble_eq_true rfl) dX7_answered_17) (fun H locs V zr3 => ?_)
    replace V : Wd D tc A s H locs (Mw tc o ad u) := V
    refine lv_if_eq (tgt := 28) hx hb dX7_answered_20 (by decide) (fun c4 => ?_) (fun c4 => ?_)
    · replace hj := ip _ c4 hj
      refine lv_iconst (v := 0) hx hb dX7_answered_28 (by decide) ?_
      refine x_put hx hb hts hown V inX7 tyX7_ok nmX7 0 rfl rfl 16 (by decide) tw_536 rfl rfl rfl rfl (Nat.le_of_ble_eq_true rfl) dX7_answered_29 (fun H locs V => ?_)
      obtain ⟨u5, eu5, hj⟩ := nm_some hj
      replace V : Wd D tc A s H locs (Mw tc o ad u5) := by rw [eu5]; exact V
      refine lv_aload_n hx hb dX7_answered_32 rfl (lv_at hl 0 rfl) ?_
      refine x_get hx hb hts hown V inX7 0 rfl rfl 16 (by decide) tw_536 rfl rfl dX7_answered_33 ?_
      refine lv_if_eq (tgt := 43) hx hb dX7_answered_36 (by decide) (fun c6 => ?_) (fun c6 => ?_)
      · replace hj := ip _ c6 hj
        refine lv_aload_n hx hb dX7_answered_43 rfl (lv_at hl 0 rfl) ?_
        refine x_get hx hb hts hown V inX7 0 rfl rfl 15 (by decide) tw_535 rfl rfl dX7_answered_44 ?_
        refine lv_bipush (v := 10) hx hb dX7_answered_47 (by decide) ?_
        refine lv_iload_n hx hb dX7_answered_49 rfl (lv_at hl 1 rfl) ?_
        refine lv_imul hx hb dX7_answered_50 ?_
        refine lv_iload_n hx hb dX7_answered_51 rfl (lv_at hl 2 rfl) ?_
        refine lv_iadd hx hb dX7_answered_52 ?_
        obtain ⟨i7, hj⟩ := gd_some hj
        refine x_iald hx hb V 13 rfl i7 dX7_answered_53 ?_
        exact hret (u5.2.1 15 (((10 : Int32) * v1) + v2).toNatClampNeg, u5) hj rfl V dX7_answered_54
      · replace hj := iq _ c6 hj
        refine lv_iconst (v := 0) hx hb dX7_answered_39 (by decide) ?_
        refine lv_goto (tgt := 54) hx hb dX7_answered_40 (by decide) ?_
        exact hret ((0 : Int32), u5) hj rfl V dX7_answered_54
    · replace hj := iq _ c4 hj
      refine lv_bipush (v := (-3)) hx hb dX7_answered_23 (by decide) ?_
      refine lv_goto (tgt := 29) hx hb dX7_answered_25 (by decide) ?_
      refine x_put hx hb hts hown V inX7 tyX7_ok nmX7 0 rfl rfl 16 (by decide) tw_536 rfl rfl rfl rfl (Nat.le_of_ble_eq_true rfl) dX7_answered_29 (fun H locs V => ?_)
      obtain ⟨u8, eu8, hj⟩ := nm_some hj
      replace V : Wd D tc A s H locs (Mw tc o ad u8) := by rw [eu8]; exact V
      refine lv_aload_n hx hb dX7_answered_32 rfl (lv_at hl 0 rfl) ?_
      refine x_get hx hb hts hown V inX7 0 rfl rfl 16 (by decide) tw_536 rfl rfl dX7_answered_33 ?_
      refine lv_if_eq (tgt := 43) hx hb dX7_answered_36 (by decide) (fun c9 => ?_) (fun c9 => ?_)
      · replace hj := ip _ c9 hj
        refine lv_aload_n hx hb dX7_answered_43 rfl (lv_at hl 0 rfl) ?_
        refine x_get hx hb hts hown V inX7 0 rfl rfl 15 (by decide) tw_535 rfl rfl dX7_answered_44 ?_
        refine lv_bipush (v := 10) hx hb dX7_answered_47 (by decide) ?_
        refine lv_iload_n hx hb dX7_answered_49 rfl (lv_at hl 1 rfl) ?_
        refine lv_imul hx hb dX7_answered_50 ?_
        refine lv_iload_n hx hb dX7_answered_51 rfl (lv_at hl 2 rfl) ?_
        refine lv_iadd hx hb dX7_answered_52 ?_
        obtain ⟨i10, hj⟩ := gd_some hj
        refine x_iald hx hb V 13 rfl i10 dX7_answered_53 ?_
        exact hret (u8.2.1 15 (((10 : Int32) * v1) + v2).toNatClampNeg, u8) hj rfl V dX7_answered_54
      · replace hj := iq _ c9 hj
        refine lv_iconst (v := 0) hx hb dX7_answered_39 (by decide) ?_
        refine lv_goto (tgt := 54) hx hb dX7_answered_40 (by decide) ?_
        exact hret ((0 : Int32), u8) hj rfl V dX7_answered_54
  · replace hj := ip _ c2 hj
    refine lv_iconst (v := (-1)) hx hb dX7_answered_10 (by decide) ?_
    refine lv_goto (tgt := 29) hx hb dX7_answered_11 (by decide) ?_
    refine x_put hx hb hts hown V inX7 tyX7_ok nmX7 0 rfl rfl 16 (by decide) tw_536 rfl rfl rfl rfl (Nat.le_of_ble_eq_true rfl) dX7_answered_29 (fun H locs V => ?_)
    obtain ⟨u11, eu11, hj⟩ := nm_some hj
    replace V : Wd D tc A s H locs (Mw tc o ad u11) := by rw [eu11]; exact V
    refine lv_aload_n hx hb dX7_answered_32 rfl (lv_at hl 0 rfl) ?_
    refine x_get hx hb hts hown V inX7 0 rfl rfl 16 (by decide) tw_536 rfl rfl dX7_answered_33 ?_
    refine lv_if_eq (tgt := 43) hx hb dX7_answered_36 (by decide) (fun c12 => ?_) (fun c12 => ?_)
    · replace hj := ip _ c12 hj
      refine lv_aload_n hx hb dX7_answered_43 rfl (lv_at hl 0 rfl) ?_
      refine x_get hx hb hts hown V inX7 0 rfl rfl 15 (by decide) tw_535 rfl rfl dX7_answered_44 ?_
      refine lv_bipush (v := 10) hx hb dX7_answered_47 (by decide) ?_
      refine lv_iload_n hx hb dX7_answered_49 rfl (lv_at hl 1 rfl) ?_
      refine lv_imul hx hb dX7_answered_50 ?_
      refine lv_iload_n hx hb dX7_answered_51 rfl (lv_at hl 2 rfl) ?_
      refine lv_iadd hx hb dX7_answered_52 ?_
      obtain ⟨i13, hj⟩ := gd_some hj
      refine x_iald hx hb V 13 rfl i13 dX7_answered_53 ?_
      exact hret (u11.2.1 15 (((10 : Int32) * v1) + v2).toNatClampNeg, u11) hj rfl V dX7_answered_54
    · replace hj := iq _ c12 hj
      refine lv_iconst (v := 0) hx hb dX7_answered_39 (by decide) ?_
      refine lv_goto (tgt := 54) hx hb dX7_answered_40 (by decide) ?_
      exact hret ((0 : Int32), u11) hj rfl V dX7_answered_54)

def j_X7_call (u : St) (v1 : Int32) (v2 : Int32) (v3 : Int32) : Option (Int32) :=
  (j_X7_isCall u v1 v2).bind (fun r1 => if r1 = (0 : Int32) then some (-1 : Int32) else if v3 = (0 : Int32) then gd (((10 : Int32) * v1) + v2) 120 (some (u.2.1 9 (((10 : Int32) * v1) + v2).toNatClampNeg)) else if v3 = (1 : Int32) then gd (((10 : Int32) * v1) + v2) 120 (some (u.2.1 10 (((10 : Int32) * v1) + v2).toNatClampNeg)) else if v3 = (2 : Int32) then gd (((10 : Int32) * v1) + v2) 120 (some (u.2.1 13 (((10 : Int32) * v1) + v2).toNatClampNeg)) else if v3 = (3 : Int32) then gd (((10 : Int32) * v1) + v2) 120 (some (u.2.1 14 (((10 : Int32) * v1) + v2).toNatClampNeg)) else some (-1 : Int32))
set_option maxHeartbeats 4000000 in
set_option maxRecDepth 100000 in
theorem k_X7_call (l : Launch) (D : va_G) (tc : Nat → ClassId) (o : Nat) (ad : Nat → Nat) (u : St) (v1 : Int32) (v2 : Int32) (v3 : Int32) {x0 : Int32} (hj : j_X7_call u v1 v2 v3 = some x0) : MetD l D tc yX7_call cX7_call 4 (some .int) 3 65 [.ref o, .int v1, .int v2, .int v3] (Mw tc o ad u) (some (.int x0)) (Mw tc o ad u) :=
  x_entI (fun x : Int32 => x) (fun _ : Int32 => Mw tc o ad u) (by decide) (own := RX7) rfl (Nat.le_of_ble_eq_true rfl) (fun p e s m args below meth c A Q ls C V hl hret => by
  obtain ⟨hx, hb, hr, hml, hown, hts, hlk, hN⟩ := id C
  have hRf : 3 ≤ (rmz 3 0 0 65).frames := Nat.le_refl _
  have hRl : 65 ≤ (rmz 3 0 0 65).locals := Nat.le_refl _
  generalize (rmz 3 0 0 65) = R at hret hRf hRl ⊢
  generalize s.heap = H at V ⊢
  generalize ([] : List Loc) = locs at V ⊢
  have hl : lv_has ls 4 [(0, .ref o), (1, .int v1), (2, .int v2), (3, .int v3)] := hl
  unfold j_X7_call at hj
  refine lv_aload_n hx hb dX7_call_0 rfl (lv_at hl 0 rfl) ?_
  refine lv_iload_n hx hb dX7_call_1 rfl (lv_at hl 1 rfl) ?_
  refine lv_iload_n hx hb dX7_call_2 rfl (lv_at hl 2 rfl) ?_
  obtain ⟨r1, hr1, hj⟩ := bd_some hj
  refine x_allI V _ (rg_map _) (x_runV (n := 2) (rest := []) C V _ (rg_map _) (rg_nd _) (k_X7_isCall l D tc o ad u v1 v2 hr1) tw_649 tw_651 tp_12 tw_6 tw_652 (by decide +kernel) ⟨Nat.le_trans (Nat.le_of_ble_eq_true rfl) hRf, Nat.le_trans (Nat.le_of_ble_eq_true rfl) hRl⟩ ⟨Nat.zero_le _, Nat.zero_le _⟩ 0 6 rfl rfl rfl hl.1 rfl (Nat.le_of_ble_eq_true rfl) dX7_call_3) (fun H locs V zr1 => ?_)
  replace V : Wd D tc A s H locs (Mw tc o ad u) := V
  refine lv_if_ne (tgt := 11) hx hb dX7_call_6 (by decide) (fun c2 => ?_) (fun c2 => ?_)
  · replace hj := iq _ c2 hj
    refine lv_iload_n hx hb dX7_call_11 rfl (lv_at hl 3 rfl) ?_
    by_cases c3 : v3 = 0
    · refine lv_tableIn (off := 32) (tgt := 44) hx hb dX7_call_12 (by rw [c3]; decide) (by rw [c3]; decide) (by rw [c3]; rfl) (by decide) ?_
      replace hj := ip _ c3 hj
      refine lv_aload_n hx hb dX7_call_44 rfl (lv_at hl 0 rfl) ?_
      refine x_get hx hb hts hown V inX7 0 rfl rfl 9 (by decide) tw_529 rfl rfl dX7_call_45 ?_
      refine lv_bipush (v := 10) hx hb dX7_call_48 (by decide) ?_
      refine lv_iload_n hx hb dX7_call_50 rfl (lv_at hl 1 rfl) ?_
      refine lv_imul hx hb dX7_call_51 ?_
      refine lv_iload_n hx hb dX7_call_52 rfl (lv_at hl 2 rfl) ?_
      refine lv_iadd hx hb dX7_call_53 ?_
      obtain ⟨i4, hj⟩ := gd_some hj
      refine x_iald hx hb V 7 rfl i4 dX7_call_54 ?_
      exact hret (u.2.1 9 (((10 : Int32) * v1) + v2).toNatClampNeg) hj rfl V dX7_call_55
    · replace hj := iq _ c3 hj
      by_cases c5 : v3 = 1
      · refine lv_tableIn (off := 44) (tgt := 56) hx hb dX7_call_12 (by rw [c5]; decide) (by rw [c5]; decide) (by rw [c5]; rfl) (by decide) ?_
        replace hj := ip _ c5 hj
        refine lv_aload_n hx hb dX7_call_56 rfl (lv_at hl 0 rfl) ?_
        refine x_get hx hb hts hown V inX7 0 rfl rfl 10 (by decide) tw_530 rfl rfl dX7_call_57 ?_
        refine lv_bipush (v := 10) hx hb dX7_call_60 (by decide) ?_
        refine lv_iload_n hx hb dX7_call_62 rfl (lv_at hl 1 rfl) ?_
        refine lv_imul hx hb dX7_call_63 ?_
        refine lv_iload_n hx hb dX7_call_64 rfl (lv_at hl 2 rfl) ?_
        refine lv_iadd hx hb dX7_call_65 ?_
        obtain ⟨i6, hj⟩ := gd_some hj
        refine x_iald hx hb V 8 rfl i6 dX7_call_66 ?_
        exact hret (u.2.1 10 (((10 : Int32) * v1) + v2).toNatClampNeg) hj rfl V dX7_call_67
      · replace hj := iq _ c5 hj
        by_cases c7 : v3 = 2
        · refine lv_tableIn (off := 56) (tgt := 68) hx hb dX7_call_12 (by rw [c7]; decide) (by rw [c7]; decide) (by rw [c7]; rfl) (by decide) ?_
          replace hj := ip _ c7 hj
          refine lv_aload_n hx hb dX7_call_68 rfl (lv_at hl 0 rfl) ?_
          refine x_get hx hb hts hown V inX7 0 rfl rfl 13 (by decide) tw_533 rfl rfl dX7_call_69 ?_
          refine lv_bipush (v := 10) hx hb dX7_call_72 (by decide) ?_
          refine lv_iload_n hx hb dX7_call_74 rfl (lv_at hl 1 rfl) ?_
          refine lv_imul hx hb dX7_call_75 ?_
          refine lv_iload_n hx hb dX7_call_76 rfl (lv_at hl 2 rfl) ?_
          refine lv_iadd hx hb dX7_call_77 ?_
          obtain ⟨i8, hj⟩ := gd_some hj
          refine x_iald hx hb V 11 rfl i8 dX7_call_78 ?_
          exact hret (u.2.1 13 (((10 : Int32) * v1) + v2).toNatClampNeg) hj rfl V dX7_call_79
        · replace hj := iq _ c7 hj
          by_cases c9 : v3 = 3
          · refine lv_tableIn (off := 68) (tgt := 80) hx hb dX7_call_12 (by rw [c9]; decide) (by rw [c9]; decide) (by rw [c9]; rfl) (by decide) ?_
            replace hj := ip _ c9 hj
            refine lv_aload_n hx hb dX7_call_80 rfl (lv_at hl 0 rfl) ?_
            refine x_get hx hb hts hown V inX7 0 rfl rfl 14 (by decide) tw_534 rfl rfl dX7_call_81 ?_
            refine lv_bipush (v := 10) hx hb dX7_call_84 (by decide) ?_
            refine lv_iload_n hx hb dX7_call_86 rfl (lv_at hl 1 rfl) ?_
            refine lv_imul hx hb dX7_call_87 ?_
            refine lv_iload_n hx hb dX7_call_88 rfl (lv_at hl 2 rfl) ?_
            refine lv_iadd hx hb dX7_call_89 ?_
            obtain ⟨i10, hj⟩ := gd_some hj
            refine x_iald hx hb V 12 rfl i10 dX7_call_90 ?_
            exact hret (u.2.1 14 (((10 : Int32) * v1) + v2).toNatClampNeg) hj rfl V dX7_call_91
          · replace hj := iq _ c9 hj
            refine lv_tableOut (tgt := 92) hx hb dX7_call_12 (sw_out3 c3 c5 c7 c9) (by decide) ?_
            refine lv_iconst (v := (-1)) hx hb dX7_call_92 (by decide) ?_
            exact hret (-1 : Int32) hj rfl V dX7_call_93
  · replace hj := ip _ c2 hj
    refine lv_iconst (v := (-1)) hx hb dX7_call_9 (by decide) ?_
    exact hret (-1 : Int32) hj rfl V dX7_call_10)

def q_X7_about_61 (u : St) (k_61 : Int32 → Int32 → Int32 → Option (Int32)) (v1 : Int32) (v3 : Int32) (v4 : Int32) : Option (Int32) :=
  gd v1 12 (if (u.2.1 7 v1.toNatClampNeg) ≤ v4 then some v3 else (j_X7_isOpen u v1 v4).bind (fun r10 => if r10 = (0 : Int32) then nm (v3 + (0 : Int32)) (fun x12 => nm (v4 + 1) (fun x13 => k_61 v1 x12 x13)) else nm (v3 + (1 : Int32)) (fun x14 => nm (v4 + 1) (fun x15 => k_61 v1 x14 x15))))
set_option maxHeartbeats 4000000 in
set_option maxRecDepth 100000 in
theorem b_X7_about_61 {p : Program} {l : Launch} {e : Env} {R : Room} {s : State} {m : MethodId} {args : Array Value} {below : List Frame} {meth : Method} {c : Code} {A : Nat → Prop} {Q : State → Prop} {D : va_G} {tc : Nat → ClassId} (o : Nat) (ad : Nat → Nat) (u : St) (hRf : 2 ≤ R.frames) (hRl : 43 ≤ R.locals) (C : Cx p s m args meth c cX7_about 5 RX7 (some .int)) {x0 : Int32} (hret : RetI p l e R s m args below meth c Q cX7_about D tc A .int (some x0) (fun x : Int32 => x) (fun _ : Int32 => Mw tc o ad u)) (k_61 : Int32 → Int32 → Int32 → Option (Int32)) (hk_61 : ∀ (v1 : Int32) (v3 : Int32) (v4 : Int32), k_61 v1 v3 v4 = some x0 → ∀ (H : Heap) (locs : List Loc) (ls : Array Slot), Wd D tc A s H locs (Mw tc o ad u) → lv_has ls 5 [(0, .ref o), (1, .int v1), (3, .int v3), (4, .int v4)] → W p l e R s m args below meth c H locs 0 0 Q (F0 m 61 ls [])) : ∀ (v1 : Int32) (v3 : Int32) (v4 : Int32), q_X7_about_61 u k_61 v1 v3 v4 = some x0 → ∀ (H : Heap) (locs : List Loc) (ls : Array Slot), Wd D tc A s H locs (Mw tc o ad u) → lv_has ls 5 [(0, .ref o), (1, .int v1), (3, .int v3), (4, .int v4)] → W p l e R s m args below meth c H locs 0 0 Q (F0 m 61 ls []) := by
  obtain ⟨hx, hb, hr, hml, hown, hts, hlk, hN⟩ := id C
  intro v1 v3 v4 hj H locs ls V hl
  unfold q_X7_about_61 at hj
  refine lv_iload hx hb dX7_about_61 (lv_at hl 3 rfl) ?_
  refine lv_aload_n hx hb dX7_about_63 rfl (lv_at hl 0 rfl) ?_
  refine x_get hx hb hts hown V inX7 0 rfl rfl 7 (by decide) tw_527 rfl rfl dX7_about_64 ?_
  refine lv_iload_n hx hb dX7_about_67 rfl (lv_at hl 1 rfl) ?_
  obtain ⟨i8, hj⟩ := gd_some hj
  refine x_iald hx hb V 5 rfl i8 dX7_about_68 ?_
  refine lv_icmp_ge (tgt := 96) hx hb dX7_about_69 (by decide) (fun c9 => ?_) (fun c9 => ?_)
  · replace hj := ip _ c9 hj
    refine lv_iload_n hx hb dX7_about_96 rfl (lv_at hl 2 rfl) ?_
    exact hret v3 hj rfl V dX7_about_97
  · replace hj := iq _ c9 hj
    refine lv_iload_n hx hb dX7_about_72 rfl (lv_at hl 2 rfl) ?_
    refine lv_aload_n hx hb dX7_about_73 rfl (lv_at hl 0 rfl) ?_
    refine lv_iload_n hx hb dX7_about_74 rfl (lv_at hl 1 rfl) ?_
    refine lv_iload hx hb dX7_about_75 (lv_at hl 3 rfl) ?_
    obtain ⟨r10, hr10, hj⟩ := bd_some hj
    refine x_allI V _ (rg_map _) (x_runV (n := 2) (rest := [.int v3]) C V _ (rg_map _) (rg_nd _) (k_X7_isOpen l D tc o ad u v1 v4 hr10) tw_641 tw_643 tp_11 tw_6 tw_644 (by decide +kernel) ⟨Nat.le_trans (Nat.le_of_ble_eq_true rfl) hRf, Nat.le_trans (Nat.le_of_ble_eq_true rfl) hRl⟩ ⟨Nat.zero_le _, Nat.zero_le _⟩ 0 6 rfl rfl rfl hl.1 rfl (Nat.le_of_ble_eq_true rfl) dX7_about_77) (fun H locs V zr10 => ?_)
    replace V : Wd D tc A s H locs (Mw tc o ad u) := V
    refine lv_if_eq (tgt := 87) hx hb dX7_about_80 (by decide) (fun c11 => ?_) (fun c11 => ?_)
    · replace hj := ip _ c11 hj
      refine lv_iconst (v := 0) hx hb dX7_about_87 (by decide) ?_
      refine lv_iadd hx hb dX7_about_88 ?_
      obtain ⟨x12, ex12, hj⟩ := nm_some hj
      refine x_topi ex12 ?_
      refine lv_istore_n (lv' := [(3, .int x12), (0, .ref o), (1, .int v1), (4, .int v4)]) hx hb dX7_about_89 rfl hl (by decide) rfl (fun ls hl => ?_)
      obtain ⟨x13, ex13, hj⟩ := nm_some hj
      refine lv_iinc (v := x13) (lv' := [(4, .int x13), (3, .int x12), (0, .ref o), (1, .int v1)]) hx hb dX7_about_90 hl (k := 3) rfl (by rw [ex13]; rfl) (by decide) rfl (fun ls hl => ?_)
      refine lv_goto (tgt := 61) hx hb dX7_about_93 (by decide) ?_
      exact hk_61 v1 x12 x13 hj _ _ _ V (lv_sub hl [2, 3, 1, 0] rfl)
    · replace hj := iq _ c11 hj
      refine lv_iconst (v := 1) hx hb dX7_about_83 (by decide) ?_
      refine lv_goto (tgt := 88) hx hb dX7_about_84 (by decide) ?_
      refine lv_iadd hx hb dX7_about_88 ?_
      obtain ⟨x14, ex14, hj⟩ := nm_some hj
      refine x_topi ex14 ?_
      refine lv_istore_n (lv' := [(3, .int x14), (0, .ref o), (1, .int v1), (4, .int v4)]) hx hb dX7_about_89 rfl hl (by decide) rfl (fun ls hl => ?_)
      obtain ⟨x15, ex15, hj⟩ := nm_some hj
      refine lv_iinc (v := x15) (lv' := [(4, .int x15), (3, .int x14), (0, .ref o), (1, .int v1)]) hx hb dX7_about_90 hl (k := 3) rfl (by rw [ex15]; rfl) (by decide) rfl (fun ls hl => ?_)
      refine lv_goto (tgt := 61) hx hb dX7_about_93 (by decide) ?_
      exact hk_61 v1 x14 x15 hj _ _ _ V (lv_sub hl [2, 3, 1, 0] rfl)
def j_X7_about_61 (u : St) : Nat → Int32 → Int32 → Int32 → Option (Int32)
  | 0 => fun _ _ _ => none
  | n + 1 => q_X7_about_61 u (j_X7_about_61 u n)
theorem lp_X7_about_61 {p : Program} {l : Launch} {e : Env} {R : Room} {s : State} {m : MethodId} {args : Array Value} {below : List Frame} {meth : Method} {c : Code} {A : Nat → Prop} {Q : State → Prop} {D : va_G} {tc : Nat → ClassId} (o : Nat) (ad : Nat → Nat) (u : St) (hRf : 2 ≤ R.frames) (hRl : 43 ≤ R.locals) (C : Cx p s m args meth c cX7_about 5 RX7 (some .int)) {x0 : Int32} (hret : RetI p l e R s m args below meth c Q cX7_about D tc A .int (some x0) (fun x : Int32 => x) (fun _ : Int32 => Mw tc o ad u))  : ∀ (n : Nat), ∀ (v1 : Int32) (v3 : Int32) (v4 : Int32), j_X7_about_61 u n v1 v3 v4 = some x0 → ∀ (H : Heap) (locs : List Loc) (ls : Array Slot), Wd D tc A s H locs (Mw tc o ad u) → lv_has ls 5 [(0, .ref o), (1, .int v1), (3, .int v3), (4, .int v4)] → W p l e R s m args below meth c H locs 0 0 Q (F0 m 61 ls []) := by
  intro n
  induction n with
  | zero =>
    intro v1 v3 v4 hj
    have hj : (none : Option (Int32)) = some x0 := hj
    cases hj
  | succ n ih =>
    intro v1 v3 v4 hj
    exact b_X7_about_61 o ad u hRf hRl C hret   (j_X7_about_61 u n) ih v1 v3 v4 hj
def j_X7_about (u : St) (v1 : Int32) (v2 : Int32) : Option (Int32) :=
  (j_X7_isHistory u v1).bind (fun r1 => if r1 = (0 : Int32) then some (-1 : Int32) else if v2 = (0 : Int32) then gd v1 12 (some (u.2.1 5 v1.toNatClampNeg)) else if v2 = (1 : Int32) then gd v1 12 (some (u.2.1 7 v1.toNatClampNeg)) else if v2 = (2 : Int32) then j_X7_about_61 u 100 v1 (0 : Int32) (0 : Int32) else if v2 = (3 : Int32) then gd v1 12 (some (u.2.1 8 v1.toNatClampNeg)) else some (-1 : Int32))
set_option maxHeartbeats 4000000 in
set_option maxRecDepth 100000 in
theorem k_X7_about (l : Launch) (D : va_G) (tc : Nat → ClassId) (o : Nat) (ad : Nat → Nat) (u : St) (v1 : Int32) (v2 : Int32) {x0 : Int32} (hj : j_X7_about u v1 v2 = some x0) : MetD l D tc yX7_about cX7_about 5 (some .int) 2 43 [.ref o, .int v1, .int v2] (Mw tc o ad u) (some (.int x0)) (Mw tc o ad u) :=
  x_entI (fun x : Int32 => x) (fun _ : Int32 => Mw tc o ad u) (by decide) (own := RX7) rfl (Nat.le_of_ble_eq_true rfl) (fun p e s m args below meth c A Q ls C V hl hret => by
  obtain ⟨hx, hb, hr, hml, hown, hts, hlk, hN⟩ := id C
  have hRf : 2 ≤ (rmz 2 0 0 43).frames := Nat.le_refl _
  have hRl : 43 ≤ (rmz 2 0 0 43).locals := Nat.le_refl _
  generalize (rmz 2 0 0 43) = R at hret hRf hRl ⊢
  generalize s.heap = H at V ⊢
  generalize ([] : List Loc) = locs at V ⊢
  have hl : lv_has ls 5 [(0, .ref o), (1, .int v1), (2, .int v2)] := hl
  unfold j_X7_about at hj
  refine lv_aload_n hx hb dX7_about_0 rfl (lv_at hl 0 rfl) ?_
  refine lv_iload_n hx hb dX7_about_1 rfl (lv_at hl 1 rfl) ?_
  obtain ⟨r1, hr1, hj⟩ := bd_some hj
  refine x_allI V _ (rg_map _) (x_runV (n := 1) (rest := []) C V _ (rg_map _) (rg_nd _) (k_X7_isHistory l D tc o ad u v1 hr1) tw_630 tw_632 tp_10 tw_6 tw_633 (by decide +kernel) ⟨Nat.le_trans (Nat.le_of_ble_eq_true rfl) hRf, Nat.le_trans (Nat.le_of_ble_eq_true rfl) hRl⟩ ⟨Nat.zero_le _, Nat.zero_le _⟩ 0 6 rfl rfl rfl hl.1 rfl (Nat.le_of_ble_eq_true rfl) dX7_about_2) (fun H locs V zr1 => ?_)
  replace V : Wd D tc A s H locs (Mw tc o ad u) := V
  refine lv_if_ne (tgt := 10) hx hb dX7_about_5 (by decide) (fun c2 => ?_) (fun c2 => ?_)
  · replace hj := iq _ c2 hj
    refine lv_iconst (v := 0) hx hb dX7_about_10 (by decide) ?_
    refine lv_istore_n (lv' := [(3, .int (0 : Int32)), (0, .ref o), (1, .int v1), (2, .int v2)]) hx hb dX7_about_11 rfl hl (by decide) rfl (fun ls hl => ?_)
    refine lv_iload_n hx hb dX7_about_12 rfl (lv_at hl 3 rfl) ?_
    by_cases c3 : v2 = 0
    · refine lv_tableIn (off := 31) (tgt := 44) hx hb dX7_about_13 (by rw [c3]; decide) (by rw [c3]; decide) (by rw [c3]; rfl) (by decide) ?_
      replace hj := ip _ c3 hj
      refine lv_aload_n hx hb dX7_about_44 rfl (lv_at hl 1 rfl) ?_
      refine x_get hx hb hts hown V inX7 0 rfl rfl 5 (by decide) tw_525 rfl rfl dX7_about_45 ?_
      refine lv_iload_n hx hb dX7_about_48 rfl (lv_at hl 2 rfl) ?_
      obtain ⟨i4, hj⟩ := gd_some hj
      refine x_iald hx hb V 3 rfl i4 dX7_about_49 ?_
      exact hret (u.2.1 5 v1.toNatClampNeg) hj rfl V dX7_about_50
    · replace hj := iq _ c3 hj
      by_cases c5 : v2 = 1
      · refine lv_tableIn (off := 38) (tgt := 51) hx hb dX7_about_13 (by rw [c5]; decide) (by rw [c5]; decide) (by rw [c5]; rfl) (by decide) ?_
        replace hj := ip _ c5 hj
        refine lv_aload_n hx hb dX7_about_51 rfl (lv_at hl 1 rfl) ?_
        refine x_get hx hb hts hown V inX7 0 rfl rfl 7 (by decide) tw_527 rfl rfl dX7_about_52 ?_
        refine lv_iload_n hx hb dX7_about_55 rfl (lv_at hl 2 rfl) ?_
        obtain ⟨i6, hj⟩ := gd_some hj
        refine x_iald hx hb V 5 rfl i6 dX7_about_56 ?_
        exact hret (u.2.1 7 v1.toNatClampNeg) hj rfl V dX7_about_57
      · replace hj := iq _ c5 hj
        by_cases c7 : v2 = 2
        · refine lv_tableIn (off := 45) (tgt := 58) hx hb dX7_about_13 (by rw [c7]; decide) (by rw [c7]; decide) (by rw [c7]; rfl) (by decide) ?_
          replace hj := ip _ c7 hj
          refine lv_iconst (v := 0) hx hb dX7_about_58 (by decide) ?_
          refine lv_istore (lv' := [(4, .int (0 : Int32)), (3, .int (0 : Int32)), (0, .ref o), (1, .int v1), (2, .int v2)]) hx hb dX7_about_59 hl (by decide) rfl (fun ls hl => ?_)
          exact lp_X7_about_61 o ad u hRf hRl C hret   100 v1 (0 : Int32) (0 : Int32) hj _ _ _ V (lv_sub hl [2, 3, 1, 0] rfl)
        · replace hj := iq _ c7 hj
          by_cases c16 : v2 = 3
          · refine lv_tableIn (off := 85) (tgt := 98) hx hb dX7_about_13 (by rw [c16]; decide) (by rw [c16]; decide) (by rw [c16]; rfl) (by decide) ?_
            replace hj := ip _ c16 hj
            refine lv_aload_n hx hb dX7_about_98 rfl (lv_at hl 1 rfl) ?_
            refine x_get hx hb hts hown V inX7 0 rfl rfl 8 (by decide) tw_528 rfl rfl dX7_about_99 ?_
            refine lv_iload_n hx hb dX7_about_102 rfl (lv_at hl 2 rfl) ?_
            obtain ⟨i17, hj⟩ := gd_some hj
            refine x_iald hx hb V 6 rfl i17 dX7_about_103 ?_
            exact hret (u.2.1 8 v1.toNatClampNeg) hj rfl V dX7_about_104
          · replace hj := iq _ c16 hj
            refine lv_tableOut (tgt := 105) hx hb dX7_about_13 (sw_out3 c3 c5 c7 c16) (by decide) ?_
            refine lv_iconst (v := (-1)) hx hb dX7_about_105 (by decide) ?_
            exact hret (-1 : Int32) hj rfl V dX7_about_106
  · replace hj := ip _ c2 hj
    refine lv_iconst (v := (-1)) hx hb dX7_about_8 (by decide) ?_
    exact hret (-1 : Int32) hj rfl V dX7_about_9)

def q_X7_isQuiet_3 (u : St) (k_3 : Int32 → Int32 → Int32 → Int32 → Option (Int32)) (v1 : Int32) (v2 : Int32) (v3 : Int32) (v4 : Int32) : Option (Int32) :=
  gd v1 12 (if (u.2.1 7 v1.toNatClampNeg) ≤ v4 then some (1 : Int32) else nm (((10 : Int32) * v1) + v4) (fun x3 => if ((v2 >>> (v4 &&& 31)) &&& (1 : Int32)) = (1 : Int32) then gd x3 120 (if v3 < (u.2.1 13 x3.toNatClampNeg) then nm (v4 + 1) (fun x8 => k_3 v1 v2 v3 x8) else gd x3 120 (if (u.2.1 14 x3.toNatClampNeg) = (0 : Int32) then some (0 : Int32) else gd x3 120 (if (u.2.1 14 x3.toNatClampNeg) ≤ v3 then nm (v4 + 1) (fun x13 => k_3 v1 v2 v3 x13) else some (0 : Int32)))) else nm (v4 + 1) (fun x5 => k_3 v1 v2 v3 x5)))
set_option maxHeartbeats 4000000 in
set_option maxRecDepth 100000 in
theorem b_X7_isQuiet_3 {p : Program} {l : Launch} {e : Env} {R : Room} {s : State} {m : MethodId} {args : Array Value} {below : List Frame} {meth : Method} {c : Code} {A : Nat → Prop} {Q : State → Prop} {D : va_G} {tc : Nat → ClassId} (o : Nat) (ad : Nat → Nat) (u : St) (hRf : 0 ≤ R.frames) (hRl : 0 ≤ R.locals) (C : Cx p s m args meth c cX7_isQuiet 6 RX7 (some .boolean)) {x0 : Int32} (hret : RetI p l e R s m args below meth c Q cX7_isQuiet D tc A .boolean (some x0) (fun x : Int32 => x) (fun _ : Int32 => Mw tc o ad u)) (k_3 : Int32 → Int32 → Int32 → Int32 → Option (Int32)) (hk_3 : ∀ (v1 : Int32) (v2 : Int32) (v3 : Int32) (v4 : Int32), k_3 v1 v2 v3 v4 = some x0 → ∀ (H : Heap) (locs : List Loc) (ls : Array Slot), Wd D tc A s H locs (Mw tc o ad u) → lv_has ls 6 [(0, .ref o), (1, .int v1), (2, .int v2), (3, .int v3), (4, .int v4)] → W p l e R s m args below meth c H locs 0 0 Q (F0 m 3 ls [])) : ∀ (v1 : Int32) (v2 : Int32) (v3 : Int32) (v4 : Int32), q_X7_isQuiet_3 u k_3 v1 v2 v3 v4 = some x0 → ∀ (H : Heap) (locs : List Loc) (ls : Array Slot), Wd D tc A s H locs (Mw tc o ad u) → lv_has ls 6 [(0, .ref o), (1, .int v1), (2, .int v2), (3, .int v3), (4, .int v4)] → W p l e R s m args below meth c H locs 0 0 Q (F0 m 3 ls []) := by
  obtain ⟨hx, hb, hr, hml, hown, hts, hlk, hN⟩ := id C
  intro v1 v2 v3 v4 hj H locs ls V hl
  unfold q_X7_isQuiet_3 at hj
  refine lv_iload hx hb dX7_isQuiet_3 (lv_at hl 4 rfl) ?_
  refine lv_aload_n hx hb dX7_isQuiet_5 rfl (lv_at hl 0 rfl) ?_
  refine x_get hx hb hts hown V inX7 0 rfl rfl 7 (by decide) tw_527 rfl rfl dX7_isQuiet_6 ?_
  refine lv_iload_n hx hb dX7_isQuiet_9 rfl (lv_at hl 1 rfl) ?_
  obtain ⟨i1, hj⟩ := gd_some hj
  refine x_iald hx hb V 5 rfl i1 dX7_isQuiet_10 ?_
  refine lv_icmp_ge (tgt := 73) hx hb dX7_isQuiet_11 (by decide) (fun c2 => ?_) (fun c2 => ?_)
  · replace hj := ip _ c2 hj
    refine lv_iconst (v := 1) hx hb dX7_isQuiet_73 (by decide) ?_
    exact hret (1 : Int32) hj zn_1 V dX7_isQuiet_74
  · replace hj := iq _ c2 hj
    refine lv_bipush (v := 10) hx hb dX7_isQuiet_14 (by decide) ?_
    refine lv_iload_n hx hb dX7_isQuiet_16 rfl (lv_at hl 1 rfl) ?_
    refine lv_imul hx hb dX7_isQuiet_17 ?_
    refine lv_iload hx hb dX7_isQuiet_18 (lv_at hl 4 rfl) ?_
    refine lv_iadd hx hb dX7_isQuiet_20 ?_
    obtain ⟨x3, ex3, hj⟩ := nm_some hj
    refine x_topi ex3 ?_
    refine lv_istore (lv' := [(5, .int x3), (0, .ref o), (1, .int v1), (2, .int v2), (3, .int v3), (4, .int v4)]) hx hb dX7_isQuiet_21 hl (by decide) rfl (fun ls hl => ?_)
    refine lv_iload_n hx hb dX7_isQuiet_23 rfl (lv_at hl 3 rfl) ?_
    refine lv_iload hx hb dX7_isQuiet_24 (lv_at hl 5 rfl) ?_
    refine lv_ishr hx hb dX7_isQuiet_26 ?_
    refine lv_iconst (v := 1) hx hb dX7_isQuiet_27 (by decide) ?_
    refine lv_iand hx hb dX7_isQuiet_28 ?_
    refine lv_iconst (v := 1) hx hb dX7_isQuiet_29 (by decide) ?_
    refine lv_icmp_ne (tgt := 67) hx hb dX7_isQuiet_30 (by decide) (fun c4 => ?_) (fun c4 => ?_)
    · replace hj := iq _ c4 hj
      obtain ⟨x5, ex5, hj⟩ := nm_some hj
      refine lv_iinc (v := x5) (lv' := [(4, .int x5), (5, .int x3), (0, .ref o), (1, .int v1), (2, .int v2), (3, .int v3)]) hx hb dX7_isQuiet_67 hl (k := 5) rfl (by rw [ex5]; rfl) (by decide) rfl (fun ls hl => ?_)
      refine lv_goto (tgt := 3) hx hb dX7_isQuiet_70 (by decide) ?_
      exact hk_3 v1 v2 v3 x5 hj _ _ _ V (lv_sub hl [2, 3, 4, 5, 0] rfl)
    · replace hj := ip _ c4 hj
      refine lv_aload_n hx hb dX7_isQuiet_33 rfl (lv_at hl 1 rfl) ?_
      refine x_get hx hb hts hown V inX7 0 rfl rfl 13 (by decide) tw_533 rfl rfl dX7_isQuiet_34 ?_
      refine lv_iload hx hb dX7_isQuiet_37 (lv_at hl 0 rfl) ?_
      obtain ⟨i6, hj⟩ := gd_some hj
      refine x_iald hx hb V 11 rfl i6 dX7_isQuiet_39 ?_
      refine lv_iload_n hx hb dX7_isQuiet_40 rfl (lv_at hl 4 rfl) ?_
      refine lv_icmp_gt (tgt := 67) hx hb dX7_isQuiet_41 (by decide) (fun c7 => ?_) (fun c7 => ?_)
      · replace hj := ip _ c7 hj
        obtain ⟨x8, ex8, hj⟩ := nm_some hj
        refine lv_iinc (v := x8) (lv' := [(4, .int x8), (5, .int x3), (0, .ref o), (1, .int v1), (2, .int v2), (3, .int v3)]) hx hb dX7_isQuiet_67 hl (k := 5) rfl (by rw [ex8]; rfl) (by decide) rfl (fun ls hl => ?_)
        refine lv_goto (tgt := 3) hx hb dX7_isQuiet_70 (by decide) ?_
        exact hk_3 v1 v2 v3 x8 hj _ _ _ V (lv_sub hl [2, 3, 4, 5, 0] rfl)
      · replace hj := iq _ c7 hj
        refine lv_aload_n hx hb dX7_isQuiet_44 rfl (lv_at hl 1 rfl) ?_
        refine x_get hx hb hts hown V inX7 0 rfl rfl 14 (by decide) tw_534 rfl rfl dX7_isQuiet_45 ?_
        refine lv_iload hx hb dX7_isQuiet_48 (lv_at hl 0 rfl) ?_
        obtain ⟨i9, hj⟩ := gd_some hj
        refine x_iald hx hb V 12 rfl i9 dX7_isQuiet_50 ?_
        refine lv_if_eq (tgt := 65) hx hb dX7_isQuiet_51 (by decide) (fun c10 => ?_) (fun c10 => ?_)
        · replace hj := ip _ c10 hj
          refine lv_iconst (v := 0) hx hb dX7_isQuiet_65 (by decide) ?_
          exact hret (0 : Int32) hj zn_0 V dX7_isQuiet_66
        · replace hj := iq _ c10 hj
          refine lv_aload_n hx hb dX7_isQuiet_54 rfl (lv_at hl 1 rfl) ?_
          refine x_get hx hb hts hown V inX7 0 rfl rfl 14 (by decide) tw_534 rfl rfl dX7_isQuiet_55 ?_
          refine lv_iload hx hb dX7_isQuiet_58 (lv_at hl 0 rfl) ?_
          obtain ⟨i11, hj⟩ := gd_some hj
          refine x_iald hx hb V 12 rfl i11 dX7_isQuiet_60 ?_
          refine lv_iload_n hx hb dX7_isQuiet_61 rfl (lv_at hl 4 rfl) ?_
          refine lv_icmp_le (tgt := 67) hx hb dX7_isQuiet_62 (by decide) (fun c12 => ?_) (fun c12 => ?_)
          · replace hj := ip _ c12 hj
            obtain ⟨x13, ex13, hj⟩ := nm_some hj
            refine lv_iinc (v := x13) (lv' := [(4, .int x13), (5, .int x3), (0, .ref o), (1, .int v1), (2, .int v2), (3, .int v3)]) hx hb dX7_isQuiet_67 hl (k := 5) rfl (by rw [ex13]; rfl) (by decide) rfl (fun ls hl => ?_)
            refine lv_goto (tgt := 3) hx hb dX7_isQuiet_70 (by decide) ?_
            exact hk_3 v1 v2 v3 x13 hj _ _ _ V (lv_sub hl [2, 3, 4, 5, 0] rfl)
          · replace hj := iq _ c12 hj
            refine lv_iconst (v := 0) hx hb dX7_isQuiet_65 (by decide) ?_
            exact hret (0 : Int32) hj zn_0 V dX7_isQuiet_66
def j_X7_isQuiet_3 (u : St) : Nat → Int32 → Int32 → Int32 → Int32 → Option (Int32)
  | 0 => fun _ _ _ _ => none
  | n + 1 => q_X7_isQuiet_3 u (j_X7_isQuiet_3 u n)
theorem lp_X7_isQuiet_3 {p : Program} {l : Launch} {e : Env} {R : Room} {s : State} {m : MethodId} {args : Array Value} {below : List Frame} {meth : Method} {c : Code} {A : Nat → Prop} {Q : State → Prop} {D : va_G} {tc : Nat → ClassId} (o : Nat) (ad : Nat → Nat) (u : St) (hRf : 0 ≤ R.frames) (hRl : 0 ≤ R.locals) (C : Cx p s m args meth c cX7_isQuiet 6 RX7 (some .boolean)) {x0 : Int32} (hret : RetI p l e R s m args below meth c Q cX7_isQuiet D tc A .boolean (some x0) (fun x : Int32 => x) (fun _ : Int32 => Mw tc o ad u))  : ∀ (n : Nat), ∀ (v1 : Int32) (v2 : Int32) (v3 : Int32) (v4 : Int32), j_X7_isQuiet_3 u n v1 v2 v3 v4 = some x0 → ∀ (H : Heap) (locs : List Loc) (ls : Array Slot), Wd D tc A s H locs (Mw tc o ad u) → lv_has ls 6 [(0, .ref o), (1, .int v1), (2, .int v2), (3, .int v3), (4, .int v4)] → W p l e R s m args below meth c H locs 0 0 Q (F0 m 3 ls []) := by
  intro n
  induction n with
  | zero =>
    intro v1 v2 v3 v4 hj
    have hj : (none : Option (Int32)) = some x0 := hj
    cases hj
  | succ n ih =>
    intro v1 v2 v3 v4 hj
    exact b_X7_isQuiet_3 o ad u hRf hRl C hret   (j_X7_isQuiet_3 u n) ih v1 v2 v3 v4 hj
def j_X7_isQuiet (u : St) (v1 : Int32) (v2 : Int32) (v3 : Int32) : Option (Int32) :=
  j_X7_isQuiet_3 u 100 v1 v2 v3 (0 : Int32)
set_option maxHeartbeats 4000000 in
set_option maxRecDepth 100000 in
theorem k_X7_isQuiet (l : Launch) (D : va_G) (tc : Nat → ClassId) (o : Nat) (ad : Nat → Nat) (u : St) (v1 : Int32) (v2 : Int32) (v3 : Int32) {x0 : Int32} (hj : j_X7_isQuiet u v1 v2 v3 = some x0) : MetD l D tc yX7_isQuiet cX7_isQuiet 6 (some .boolean) 0 0 [.ref o, .int v1, .int v2, .int v3] (Mw tc o ad u) (some (.int x0)) (Mw tc o ad u) :=
  x_entI (fun x : Int32 => x) (fun _ : Int32 => Mw tc o ad u) (by decide) (own := RX7) rfl (Nat.le_of_ble_eq_true rfl) (fun p e s m args below meth c A Q ls C V hl hret => by
  obtain ⟨hx, hb, hr, hml, hown, hts, hlk, hN⟩ := id C
  have hRf : 0 ≤ (rmz 0 0 0 0).frames := Nat.le_refl _
  have hRl : 0 ≤ (rmz 0 0 0 0).locals := Nat.le_refl _
  generalize (rmz 0 0 0 0) = R at hret hRf hRl ⊢
  generalize s.heap = H at V ⊢
  generalize ([] : List Loc) = locs at V ⊢
  have hl : lv_has ls 6 [(0, .ref o), (1, .int v1), (2, .int v2), (3, .int v3)] := hl
  unfold j_X7_isQuiet at hj
  refine lv_iconst (v := 0) hx hb dX7_isQuiet_0 (by decide) ?_
  refine lv_istore (lv' := [(4, .int (0 : Int32)), (0, .ref o), (1, .int v1), (2, .int v2), (3, .int v3)]) hx hb dX7_isQuiet_1 hl (by decide) rfl (fun ls hl => ?_)
  exact lp_X7_isQuiet_3 o ad u hRf hRl C hret   100 v1 v2 v3 (0 : Int32) hj _ _ _ V (lv_sub hl [1, 2, 3, 4, 0] rfl))

def q_X7_isAhead_79 (u : St) (k_79 : Int32 → Int32 → Int32 → Int32 → Int32 → Option (Int32)) (v1 : Int32) (v2 : Int32) (v3 : Int32) (v7 : Int32) (v8 : Int32) : Option (Int32) :=
  gd v7 120 (if (u.2.1 13 v7.toNatClampNeg) ≤ v8 then some (0 : Int32) else if v2 = (1 : Int32) then (j_X7_isQuiet u v1 v3 v8).bind (fun r17 => if r17 = (0 : Int32) then nm (v8 + 1) (fun x19 => k_79 v1 v2 v3 v7 x19) else some (1 : Int32)) else some (0 : Int32))
set_option maxHeartbeats 4000000 in
set_option maxRecDepth 100000 in
theorem b_X7_isAhead_79 {p : Program} {l : Launch} {e : Env} {R : Room} {s : State} {m : MethodId} {args : Array Value} {below : List Frame} {meth : Method} {c : Code} {A : Nat → Prop} {Q : State → Prop} {D : va_G} {tc : Nat → ClassId} (o : Nat) (ad : Nat → Nat) (u : St) (hRf : 1 ≤ R.frames) (hRl : 25 ≤ R.locals) (C : Cx p s m args meth c cX7_isAhead 9 RX7 (some .boolean)) {x0 : Int32} (hret : RetI p l e R s m args below meth c Q cX7_isAhead D tc A .boolean (some x0) (fun x : Int32 => x) (fun _ : Int32 => Mw tc o ad u)) (k_79 : Int32 → Int32 → Int32 → Int32 → Int32 → Option (Int32)) (hk_79 : ∀ (v1 : Int32) (v2 : Int32) (v3 : Int32) (v7 : Int32) (v8 : Int32), k_79 v1 v2 v3 v7 v8 = some x0 → ∀ (H : Heap) (locs : List Loc) (ls : Array Slot), Wd D tc A s H locs (Mw tc o ad u) → lv_has ls 9 [(0, .ref o), (1, .int v1), (2, .int v2), (3, .int v3), (7, .int v7), (8, .int v8)] → W p l e R s m args below meth c H locs 0 0 Q (F0 m 79 ls [])) : ∀ (v1 : Int32) (v2 : Int32) (v3 : Int32) (v7 : Int32) (v8 : Int32), q_X7_isAhead_79 u k_79 v1 v2 v3 v7 v8 = some x0 → ∀ (H : Heap) (locs : List Loc) (ls : Array Slot), Wd D tc A s H locs (Mw tc o ad u) → lv_has ls 9 [(0, .ref o), (1, .int v1), (2, .int v2), (3, .int v3), (7, .int v7), (8, .int v8)] → W p l e R s m args below meth c H locs 0 0 Q (F0 m 79 ls []) := by
  obtain ⟨hx, hb, hr, hml, hown, hts, hlk, hN⟩ := id C
  intro v1 v2 v3 v7 v8 hj H locs ls V hl
  unfold q_X7_isAhead_79 at hj
  refine lv_iload hx hb dX7_isAhead_79 (lv_at hl 5 rfl) ?_
  refine lv_aload_n hx hb dX7_isAhead_81 rfl (lv_at hl 0 rfl) ?_
  refine x_get hx hb hts hown V inX7 0 rfl rfl 13 (by decide) tw_533 rfl rfl dX7_isAhead_82 ?_
  refine lv_iload hx hb dX7_isAhead_85 (lv_at hl 4 rfl) ?_
  obtain ⟨i14, hj⟩ := gd_some hj
  refine x_iald hx hb V 11 rfl i14 dX7_isAhead_87 ?_
  refine lv_icmp_ge (tgt := 115) hx hb dX7_isAhead_88 (by decide) (fun c15 => ?_) (fun c15 => ?_)
  · replace hj := ip _ c15 hj
    refine lv_iconst (v := 0) hx hb dX7_isAhead_115 (by decide) ?_
    exact hret (0 : Int32) hj zn_0 V dX7_isAhead_116
  · replace hj := iq _ c15 hj
    refine lv_iload_n hx hb dX7_isAhead_91 rfl (lv_at hl 2 rfl) ?_
    refine lv_iconst (v := 1) hx hb dX7_isAhead_92 (by decide) ?_
    refine lv_icmp_ne (tgt := 115) hx hb dX7_isAhead_93 (by decide) (fun c16 => ?_) (fun c16 => ?_)
    · replace hj := iq _ c16 hj
      refine lv_iconst (v := 0) hx hb dX7_isAhead_115 (by decide) ?_
      exact hret (0 : Int32) hj zn_0 V dX7_isAhead_116
    · replace hj := ip _ c16 hj
      refine lv_aload_n hx hb dX7_isAhead_96 rfl (lv_at hl 0 rfl) ?_
      refine lv_iload_n hx hb dX7_isAhead_97 rfl (lv_at hl 1 rfl) ?_
      refine lv_iload_n hx hb dX7_isAhead_98 rfl (lv_at hl 3 rfl) ?_
      refine lv_iload hx hb dX7_isAhead_99 (lv_at hl 5 rfl) ?_
      obtain ⟨r17, hr17, hj⟩ := bd_some hj
      refine x_allI V _ (rg_map _) (x_runV (n := 3) (rest := []) C V _ (rg_map _) (rg_nd _) (k_X7_isQuiet l D tc o ad u v1 v3 v8 hr17) tw_688 tw_690 tp_15 tw_6 tw_691 (by decide +kernel) ⟨Nat.le_trans (Nat.le_of_ble_eq_true rfl) hRf, Nat.le_trans (Nat.le_of_ble_eq_true rfl) hRl⟩ ⟨Nat.zero_le _, Nat.zero_le _⟩ 0 6 rfl rfl rfl hl.1 rfl (Nat.le_of_ble_eq_true rfl) dX7_isAhead_101) (fun H locs V zr17 => ?_)
      replace V : Wd D tc A s H locs (Mw tc o ad u) := V
      refine lv_if_eq (tgt := 109) hx hb dX7_isAhead_104 (by decide) (fun c18 => ?_) (fun c18 => ?_)
      · replace hj := ip _ c18 hj
        obtain ⟨x19, ex19, hj⟩ := nm_some hj
        refine lv_iinc (v := x19) (lv' := [(8, .int x19), (0, .ref o), (1, .int v1), (2, .int v2), (3, .int v3), (7, .int v7)]) hx hb dX7_isAhead_109 hl (k := 5) rfl (by rw [ex19]; rfl) (by decide) rfl (fun ls hl => ?_)
        refine lv_goto (tgt := 79) hx hb dX7_isAhead_112 (by decide) ?_
        exact hk_79 v1 v2 v3 v7 x19 hj _ _ _ V (lv_sub hl [1, 2, 3, 4, 5, 0] rfl)
      · replace hj := iq _ c18 hj
        refine lv_iconst (v := 1) hx hb dX7_isAhead_107 (by decide) ?_
        exact hret (1 : Int32) hj zn_1 V dX7_isAhead_108
def j_X7_isAhead_79 (u : St) : Nat → Int32 → Int32 → Int32 → Int32 → Int32 → Option (Int32)
  | 0 => fun _ _ _ _ _ => none
  | n + 1 => q_X7_isAhead_79 u (j_X7_isAhead_79 u n)
theorem lp_X7_isAhead_79 {p : Program} {l : Launch} {e : Env} {R : Room} {s : State} {m : MethodId} {args : Array Value} {below : List Frame} {meth : Method} {c : Code} {A : Nat → Prop} {Q : State → Prop} {D : va_G} {tc : Nat → ClassId} (o : Nat) (ad : Nat → Nat) (u : St) (hRf : 1 ≤ R.frames) (hRl : 25 ≤ R.locals) (C : Cx p s m args meth c cX7_isAhead 9 RX7 (some .boolean)) {x0 : Int32} (hret : RetI p l e R s m args below meth c Q cX7_isAhead D tc A .boolean (some x0) (fun x : Int32 => x) (fun _ : Int32 => Mw tc o ad u))  : ∀ (n : Nat), ∀ (v1 : Int32) (v2 : Int32) (v3 : Int32) (v7 : Int32) (v8 : Int32), j_X7_isAhead_79 u n v1 v2 v3 v7 v8 = some x0 → ∀ (H : Heap) (locs : List Loc) (ls : Array Slot), Wd D tc A s H locs (Mw tc o ad u) → lv_has ls 9 [(0, .ref o), (1, .int v1), (2, .int v2), (3, .int v3), (7, .int v7), (8, .int v8)] → W p l e R s m args below meth c H locs 0 0 Q (F0 m 79 ls []) := by
  intro n
  induction n with
  | zero =>
    intro v1 v2 v3 v7 v8 hj
    have hj : (none : Option (Int32)) = some x0 := hj
    cases hj
  | succ n ih =>
    intro v1 v2 v3 v7 v8 hj
    exact b_X7_isAhead_79 o ad u hRf hRl C hret   (j_X7_isAhead_79 u n) ih v1 v2 v3 v7 v8 hj
def j_X7_isAhead (u : St) (v1 : Int32) (v2 : Int32) (v3 : Int32) (v4 : Int32) (v5 : Int32) : Option (Int32) :=
  nm (((10 : Int32) * v1) + v4) (fun x1 => nm (((10 : Int32) * v1) + v5) (fun x2 => gd x1 120 (if (u.2.1 14 x1.toNatClampNeg) = (0 : Int32) then some (0 : Int32) else gd x1 120 (gd x2 120 (if (u.2.1 14 x1.toNatClampNeg) < (u.2.1 13 x2.toNatClampNeg) then if v2 = (0 : Int32) then some (1 : Int32) else gd x1 120 (gd x2 120 (if (u.2.1 9 x1.toNatClampNeg) = (u.2.1 9 x2.toNatClampNeg) then some (1 : Int32) else gd x1 120 (nm (u.2.1 14 x1.toNatClampNeg) (fun x13 => j_X7_isAhead_79 u 100 v1 v2 v3 x2 x13)))) else some (0 : Int32))))))
set_option maxHeartbeats 4000000 in
set_option maxRecDepth 100000 in
theorem k_X7_isAhead (l : Launch) (D : va_G) (tc : Nat → ClassId) (o : Nat) (ad : Nat → Nat) (u : St) (v1 : Int32) (v2 : Int32) (v3 : Int32) (v4 : Int32) (v5 : Int32) {x0 : Int32} (hj : j_X7_isAhead u v1 v2 v3 v4 v5 = some x0) : MetD l D tc yX7_isAhead cX7_isAhead 9 (some .boolean) 1 25 [.ref o, .int v1, .int v2, .int v3, .int v4, .int v5] (Mw tc o ad u) (some (.int x0)) (Mw tc o ad u) :=
  x_entI (fun x : Int32 => x) (fun _ : Int32 => Mw tc o ad u) (by decide) (own := RX7) rfl (Nat.le_of_ble_eq_true rfl) (fun p e s m args below meth c A Q ls C V hl hret => by
  obtain ⟨hx, hb, hr, hml, hown, hts, hlk, hN⟩ := id C
  have hRf : 1 ≤ (rmz 1 0 0 25).frames := Nat.le_refl _
  have hRl : 25 ≤ (rmz 1 0 0 25).locals := Nat.le_refl _
  generalize (rmz 1 0 0 25) = R at hret hRf hRl ⊢
  generalize s.heap = H at V ⊢
  generalize ([] : List Loc) = locs at V ⊢
  have hl : lv_has ls 9 [(0, .ref o), (1, .int v1), (2, .int v2), (3, .int v3), (4, .int v4), (5, .int v5)] := hl
  unfold j_X7_isAhead at hj
  refine lv_bipush (v := 10) hx hb dX7_isAhead_0 (by decide) ?_
  refine lv_iload_n hx hb dX7_isAhead_2 rfl (lv_at hl 1 rfl) ?_
  refine lv_imul hx hb dX7_isAhead_3 ?_
  refine lv_iload hx hb dX7_isAhead_4 (lv_at hl 4 rfl) ?_
  refine lv_iadd hx hb dX7_isAhead_6 ?_
  obtain ⟨x1, ex1, hj⟩ := nm_some hj
  refine x_topi ex1 ?_
  refine lv_istore (lv' := [(6, .int x1), (0, .ref o), (1, .int v1), (2, .int v2), (3, .int v3), (4, .int v4), (5, .int v5)]) hx hb dX7_isAhead_7 hl (by decide) rfl (fun ls hl => ?_)
  refine lv_bipush (v := 10) hx hb dX7_isAhead_9 (by decide) ?_
  refine lv_iload_n hx hb dX7_isAhead_11 rfl (lv_at hl 2 rfl) ?_
  refine lv_imul hx hb dX7_isAhead_12 ?_
  refine lv_iload hx hb dX7_isAhead_13 (lv_at hl 6 rfl) ?_
  refine lv_iadd hx hb dX7_isAhead_15 ?_
  obtain ⟨x2, ex2, hj⟩ := nm_some hj
  refine x_topi ex2 ?_
  refine lv_istore (lv' := [(7, .int x2), (6, .int x1), (0, .ref o), (1, .int v1), (2, .int v2), (3, .int v3), (4, .int v4), (5, .int v5)]) hx hb dX7_isAhead_16 hl (by decide) rfl (fun ls hl => ?_)
  refine lv_aload_n hx hb dX7_isAhead_18 rfl (lv_at hl 2 rfl) ?_
  refine x_get hx hb hts hown V inX7 0 rfl rfl 14 (by decide) tw_534 rfl rfl dX7_isAhead_19 ?_
  refine lv_iload hx hb dX7_isAhead_22 (lv_at hl 1 rfl) ?_
  obtain ⟨i3, hj⟩ := gd_some hj
  refine x_iald hx hb V 12 rfl i3 dX7_isAhead_24 ?_
  refine lv_if_eq (tgt := 45) hx hb dX7_isAhead_25 (by decide) (fun c4 => ?_) (fun c4 => ?_)
  · replace hj := ip _ c4 hj
    refine lv_iconst (v := 0) hx hb dX7_isAhead_45 (by decide) ?_
    exact hret (0 : Int32) hj zn_0 V dX7_isAhead_46
  · replace hj := iq _ c4 hj
    refine lv_aload_n hx hb dX7_isAhead_28 rfl (lv_at hl 2 rfl) ?_
    refine x_get hx hb hts hown V inX7 0 rfl rfl 14 (by decide) tw_534 rfl rfl dX7_isAhead_29 ?_
    refine lv_iload hx hb dX7_isAhead_32 (lv_at hl 1 rfl) ?_
    obtain ⟨i5, hj⟩ := gd_some hj
    refine x_iald hx hb V 12 rfl i5 dX7_isAhead_34 ?_
    refine lv_aload_n hx hb dX7_isAhead_35 rfl (lv_at hl 2 rfl) ?_
    refine x_get hx hb hts hown V inX7 0 rfl rfl 13 (by decide) tw_533 rfl rfl dX7_isAhead_36 ?_
    refine lv_iload hx hb dX7_isAhead_39 (lv_at hl 0 rfl) ?_
    obtain ⟨i6, hj⟩ := gd_some hj
    refine x_iald hx hb V 11 rfl i6 dX7_isAhead_41 ?_
    refine lv_icmp_lt (tgt := 47) hx hb dX7_isAhead_42 (by decide) (fun c7 => ?_) (fun c7 => ?_)
    · replace hj := ip _ c7 hj
      refine lv_iload_n hx hb dX7_isAhead_47 rfl (lv_at hl 4 rfl) ?_
      refine lv_if_eq (tgt := 68) hx hb dX7_isAhead_48 (by decide) (fun c8 => ?_) (fun c8 => ?_)
      · replace hj := ip _ c8 hj
        refine lv_iconst (v := 1) hx hb dX7_isAhead_68 (by decide) ?_
        exact hret (1 : Int32) hj zn_1 V dX7_isAhead_69
      · replace hj := iq _ c8 hj
        refine lv_aload_n hx hb dX7_isAhead_51 rfl (lv_at hl 2 rfl) ?_
        refine x_get hx hb hts hown V inX7 0 rfl rfl 9 (by decide) tw_529 rfl rfl dX7_isAhead_52 ?_
        refine lv_iload hx hb dX7_isAhead_55 (lv_at hl 1 rfl) ?_
        obtain ⟨i9, hj⟩ := gd_some hj
        refine x_iald hx hb V 7 rfl i9 dX7_isAhead_57 ?_
        refine lv_aload_n hx hb dX7_isAhead_58 rfl (lv_at hl 2 rfl) ?_
        refine x_get hx hb hts hown V inX7 0 rfl rfl 9 (by decide) tw_529 rfl rfl dX7_isAhead_59 ?_
        refine lv_iload hx hb dX7_isAhead_62 (lv_at hl 0 rfl) ?_
        obtain ⟨i10, hj⟩ := gd_some hj
        refine x_iald hx hb V 7 rfl i10 dX7_isAhead_64 ?_
        refine lv_icmp_ne (tgt := 70) hx hb dX7_isAhead_65 (by decide) (fun c11 => ?_) (fun c11 => ?_)
        · replace hj := iq _ c11 hj
          refine lv_aload_n hx hb dX7_isAhead_70 rfl (lv_at hl 2 rfl) ?_
          refine x_get hx hb hts hown V inX7 0 rfl rfl 14 (by decide) tw_534 rfl rfl dX7_isAhead_71 ?_
          refine lv_iload hx hb dX7_isAhead_74 (lv_at hl 1 rfl) ?_
          obtain ⟨i12, hj⟩ := gd_some hj
          refine x_iald hx hb V 12 rfl i12 dX7_isAhead_76 ?_
          obtain ⟨x13, ex13, hj⟩ := nm_some hj
          refine x_topi ex13 ?_
          refine lv_istore (lv' := [(8, .int x13), (7, .int x2), (6, .int x1), (0, .ref o), (1, .int v1), (2, .int v2), (3, .int v3), (4, .int v4), (5, .int v5)]) hx hb dX7_isAhead_77 hl (by decide) rfl (fun ls hl => ?_)
          exact lp_X7_isAhead_79 o ad u hRf hRl C hret   100 v1 v2 v3 x2 x13 hj _ _ _ V (lv_sub hl [3, 4, 5, 6, 1, 0] rfl)
        · replace hj := ip _ c11 hj
          refine lv_iconst (v := 1) hx hb dX7_isAhead_68 (by decide) ?_
          exact hret (1 : Int32) hj zn_1 V dX7_isAhead_69
    · replace hj := iq _ c7 hj
      refine lv_iconst (v := 0) hx hb dX7_isAhead_45 (by decide) ?_
      exact hret (0 : Int32) hj zn_0 V dX7_isAhead_46)

def j_X7_all (u : St) (v1 : Int32) : Option (Int32) :=
  gd v1 12 (some (((1 : Int32) <<< ((u.2.1 7 v1.toNatClampNeg) &&& 31)) - (1 : Int32)))
set_option maxHeartbeats 4000000 in
set_option maxRecDepth 100000 in
theorem k_X7_all (l : Launch) (D : va_G) (tc : Nat → ClassId) (o : Nat) (ad : Nat → Nat) (u : St) (v1 : Int32) {x0 : Int32} (hj : j_X7_all u v1 = some x0) : MetD l D tc yX7_all cX7_all 2 (some .int) 0 0 [.ref o, .int v1] (Mw tc o ad u) (some (.int x0)) (Mw tc o ad u) :=
  x_entI (fun x : Int32 => x) (fun _ : Int32 => Mw tc o ad u) (by decide) (own := RX7) rfl (Nat.le_of_ble_eq_true rfl) (fun p e s m args below meth c A Q ls C V hl hret => by
  obtain ⟨hx, hb, hr, hml, hown, hts, hlk, hN⟩ := id C
  have hRf : 0 ≤ (rmz 0 0 0 0).frames := Nat.le_refl _
  have hRl : 0 ≤ (rmz 0 0 0 0).locals := Nat.le_refl _
  generalize (rmz 0 0 0 0) = R at hret hRf hRl ⊢
  generalize s.heap = H at V ⊢
  generalize ([] : List Loc) = locs at V ⊢
  have hl : lv_has ls 2 [(0, .ref o), (1, .int v1)] := hl
  unfold j_X7_all at hj
  refine lv_iconst (v := 1) hx hb dX7_all_0 (by decide) ?_
  refine lv_aload_n hx hb dX7_all_1 rfl (lv_at hl 0 rfl) ?_
  refine x_get hx hb hts hown V inX7 0 rfl rfl 7 (by decide) tw_527 rfl rfl dX7_all_2 ?_
  refine lv_iload_n hx hb dX7_all_5 rfl (lv_at hl 1 rfl) ?_
  obtain ⟨i1, hj⟩ := gd_some hj
  refine x_iald hx hb V 5 rfl i1 dX7_all_6 ?_
  refine lv_ishl hx hb dX7_all_7 ?_
  refine lv_iconst (v := 1) hx hb dX7_all_8 (by decide) ?_
  refine lv_isub hx hb dX7_all_9 ?_
  exact hret (((1 : Int32) <<< ((u.2.1 7 v1.toNatClampNeg) &&& 31)) - (1 : Int32)) hj rfl V dX7_all_10)

def j_X7_ahead (u : St) (v1 : Int32) (v2 : Int32) (v3 : Int32) (v4 : Int32) : Option (Int32) :=
  (j_X7_isCall u v1 v3).bind (fun r1 => if r1 = (0 : Int32) then some (-1 : Int32) else (j_X7_isCall u v1 v4).bind (fun r3 => if r3 = (0 : Int32) then some (-1 : Int32) else (j_X7_isRule v2).bind (fun r5 => if r5 = (0 : Int32) then some (-1 : Int32) else (j_X7_all u v1).bind (fun r7 => (j_X7_isAhead u v1 v2 r7 v3 v4).bind (fun r8 => if r8 = (0 : Int32) then some (0 : Int32) else some (1 : Int32))))))
set_option maxHeartbeats 4000000 in
set_option maxRecDepth 100000 in
theorem k_X7_ahead (l : Launch) (D : va_G) (tc : Nat → ClassId) (o : Nat) (ad : Nat → Nat) (u : St) (v1 : Int32) (v2 : Int32) (v3 : Int32) (v4 : Int32) {x0 : Int32} (hj : j_X7_ahead u v1 v2 v3 v4 = some x0) : MetD l D tc yX7_ahead cX7_ahead 5 (some .int) 3 65 [.ref o, .int v1, .int v2, .int v3, .int v4] (Mw tc o ad u) (some (.int x0)) (Mw tc o ad u) :=
  x_entI (fun x : Int32 => x) (fun _ : Int32 => Mw tc o ad u) (by decide) (own := RX7) rfl (Nat.le_of_ble_eq_true rfl) (fun p e s m args below meth c A Q ls C V hl hret => by
  obtain ⟨hx, hb, hr, hml, hown, hts, hlk, hN⟩ := id C
  have hRf : 3 ≤ (rmz 3 0 0 65).frames := Nat.le_refl _
  have hRl : 65 ≤ (rmz 3 0 0 65).locals := Nat.le_refl _
  generalize (rmz 3 0 0 65) = R at hret hRf hRl ⊢
  generalize s.heap = H at V ⊢
  generalize ([] : List Loc) = locs at V ⊢
  have hl : lv_has ls 5 [(0, .ref o), (1, .int v1), (2, .int v2), (3, .int v3), (4, .int v4)] := hl
  unfold j_X7_ahead at hj
  refine lv_aload_n hx hb dX7_ahead_0 rfl (lv_at hl 0 rfl) ?_
  refine lv_iload_n hx hb dX7_ahead_1 rfl (lv_at hl 1 rfl) ?_
  refine lv_iload_n hx hb dX7_ahead_2 rfl (lv_at hl 3 rfl) ?_
  obtain ⟨r1, hr1, hj⟩ := bd_some hj
  refine x_allI V _ (rg_map _) (x_runV (n := 2) (rest := []) C V _ (rg_map _) (rg_nd _) (k_X7_isCall l D tc o ad u v1 v3 hr1) tw_649 tw_651 tp_12 tw_6 tw_652 (by decide +kernel) ⟨Nat.le_trans (Nat.le_of_ble_eq_true rfl) hRf, Nat.le_trans (Nat.le_of_ble_eq_true rfl) hRl⟩ ⟨Nat.zero_le _, Nat.zero_le _⟩ 0 6 rfl rfl rfl hl.1 rfl (Nat.le_of_ble_eq_true rfl) dX7_ahead_3) (fun H locs V zr1 => ?_)
  replace V : Wd D tc A s H locs (Mw tc o ad u) := V
  refine lv_if_eq (tgt := 26) hx hb dX7_ahead_6 (by decide) (fun c2 => ?_) (fun c2 => ?_)
  · replace hj := ip _ c2 hj
    refine lv_iconst (v := (-1)) hx hb dX7_ahead_26 (by decide) ?_
    exact hret (-1 : Int32) hj rfl V dX7_ahead_27
  · replace hj := iq _ c2 hj
    refine lv_aload_n hx hb dX7_ahead_9 rfl (lv_at hl 0 rfl) ?_
    refine lv_iload_n hx hb dX7_ahead_10 rfl (lv_at hl 1 rfl) ?_
    refine lv_iload hx hb dX7_ahead_11 (lv_at hl 4 rfl) ?_
    obtain ⟨r3, hr3, hj⟩ := bd_some hj
    refine x_allI V _ (rg_map _) (x_runV (n := 2) (rest := []) C V _ (rg_map _) (rg_nd _) (k_X7_isCall l D tc o ad u v1 v4 hr3) tw_649 tw_651 tp_12 tw_6 tw_652 (by decide +kernel) ⟨Nat.le_trans (Nat.le_of_ble_eq_true rfl) hRf, Nat.le_trans (Nat.le_of_ble_eq_true rfl) hRl⟩ ⟨Nat.zero_le _, Nat.zero_le _⟩ 0 6 rfl rfl rfl hl.1 rfl (Nat.le_of_ble_eq_true rfl) dX7_ahead_13) (fun H locs V zr3 => ?_)
    replace V : Wd D tc A s H locs (Mw tc o ad u) := V
    refine lv_if_eq (tgt := 26) hx hb dX7_ahead_16 (by decide) (fun c4 => ?_) (fun c4 => ?_)
    · replace hj := ip _ c4 hj
      refine lv_iconst (v := (-1)) hx hb dX7_ahead_26 (by decide) ?_
      exact hret (-1 : Int32) hj rfl V dX7_ahead_27
    · replace hj := iq _ c4 hj
      refine lv_iload_n hx hb dX7_ahead_19 rfl (lv_at hl 2 rfl) ?_
      obtain ⟨r5, hr5, hj⟩ := bd_some hj
      refine x_allI V _ (rg_map _) (x_runS (n := 1) (rest := []) C V _ (rg_map _) (rg_nd _) (k_X7_isRule l D tc (Mw tc o ad u) v2 hr5) tw_677 tw_678 tw_6 tw_679 (by decide +kernel) ⟨Nat.le_trans (Nat.le_of_ble_eq_true rfl) hRf, Nat.le_trans (Nat.le_of_ble_eq_true rfl) hRl⟩ ⟨Nat.zero_le _, Nat.zero_le _⟩ rfl hl.1 rfl (Nat.le_of_ble_eq_true rfl) dX7_ahead_20) (fun H locs V zr5 => ?_)
      replace V : Wd D tc A s H locs (Mw tc o ad u) := V
      refine lv_if_ne (tgt := 28) hx hb dX7_ahead_23 (by decide) (fun c6 => ?_) (fun c6 => ?_)
      · replace hj := iq _ c6 hj
        refine lv_aload_n hx hb dX7_ahead_28 rfl (lv_at hl 0 rfl) ?_
        refine lv_iload_n hx hb dX7_ahead_29 rfl (lv_at hl 1 rfl) ?_
        refine lv_iload_n hx hb dX7_ahead_30 rfl (lv_at hl 2 rfl) ?_
        refine lv_aload_n hx hb dX7_ahead_31 rfl (lv_at hl 0 rfl) ?_
        refine lv_iload_n hx hb dX7_ahead_32 rfl (lv_at hl 1 rfl) ?_
        obtain ⟨r7, hr7, hj⟩ := bd_some hj
        refine x_allI V _ (rg_map _) (x_runV (n := 1) (rest := [.int v2, .int v1, .ref o]) C V _ (rg_map _) (rg_nd _) (k_X7_all l D tc o ad u v1 hr7) tw_680 tw_682 tp_13 tw_6 tw_683 (by decide +kernel) ⟨Nat.le_trans (Nat.le_of_ble_eq_true rfl) hRf, Nat.le_trans (Nat.le_of_ble_eq_true rfl) hRl⟩ ⟨Nat.zero_le _, Nat.zero_le _⟩ 0 6 rfl rfl rfl hl.1 rfl (Nat.le_of_ble_eq_true rfl) dX7_ahead_33) (fun H locs V zr7 => ?_)
        replace V : Wd D tc A s H locs (Mw tc o ad u) := V
        refine lv_iload_n hx hb dX7_ahead_36 rfl (lv_at hl 3 rfl) ?_
        refine lv_iload hx hb dX7_ahead_37 (lv_at hl 4 rfl) ?_
        obtain ⟨r8, hr8, hj⟩ := bd_some hj
        refine x_allI V _ (rg_map _) (x_runV (n := 5) (rest := []) C V _ (rg_map _) (rg_nd _) (k_X7_isAhead l D tc o ad u v1 v2 r7 v3 v4 hr8) tw_684 tw_686 tp_14 tw_6 tw_687 (by decide +kernel) ⟨Nat.le_trans (Nat.le_of_ble_eq_true rfl) hRf, Nat.le_trans (Nat.le_of_ble_eq_true rfl) hRl⟩ ⟨Nat.zero_le _, Nat.zero_le _⟩ 0 6 rfl rfl rfl hl.1 rfl (Nat.le_of_ble_eq_true rfl) dX7_ahead_39) (fun H locs V zr8 => ?_)
        replace V : Wd D tc A s H locs (Mw tc o ad u) := V
        refine lv_if_eq (tgt := 49) hx hb dX7_ahead_42 (by decide) (fun c9 => ?_) (fun c9 => ?_)
        · replace hj := ip _ c9 hj
          refine lv_iconst (v := 0) hx hb dX7_ahead_49 (by decide) ?_
          exact hret (0 : Int32) hj rfl V dX7_ahead_50
        · replace hj := iq _ c9 hj
          refine lv_iconst (v := 1) hx hb dX7_ahead_45 (by decide) ?_
          refine lv_goto (tgt := 50) hx hb dX7_ahead_46 (by decide) ?_
          exact hret (1 : Int32) hj rfl V dX7_ahead_50
      · replace hj := ip _ c6 hj
        refine lv_iconst (v := (-1)) hx hb dX7_ahead_26 (by decide) ?_
        exact hret (-1 : Int32) hj rfl V dX7_ahead_27)

def q_X7_part_4 (u : St) (k_4 : Int32 → Int32 → Int32 → Option (Int32)) (v1 : Int32) (v2 : Int32) (v3 : Int32) : Option (Int32) :=
  if (10 : Int32) ≤ v3 then some (-1 : Int32) else if (((u.1 27) >>> (v3 &&& 31)) &&& (1 : Int32)) = (0 : Int32) then nm (v3 + 1) (fun x6 => k_4 v1 v2 x6) else if v2 = v1 then some v3 else nm (v2 + 1) (fun x4 => nm (v3 + 1) (fun x5 => k_4 v1 x4 x5))
set_option maxHeartbeats 4000000 in
set_option maxRecDepth 100000 in
theorem b_X7_part_4 {p : Program} {l : Launch} {e : Env} {R : Room} {s : State} {m : MethodId} {args : Array Value} {below : List Frame} {meth : Method} {c : Code} {A : Nat → Prop} {Q : State → Prop} {D : va_G} {tc : Nat → ClassId} (o : Nat) (ad : Nat → Nat) (u : St) (hRf : 0 ≤ R.frames) (hRl : 0 ≤ R.locals) (C : Cx p s m args meth c cX7_part 4 RX7 (some .int)) {x0 : Int32} (hret : RetI p l e R s m args below meth c Q cX7_part D tc A .int (some x0) (fun x : Int32 => x) (fun _ : Int32 => Mw tc o ad u)) (k_4 : Int32 → Int32 → Int32 → Option (Int32)) (hk_4 : ∀ (v1 : Int32) (v2 : Int32) (v3 : Int32), k_4 v1 v2 v3 = some x0 → ∀ (H : Heap) (locs : List Loc) (ls : Array Slot), Wd D tc A s H locs (Mw tc o ad u) → lv_has ls 4 [(0, .ref o), (1, .int v1), (2, .int v2), (3, .int v3)] → W p l e R s m args below meth c H locs 0 0 Q (F0 m 4 ls [])) : ∀ (v1 : Int32) (v2 : Int32) (v3 : Int32), q_X7_part_4 u k_4 v1 v2 v3 = some x0 → ∀ (H : Heap) (locs : List Loc) (ls : Array Slot), Wd D tc A s H locs (Mw tc o ad u) → lv_has ls 4 [(0, .ref o), (1, .int v1), (2, .int v2), (3, .int v3)] → W p l e R s m args below meth c H locs 0 0 Q (F0 m 4 ls []) := by
  obtain ⟨hx, hb, hr, hml, hown, hts, hlk, hN⟩ := id C
  intro v1 v2 v3 hj H locs ls V hl
  unfold q_X7_part_4 at hj
  refine lv_iload_n hx hb dX7_part_4 rfl (lv_at hl 3 rfl) ?_
  refine lv_bipush (v := 10) hx hb dX7_part_5 (by decide) ?_
  refine lv_icmp_ge (tgt := 40) hx hb dX7_part_7 (by decide) (fun c1 => ?_) (fun c1 => ?_)
  · replace hj := ip _ c1 hj
    refine lv_iconst (v := (-1)) hx hb dX7_part_40 (by decide) ?_
    exact hret (-1 : Int32) hj rfl V dX7_part_41
  · replace hj := iq _ c1 hj
    refine lv_aload_n hx hb dX7_part_10 rfl (lv_at hl 0 rfl) ?_
    refine x_get hx hb hts hown V inX7 0 rfl rfl 27 (by decide) tw_547 rfl rfl dX7_part_11 ?_
    refine lv_iload_n hx hb dX7_part_14 rfl (lv_at hl 3 rfl) ?_
    refine lv_ishr hx hb dX7_part_15 ?_
    refine lv_iconst (v := 1) hx hb dX7_part_16 (by decide) ?_
    refine lv_iand hx hb dX7_part_17 ?_
    refine lv_if_ne (tgt := 24) hx hb dX7_part_18 (by decide) (fun c2 => ?_) (fun c2 => ?_)
    · replace hj := iq _ c2 hj
      refine lv_iload_n hx hb dX7_part_24 rfl (lv_at hl 2 rfl) ?_
      refine lv_iload_n hx hb dX7_part_25 rfl (lv_at hl 1 rfl) ?_
      refine lv_icmp_ne (tgt := 31) hx hb dX7_part_26 (by decide) (fun c3 => ?_) (fun c3 => ?_)
      · replace hj := iq _ c3 hj
        obtain ⟨x4, ex4, hj⟩ := nm_some hj
        refine lv_iinc (v := x4) (lv' := [(2, .int x4), (0, .ref o), (1, .int v1), (3, .int v3)]) hx hb dX7_part_31 hl (k := 2) rfl (by rw [ex4]; rfl) (by decide) rfl (fun ls hl => ?_)
        obtain ⟨x5, ex5, hj⟩ := nm_some hj
        refine lv_iinc (v := x5) (lv' := [(3, .int x5), (2, .int x4), (0, .ref o), (1, .int v1)]) hx hb dX7_part_34 hl (k := 3) rfl (by rw [ex5]; rfl) (by decide) rfl (fun ls hl => ?_)
        refine lv_goto (tgt := 4) hx hb dX7_part_37 (by decide) ?_
        exact hk_4 v1 x4 x5 hj _ _ _ V (lv_sub hl [2, 3, 1, 0] rfl)
      · replace hj := ip _ c3 hj
        refine lv_iload_n hx hb dX7_part_29 rfl (lv_at hl 3 rfl) ?_
        exact hret v3 hj rfl V dX7_part_30
    · replace hj := ip _ c2 hj
      refine lv_goto (tgt := 34) hx hb dX7_part_21 (by decide) ?_
      obtain ⟨x6, ex6, hj⟩ := nm_some hj
      refine lv_iinc (v := x6) (lv' := [(3, .int x6), (0, .ref o), (1, .int v1), (2, .int v2)]) hx hb dX7_part_34 hl (k := 3) rfl (by rw [ex6]; rfl) (by decide) rfl (fun ls hl => ?_)
      refine lv_goto (tgt := 4) hx hb dX7_part_37 (by decide) ?_
      exact hk_4 v1 v2 x6 hj _ _ _ V (lv_sub hl [1, 2, 3, 0] rfl)
def j_X7_part_4 (u : St) : Nat → Int32 → Int32 → Int32 → Option (Int32)
  | 0 => fun _ _ _ => none
  | n + 1 => q_X7_part_4 u (j_X7_part_4 u n)
theorem lp_X7_part_4 {p : Program} {l : Launch} {e : Env} {R : Room} {s : State} {m : MethodId} {args : Array Value} {below : List Frame} {meth : Method} {c : Code} {A : Nat → Prop} {Q : State → Prop} {D : va_G} {tc : Nat → ClassId} (o : Nat) (ad : Nat → Nat) (u : St) (hRf : 0 ≤ R.frames) (hRl : 0 ≤ R.locals) (C : Cx p s m args meth c cX7_part 4 RX7 (some .int)) {x0 : Int32} (hret : RetI p l e R s m args below meth c Q cX7_part D tc A .int (some x0) (fun x : Int32 => x) (fun _ : Int32 => Mw tc o ad u))  : ∀ (n : Nat), ∀ (v1 : Int32) (v2 : Int32) (v3 : Int32), j_X7_part_4 u n v1 v2 v3 = some x0 → ∀ (H : Heap) (locs : List Loc) (ls : Array Slot), Wd D tc A s H locs (Mw tc o ad u) → lv_has ls 4 [(0, .ref o), (1, .int v1), (2, .int v2), (3, .int v3)] → W p l e R s m args below meth c H locs 0 0 Q (F0 m 4 ls []) := by
  intro n
  induction n with
  | zero =>
    intro v1 v2 v3 hj
    have hj : (none : Option (Int32)) = some x0 := hj
    cases hj
  | succ n ih =>
    intro v1 v2 v3 hj
    exact b_X7_part_4 o ad u hRf hRl C hret   (j_X7_part_4 u n) ih v1 v2 v3 hj
def j_X7_part (u : St) (v1 : Int32) : Option (Int32) :=
  j_X7_part_4 u 100 v1 (0 : Int32) (0 : Int32)
set_option maxHeartbeats 4000000 in
set_option maxRecDepth 100000 in
theorem k_X7_part (l : Launch) (D : va_G) (tc : Nat → ClassId) (o : Nat) (ad : Nat → Nat) (u : St) (v1 : Int32) {x0 : Int32} (hj : j_X7_part u v1 = some x0) : MetD l D tc yX7_part cX7_part 4 (some .int) 0 0 [.ref o, .int v1] (Mw tc o ad u) (some (.int x0)) (Mw tc o ad u) :=
  x_entI (fun x : Int32 => x) (fun _ : Int32 => Mw tc o ad u) (by decide) (own := RX7) rfl (Nat.le_of_ble_eq_true rfl) (fun p e s m args below meth c A Q ls C V hl hret => by
  obtain ⟨hx, hb, hr, hml, hown, hts, hlk, hN⟩ := id C
  have hRf : 0 ≤ (rmz 0 0 0 0).frames := Nat.le_refl _
  have hRl : 0 ≤ (rmz 0 0 0 0).locals := Nat.le_refl _
  generalize (rmz 0 0 0 0) = R at hret hRf hRl ⊢
  generalize s.heap = H at V ⊢
  generalize ([] : List Loc) = locs at V ⊢
  have hl : lv_has ls 4 [(0, .ref o), (1, .int v1)] := hl
  unfold j_X7_part at hj
  refine lv_iconst (v := 0) hx hb dX7_part_0 (by decide) ?_
  refine lv_istore_n (lv' := [(2, .int (0 : Int32)), (0, .ref o), (1, .int v1)]) hx hb dX7_part_1 rfl hl (by decide) rfl (fun ls hl => ?_)
  refine lv_iconst (v := 0) hx hb dX7_part_2 (by decide) ?_
  refine lv_istore_n (lv' := [(3, .int (0 : Int32)), (2, .int (0 : Int32)), (0, .ref o), (1, .int v1)]) hx hb dX7_part_3 rfl hl (by decide) rfl (fun ls hl => ?_)
  exact lp_X7_part_4 o ad u hRf hRl C hret   100 v1 (0 : Int32) (0 : Int32) hj _ _ _ V (lv_sub hl [2, 3, 1, 0] rfl))

def j_X7_say (u : St) (v1 : Int32) : Option (Int32 × St) :=
  (j_X7_in v1 (0 : Int32) (9 : Int32)).bind (fun r1 => if r1 = (0 : Int32) then some ((-2 : Int32), u) else if (u.1 29) = (10 : Int32) then some ((-4 : Int32), u) else gd (u.1 29) 10 (nm (sA u 28 (u.1 29).toNatClampNeg v1) (fun u5 => nm (sI u5 29 ((u5.1 29) + (1 : Int32))) (fun u6 => some (u6.1 29, u6)))))
set_option maxHeartbeats 4000000 in
set_option maxRecDepth 100000 in
theorem k_X7_say (l : Launch) (D : va_G) (tc : Nat → ClassId) (o : Nat) (ad : Nat → Nat) (u : St) (v1 : Int32) {x0 : Int32 × St} (hj : j_X7_say u v1 = some x0) : MetD l D tc yX7_say cX7_say 2 (some .int) 1 22 [.ref o, .int v1] (Mw tc o ad u) (some (.int x0.1)) (Mw tc o ad x0.2) :=
  x_entI (fun x : Int32 × St => x.1) (fun x : Int32 × St => Mw tc o ad x.2) (by decide) (own := RX7) rfl (Nat.le_of_ble_eq_true rfl) (fun p e s m args below meth c A Q ls C V hl hret => by
  obtain ⟨hx, hb, hr, hml, hown, hts, hlk, hN⟩ := id C
  have hRf : 1 ≤ (rmz 1 0 0 22).frames := Nat.le_refl _
  have hRl : 22 ≤ (rmz 1 0 0 22).locals := Nat.le_refl _
  generalize (rmz 1 0 0 22) = R at hret hRf hRl ⊢
  generalize s.heap = H at V ⊢
  generalize ([] : List Loc) = locs at V ⊢
  have hl : lv_has ls 2 [(0, .ref o), (1, .int v1)] := hl
  unfold j_X7_say at hj
  refine lv_iload_n hx hb dX7_say_0 rfl (lv_at hl 1 rfl) ?_
  refine lv_iconst (v := 0) hx hb dX7_say_1 (by decide) ?_
  refine lv_bipush (v := 9) hx hb dX7_say_2 (by decide) ?_
  obtain ⟨r1, hr1, hj⟩ := bd_some hj
  refine x_allI V _ (rg_map _) (x_runS (n := 3) (rest := []) C V _ (rg_map _) (rg_nd _) (k_X7_in l D tc (Mw tc o ad u) v1 (0 : Int32) (9 : Int32) hr1) tw_619 tw_620 tw_6 tw_621 (by decide +kernel) ⟨Nat.le_trans (Nat.le_of_ble_eq_true rfl) hRf, Nat.le_trans (Nat.le_of_ble_eq_true rfl) hRl⟩ ⟨Nat.zero_le _, Nat.zero_le _⟩ rfl hl.1 rfl (Nat.le_of_ble_eq_true rfl) dX7_say_4) (fun H locs V zr1 => ?_)
  replace V : Wd D tc A s H locs (Mw tc o ad u) := V
  refine lv_if_ne (tgt := 13) hx hb dX7_say_7 (by decide) (fun c2 => ?_) (fun c2 => ?_)
  · replace hj := iq _ c2 hj
    refine lv_aload_n hx hb dX7_say_13 rfl (lv_at hl 0 rfl) ?_
    refine x_get hx hb hts hown V inX7 0 rfl rfl 29 (by decide) tw_549 rfl rfl dX7_say_14 ?_
    refine lv_bipush (v := 10) hx hb dX7_say_17 (by decide) ?_
    refine lv_icmp_ne (tgt := 25) hx hb dX7_say_19 (by decide) (fun c3 => ?_) (fun c3 => ?_)
    · replace hj := iq _ c3 hj
      refine lv_aload_n hx hb dX7_say_25 rfl (lv_at hl 0 rfl) ?_
      refine x_get hx hb hts hown V inX7 0 rfl rfl 28 (by decide) tw_548 rfl rfl dX7_say_26 ?_
      refine lv_aload_n hx hb dX7_say_29 rfl (lv_at hl 0 rfl) ?_
      refine x_get hx hb hts hown V inX7 0 rfl rfl 29 (by decide) tw_549 rfl rfl dX7_say_30 ?_
      refine lv_iload_n hx hb dX7_say_33 rfl (lv_at hl 1 rfl) ?_
      obtain ⟨i4, hj⟩ := gd_some hj
      obtain ⟨u5, eu5, hj⟩ := nm_some hj
      refine x_iast hx hb V 19 rfl i4 dX7_say_34 (fun H locs V => ?_)
      replace V : Wd D tc A s H locs (Mw tc o ad u5) := by rw [eu5]; exact V
      refine lv_aload_n hx hb dX7_say_35 rfl (lv_at hl 0 rfl) ?_
      refine lv_dup hx hb dX7_say_36 rfl ?_
      refine x_get hx hb hts hown V inX7 0 rfl rfl 29 (by decide) tw_549 rfl rfl dX7_say_37 ?_
      refine lv_iconst (v := 1) hx hb dX7_say_40 (by decide) ?_
      refine lv_iadd hx hb dX7_say_41 ?_
      refine x_put hx hb hts hown V inX7 tyX7_ok nmX7 0 rfl rfl 29 (by decide) tw_549 rfl rfl rfl rfl (Nat.le_of_ble_eq_true rfl) dX7_say_42 (fun H locs V => ?_)
      obtain ⟨u6, eu6, hj⟩ := nm_some hj
      replace V : Wd D tc A s H locs (Mw tc o ad u6) := by rw [eu6]; exact V
      refine lv_aload_n hx hb dX7_say_45 rfl (lv_at hl 0 rfl) ?_
      refine x_get hx hb hts hown V inX7 0 rfl rfl 29 (by decide) tw_549 rfl rfl dX7_say_46 ?_
      exact hret (u6.1 29, u6) hj rfl V dX7_say_49
    · replace hj := ip _ c3 hj
      refine lv_bipush (v := (-4)) hx hb dX7_say_22 (by decide) ?_
      exact hret ((-4 : Int32), u) hj rfl V dX7_say_24
  · replace hj := ip _ c2 hj
    refine lv_bipush (v := (-2)) hx hb dX7_say_10 (by decide) ?_
    exact hret ((-2 : Int32), u) hj rfl V dX7_say_12)
