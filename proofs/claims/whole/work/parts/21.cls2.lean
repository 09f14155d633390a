def j_X5_answerIn (q : (Nat → Int32) × (Nat → Int32)) (u : St) (v1 : Int64) (v3 : Int32) : Option (Int32) :=
  (j_X5_has v1 v3).bind (fun r1 => if r1 = (0 : Int32) then some (0 : Int32) else (j_X5_placeOf v1 v3).bind (fun r3 => gd r3 32 (some (q.1 r3.toNatClampNeg))))
set_option maxHeartbeats 4000000 in
set_option maxRecDepth 100000 in
theorem k_X5_answerIn (l : Launch) (D : va_G) (tc : Nat → ClassId) (ad ta : Nat → Nat) (us : Int32) (q : (Nat → Int32) × (Nat → Int32)) (sh : Nat) (u : St) (v1 : Int64) (v3 : Int32) {x0 : Int32} (hj : j_X5_answerIn q u v1 v3 = some x0) : MetD l D tc yX5_answerIn cX5_answerIn 4 (some .int) 1 22 [.ref (ta 0), .long v1, .int v3] (Fw tc ad ta us (some q) sh u) (some (.int x0)) (Fw tc ad ta us (some q) sh u) :=
  x_entI (fun x : Int32 => x) (fun _ : Int32 => Fw tc ad ta us (some q) sh u) (by decide) (own := RX5) rfl (Nat.le_of_ble_eq_true rfl) (fun p e s m args below meth c A Q ls C V hl hret => by
  obtain ⟨hx, hb, hr, hml, hown, hts, hlk, hN⟩ := id C
  have hRf : 1 ≤ (rmz 1 0 0 22).frames := Nat.le_refl _
  have hRl : 22 ≤ (rmz 1 0 0 22).locals := Nat.le_refl _
  generalize (rmz 1 0 0 22) = R at hret hRf hRl ⊢
  generalize s.heap = H at V ⊢
  generalize ([] : List Loc) = locs at V ⊢
  have hl : lv_has ls 4 [(0, .ref (ta 0)), (1, .long v1), (3, .int v3)] := hl
  unfold j_X5_answerIn at hj
  refine lv_lload_n hx hb dX5_answerIn_0 rfl (lv_at hl 1 rfl) ?_
  refine lv_iload_n hx hb dX5_answerIn_1 rfl (lv_at hl 2 rfl) ?_
  obtain ⟨r1, hr1, hj⟩ := bd_some hj
  refine x_allI V _ (rg_map _) (x_runS (n := 2) (rest := []) C V _ (rg_map _) (rg_nd _) (k_X5_has l D tc (Fw tc ad ta us (some q) sh u) v1 v3 hr1) tw_207 tw_200 tw_7 tw_201 (by decide +kernel) ⟨Nat.le_trans (Nat.le_of_ble_eq_true rfl) hRf, Nat.le_trans (Nat.le_of_ble_eq_true rfl) hRl⟩ ⟨Nat.zero_le _, Nat.zero_le _⟩ rfl hl.1 rfl (Nat.le_of_ble_eq_true rfl) dX5_answerIn_2) (fun H locs V zr1 => ?_)
  replace V : Wd D tc A s H locs (Fw tc ad ta us (some q) sh u) := V
  refine lv_if_eq (tgt := 21) hx hb dX5_answerIn_5 (by decide) (fun c2 => ?_) (fun c2 => ?_)
  · replace hj := ip _ c2 hj
    refine lv_iconst (v := 0) hx hb dX5_answerIn_21 (by decide) ?_
    exact hret (0 : Int32) hj rfl V dX5_answerIn_22
  · replace hj := iq _ c2 hj
    refine lv_aload_n hx hb dX5_answerIn_8 rfl (lv_at hl 0 rfl) ?_
    refine x_get hx hb hts hown V inX5 17 rfl rfl 0 (by decide) tw_181 rfl rfl dX5_answerIn_9 ?_
    refine lv_lload_n hx hb dX5_answerIn_12 rfl (lv_at hl 1 rfl) ?_
    refine lv_iload_n hx hb dX5_answerIn_13 rfl (lv_at hl 2 rfl) ?_
    obtain ⟨r3, hr3, hj⟩ := bd_some hj
    refine x_allI V _ (rg_map _) (x_runS (n := 2) (rest := [.ref (ta 1)]) C V _ (rg_map _) (rg_nd _) (k_X5_placeOf l D tc (Fw tc ad ta us (some q) sh u) v1 v3 hr3) tw_208 tw_209 tw_7 tw_210 (by decide +kernel) ⟨Nat.le_trans (Nat.le_of_ble_eq_true rfl) hRf, Nat.le_trans (Nat.le_of_ble_eq_true rfl) hRl⟩ ⟨Nat.zero_le _, Nat.zero_le _⟩ rfl hl.1 rfl (Nat.le_of_ble_eq_true rfl) dX5_answerIn_14) (fun H locs V zr3 => ?_)
    replace V : Wd D tc A s H locs (Fw tc ad ta us (some q) sh u) := V
    obtain ⟨i4, hj⟩ := gd_some hj
    refine x_iald hx hb V 18 rfl i4 dX5_answerIn_17 ?_
    refine lv_goto (tgt := 22) hx hb dX5_answerIn_18 (by decide) ?_
    exact hret (q.1 r3.toNatClampNeg) hj rfl V dX5_answerIn_22)

def j_X5_nextIn (q : (Nat → Int32) × (Nat → Int32)) (u : St) (v1 : Int64) (v3 : Int32) : Option (Int32) :=
  (j_X5_has v1 v3).bind (fun r1 => if r1 = (0 : Int32) then some (0 : Int32) else (j_X5_placeOf v1 v3).bind (fun r3 => gd r3 32 (some (q.2 r3.toNatClampNeg))))
set_option maxHeartbeats 4000000 in
set_option maxRecDepth 100000 in
theorem k_X5_nextIn (l : Launch) (D : va_G) (tc : Nat → ClassId) (ad ta : Nat → Nat) (us : Int32) (q : (Nat → Int32) × (Nat → Int32)) (sh : Nat) (u : St) (v1 : Int64) (v3 : Int32) {x0 : Int32} (hj : j_X5_nextIn q u v1 v3 = some x0) : MetD l D tc yX5_nextIn cX5_nextIn 4 (some .int) 1 22 [.ref (ta 0), .long v1, .int v3] (Fw tc ad ta us (some q) sh u) (some (.int x0)) (Fw tc ad ta us (some q) sh u) :=
  x_entI (fun x : Int32 => x) (fun _ : Int32 => Fw tc ad ta us (some q) sh u) (by decide) (own := RX5) rfl (Nat.le_of_ble_eq_true rfl) (fun p e s m args below meth c A Q ls C V hl hret => by
  obtain ⟨hx, hb, hr, hml, hown, hts, hlk, hN⟩ := id C
  have hRf : 1 ≤ (rmz 1 0 0 22).frames := Nat.le_refl _
  have hRl : 22 ≤ (rmz 1 0 0 22).locals := Nat.le_refl _
  generalize (rmz 1 0 0 22) = R at hret hRf hRl ⊢
  generalize s.heap = H at V ⊢
  generalize ([] : List Loc) = locs at V ⊢
  have hl : lv_has ls 4 [(0, .ref (ta 0)), (1, .long v1), (3, .int v3)] := hl
  unfold j_X5_nextIn at hj
  refine lv_lload_n hx hb dX5_nextIn_0 rfl (lv_at hl 1 rfl) ?_
  refine lv_iload_n hx hb dX5_nextIn_1 rfl (lv_at hl 2 rfl) ?_
  obtain ⟨r1, hr1, hj⟩ := bd_some hj
  refine x_allI V _ (rg_map _) (x_runS (n := 2) (rest := []) C V _ (rg_map _) (rg_nd _) (k_X5_has l D tc (Fw tc ad ta us (some q) sh u) v1 v3 hr1) tw_207 tw_200 tw_7 tw_201 (by decide +kernel) ⟨Nat.le_trans (Nat.le_of_ble_eq_true rfl) hRf, Nat.le_trans (Nat.le_of_ble_eq_true rfl) hRl⟩ ⟨Nat.zero_le _, Nat.zero_le _⟩ rfl hl.1 rfl (Nat.le_of_ble_eq_true rfl) dX5_nextIn_2) (fun H locs V zr1 => ?_)
  replace V : Wd D tc A s H locs (Fw tc ad ta us (some q) sh u) := V
  refine lv_if_eq (tgt := 21) hx hb dX5_nextIn_5 (by decide) (fun c2 => ?_) (fun c2 => ?_)
  · replace hj := ip _ c2 hj
    refine lv_iconst (v := 0) hx hb dX5_nextIn_21 (by decide) ?_
    exact hret (0 : Int32) hj rfl V dX5_nextIn_22
  · replace hj := iq _ c2 hj
    refine lv_aload_n hx hb dX5_nextIn_8 rfl (lv_at hl 0 rfl) ?_
    refine x_get hx hb hts hown V inX5 17 rfl rfl 1 (by decide) tw_182 rfl rfl dX5_nextIn_9 ?_
    refine lv_lload_n hx hb dX5_nextIn_12 rfl (lv_at hl 1 rfl) ?_
    refine lv_iload_n hx hb dX5_nextIn_13 rfl (lv_at hl 2 rfl) ?_
    obtain ⟨r3, hr3, hj⟩ := bd_some hj
    refine x_allI V _ (rg_map _) (x_runS (n := 2) (rest := [.ref (ta 2)]) C V _ (rg_map _) (rg_nd _) (k_X5_placeOf l D tc (Fw tc ad ta us (some q) sh u) v1 v3 hr3) tw_208 tw_209 tw_7 tw_210 (by decide +kernel) ⟨Nat.le_trans (Nat.le_of_ble_eq_true rfl) hRf, Nat.le_trans (Nat.le_of_ble_eq_true rfl) hRl⟩ ⟨Nat.zero_le _, Nat.zero_le _⟩ rfl hl.1 rfl (Nat.le_of_ble_eq_true rfl) dX5_nextIn_14) (fun H locs V zr3 => ?_)
    replace V : Wd D tc A s H locs (Fw tc ad ta us (some q) sh u) := V
    obtain ⟨i4, hj⟩ := gd_some hj
    refine x_iald hx hb V 19 rfl i4 dX5_nextIn_17 ?_
    refine lv_goto (tgt := 22) hx hb dX5_nextIn_18 (by decide) ?_
    exact hret (q.2 r3.toNatClampNeg) hj rfl V dX5_nextIn_22)

def j_X1_hasCall (u : St) (v1 : Int32) : Option (Int32) :=
  if v1 < (0 : Int32) then some (0 : Int32) else if (u.1 2) ≤ v1 then some (0 : Int32) else some (1 : Int32)
set_option maxHeartbeats 4000000 in
set_option maxRecDepth 100000 in
theorem k_X1_hasCall (l : Launch) (D : va_G) (tc : Nat → ClassId) (ad ta : Nat → Nat) (us : Int32) (T : TbT) (sh : Nat) (u : St) (v1 : Int32) {x0 : Int32} (hj : j_X1_hasCall u v1 = some x0) : MetD l D tc yX1_hasCall cX1_hasCall 2 (some .boolean) 0 0 [.ref (ad 6), .int v1] (Fw tc ad ta us T sh u) (some (.int x0)) (Fw tc ad ta us T sh u) :=
  x_entI (fun x : Int32 => x) (fun _ : Int32 => Fw tc ad ta us T sh u) (by decide) (own := RX1) rfl (Nat.le_of_ble_eq_true rfl) (fun p e s m args below meth c A Q ls C V hl hret => by
  obtain ⟨hx, hb, hr, hml, hown, hts, hlk, hN⟩ := id C
  have hRf : 0 ≤ (rmz 0 0 0 0).frames := Nat.le_refl _
  have hRl : 0 ≤ (rmz 0 0 0 0).locals := Nat.le_refl _
  generalize (rmz 0 0 0 0) = R at hret hRf hRl ⊢
  generalize s.heap = H at V ⊢
  generalize ([] : List Loc) = locs at V ⊢
  have hl : lv_has ls 2 [(0, .ref (ad 6)), (1, .int v1)] := hl
  unfold j_X1_hasCall at hj
  refine lv_iload_n hx hb dX1_hasCall_0 rfl (lv_at hl 1 rfl) ?_
  refine lv_if_lt (tgt := 16) hx hb dX1_hasCall_1 (by decide) (fun c1 => ?_) (fun c1 => ?_)
  · replace hj := ip _ c1 hj
    refine lv_iconst (v := 0) hx hb dX1_hasCall_16 (by decide) ?_
    exact hret (0 : Int32) hj zn_0 V dX1_hasCall_17
  · replace hj := iq _ c1 hj
    refine lv_iload_n hx hb dX1_hasCall_4 rfl (lv_at hl 1 rfl) ?_
    refine lv_aload_n hx hb dX1_hasCall_5 rfl (lv_at hl 0 rfl) ?_
    refine x_get hx hb hts hown V inX1 6 rfl rfl 2 (by decide) tw_41 rfl rfl dX1_hasCall_6 ?_
    refine lv_icmp_ge (tgt := 16) hx hb dX1_hasCall_9 (by decide) (fun c2 => ?_) (fun c2 => ?_)
    · replace hj := ip _ c2 hj
      refine lv_iconst (v := 0) hx hb dX1_hasCall_16 (by decide) ?_
      exact hret (0 : Int32) hj zn_0 V dX1_hasCall_17
    · replace hj := iq _ c2 hj
      refine lv_iconst (v := 1) hx hb dX1_hasCall_12 (by decide) ?_
      refine lv_goto (tgt := 17) hx hb dX1_hasCall_13 (by decide) ?_
      exact hret (1 : Int32) hj zn_1 V dX1_hasCall_17)

def j_X1_isOpen (u : St) (v1 : Int32) : Option (Int32) :=
  (j_X1_hasCall u v1).bind (fun r1 => if r1 = (0 : Int32) then some (0 : Int32) else gd v1 10 (if (u.2.1 9 v1.toNatClampNeg) = (0 : Int32) then some (1 : Int32) else some (0 : Int32)))
set_option maxHeartbeats 4000000 in
set_option maxRecDepth 100000 in
theorem k_X1_isOpen (l : Launch) (D : va_G) (tc : Nat → ClassId) (ad ta : Nat → Nat) (us : Int32) (T : TbT) (sh : Nat) (u : St) (v1 : Int32) {x0 : Int32} (hj : j_X1_isOpen u v1 = some x0) : MetD l D tc yX1_isOpen cX1_isOpen 2 (some .boolean) 1 21 [.ref (ad 6), .int v1] (Fw tc ad ta us T sh u) (some (.int x0)) (Fw tc ad ta us T sh u) :=
  x_entI (fun x : Int32 => x) (fun _ : Int32 => Fw tc ad ta us T sh u) (by decide) (own := RX1) rfl (Nat.le_of_ble_eq_true rfl) (fun p e s m args below meth c A Q ls C V hl hret => by
  obtain ⟨hx, hb, hr, hml, hown, hts, hlk, hN⟩ := id C
  have hRf : 1 ≤ (rmz 1 0 0 21).frames := Nat.le_refl _
  have hRl : 21 ≤ (rmz 1 0 0 21).locals := Nat.le_refl _
  generalize (rmz 1 0 0 21) = R at hret hRf hRl ⊢
  generalize s.heap = H at V ⊢
  generalize ([] : List Loc) = locs at V ⊢
  have hl : lv_has ls 2 [(0, .ref (ad 6)), (1, .int v1)] := hl
  unfold j_X1_isOpen at hj
  refine lv_aload_n hx hb dX1_isOpen_0 rfl (lv_at hl 0 rfl) ?_
  refine lv_iload_n hx hb dX1_isOpen_1 rfl (lv_at hl 1 rfl) ?_
  obtain ⟨r1, hr1, hj⟩ := bd_some hj
  refine x_allI V _ (rg_map _) (x_runV (n := 1) (rest := []) C V _ (rg_map _) (rg_nd _) (k_X1_hasCall l D tc ad ta us T sh u v1 hr1) tw_270 tw_263 tw_264 tw_3 tw_265 (by decide +kernel) ⟨Nat.le_trans (Nat.le_of_ble_eq_true rfl) hRf, Nat.le_trans (Nat.le_of_ble_eq_true rfl) hRl⟩ ⟨Nat.zero_le _, Nat.zero_le _⟩ 6 1 rfl rfl rfl hl.1 rfl (Nat.le_of_ble_eq_true rfl) dX1_isOpen_2) (fun H locs V zr1 => ?_)
  replace V : Wd D tc A s H locs (Fw tc ad ta us T sh u) := V
  refine lv_if_eq (tgt := 21) hx hb dX1_isOpen_5 (by decide) (fun c2 => ?_) (fun c2 => ?_)
  · replace hj := ip _ c2 hj
    refine lv_iconst (v := 0) hx hb dX1_isOpen_21 (by decide) ?_
    exact hret (0 : Int32) hj zn_0 V dX1_isOpen_22
  · replace hj := iq _ c2 hj
    refine lv_aload_n hx hb dX1_isOpen_8 rfl (lv_at hl 0 rfl) ?_
    refine x_get hx hb hts hown V inX1 6 rfl rfl 9 (by decide) tw_57 rfl rfl dX1_isOpen_9 ?_
    refine lv_iload_n hx hb dX1_isOpen_12 rfl (lv_at hl 1 rfl) ?_
    obtain ⟨i3, hj⟩ := gd_some hj
    refine x_iald hx hb V 12 rfl i3 dX1_isOpen_13 ?_
    refine lv_if_ne (tgt := 21) hx hb dX1_isOpen_14 (by decide) (fun c4 => ?_) (fun c4 => ?_)
    · replace hj := iq _ c4 hj
      refine lv_iconst (v := 0) hx hb dX1_isOpen_21 (by decide) ?_
      exact hret (0 : Int32) hj zn_0 V dX1_isOpen_22
    · replace hj := ip _ c4 hj
      refine lv_iconst (v := 1) hx hb dX1_isOpen_17 (by decide) ?_
      refine lv_goto (tgt := 22) hx hb dX1_isOpen_18 (by decide) ?_
      exact hret (1 : Int32) hj zn_1 V dX1_isOpen_22)

def q_X1_isWaiting_2 (u : St) (k_2 : Int32 → Int32 → Option (Int32)) (v1 : Int32) (v2 : Int32) : Option (Int32) :=
  if (u.1 2) ≤ v2 then some (0 : Int32) else gd v2 10 (if (u.2.1 4 v2.toNatClampNeg) = v1 then gd v2 10 (if (u.2.1 9 v2.toNatClampNeg) = (0 : Int32) then some (1 : Int32) else nm (v2 + 1) (fun x7 => k_2 v1 x7)) else nm (v2 + 1) (fun x4 => k_2 v1 x4))
set_option maxHeartbeats 4000000 in
set_option maxRecDepth 100000 in
theorem b_X1_isWaiting_2 {p : Program} {l : Launch} {e : Env} {R : Room} {s : State} {m : MethodId} {args : Array Value} {below : List Frame} {meth : Method} {c : Code} {A : Nat → Prop} {Q : State → Prop} {D : va_G} {tc : Nat → ClassId} (ad ta : Nat → Nat) (us : Int32) (T : TbT) (sh : Nat) (u : St) (hRf : 0 ≤ R.frames) (hRl : 0 ≤ R.locals) (C : Cx p s m args meth c cX1_isWaiting 3 RX1 (some .boolean)) {x0 : Int32} (hret : RetI p l e R s m args below meth c Q cX1_isWaiting D tc A .boolean (some x0) (fun x : Int32 => x) (fun _ : Int32 => Fw tc ad ta us T sh u)) (k_2 : Int32 → Int32 → Option (Int32)) (hk_2 : ∀ (v1 : Int32) (v2 : Int32), k_2 v1 v2 = some x0 → ∀ (H : Heap) (locs : List Loc) (ls : Array Slot), Wd D tc A s H locs (Fw tc ad ta us T sh u) → lv_has ls 3 [(0, .ref (ad 6)), (1, .int v1), (2, .int v2)] → W p l e R s m args below meth c H locs 0 0 Q (F0 m 2 ls [])) : ∀ (v1 : Int32) (v2 : Int32), q_X1_isWaiting_2 u k_2 v1 v2 = some x0 → ∀ (H : Heap) (locs : List Loc) (ls : Array Slot), Wd D tc A s H locs (Fw tc ad ta us T sh u) → lv_has ls 3 [(0, .ref (ad 6)), (1, .int v1), (2, .int v2)] → W p l e R s m args below meth c H locs 0 0 Q (F0 m 2 ls []) := by
  obtain ⟨hx, hb, hr, hml, hown, hts, hlk, hN⟩ := id C
  intro v1 v2 hj H locs ls V hl
  unfold q_X1_isWaiting_2 at hj
  refine lv_iload_n hx hb dX1_isWaiting_2 rfl (lv_at hl 2 rfl) ?_
  refine lv_aload_n hx hb dX1_isWaiting_3 rfl (lv_at hl 0 rfl) ?_
  refine x_get hx hb hts hown V inX1 6 rfl rfl 2 (by decide) tw_41 rfl rfl dX1_isWaiting_4 ?_
  refine lv_icmp_ge (tgt := 37) hx hb dX1_isWaiting_7 (by decide) (fun c1 => ?_) (fun c1 => ?_)
  · replace hj := ip _ c1 hj
    refine lv_iconst (v := 0) hx hb dX1_isWaiting_37 (by decide) ?_
    exact hret (0 : Int32) hj zn_0 V dX1_isWaiting_38
  · replace hj := iq _ c1 hj
    refine lv_aload_n hx hb dX1_isWaiting_10 rfl (lv_at hl 0 rfl) ?_
    refine x_get hx hb hts hown V inX1 6 rfl rfl 4 (by decide) tw_46 rfl rfl dX1_isWaiting_11 ?_
    refine lv_iload_n hx hb dX1_isWaiting_14 rfl (lv_at hl 2 rfl) ?_
    obtain ⟨i2, hj⟩ := gd_some hj
    refine x_iald hx hb V 7 rfl i2 dX1_isWaiting_15 ?_
    refine lv_iload_n hx hb dX1_isWaiting_16 rfl (lv_at hl 1 rfl) ?_
    refine lv_icmp_ne (tgt := 31) hx hb dX1_isWaiting_17 (by decide) (fun c3 => ?_) (fun c3 => ?_)
    · replace hj := iq _ c3 hj
      obtain ⟨x4, ex4, hj⟩ := nm_some hj
      refine lv_iinc (v := x4) (lv' := [(2, .int x4), (0, .ref (ad 6)), (1, .int v1)]) hx hb dX1_isWaiting_31 hl (k := 2) rfl (by rw [ex4]; rfl) (by decide) rfl (fun ls hl => ?_)
      refine lv_goto (tgt := 2) hx hb dX1_isWaiting_34 (by decide) ?_
      exact hk_2 v1 x4 hj _ _ _ V (lv_sub hl [1, 2, 0] rfl)
    · replace hj := ip _ c3 hj
      refine lv_aload_n hx hb dX1_isWaiting_20 rfl (lv_at hl 0 rfl) ?_
      refine x_get hx hb hts hown V inX1 6 rfl rfl 9 (by decide) tw_57 rfl rfl dX1_isWaiting_21 ?_
      refine lv_iload_n hx hb dX1_isWaiting_24 rfl (lv_at hl 2 rfl) ?_
      obtain ⟨i5, hj⟩ := gd_some hj
      refine x_iald hx hb V 12 rfl i5 dX1_isWaiting_25 ?_
      refine lv_if_ne (tgt := 31) hx hb dX1_isWaiting_26 (by decide) (fun c6 => ?_) (fun c6 => ?_)
      · replace hj := iq _ c6 hj
        obtain ⟨x7, ex7, hj⟩ := nm_some hj
        refine lv_iinc (v := x7) (lv' := [(2, .int x7), (0, .ref (ad 6)), (1, .int v1)]) hx hb dX1_isWaiting_31 hl (k := 2) rfl (by rw [ex7]; rfl) (by decide) rfl (fun ls hl => ?_)
        refine lv_goto (tgt := 2) hx hb dX1_isWaiting_34 (by decide) ?_
        exact hk_2 v1 x7 hj _ _ _ V (lv_sub hl [1, 2, 0] rfl)
      · replace hj := ip _ c6 hj
        refine lv_iconst (v := 1) hx hb dX1_isWaiting_29 (by decide) ?_
        exact hret (1 : Int32) hj zn_1 V dX1_isWaiting_30
def j_X1_isWaiting_2 (u : St) : Nat → Int32 → Int32 → Option (Int32)
  | 0 => fun _ _ => none
  | n + 1 => q_X1_isWaiting_2 u (j_X1_isWaiting_2 u n)
theorem lp_X1_isWaiting_2 {p : Program} {l : Launch} {e : Env} {R : Room} {s : State} {m : MethodId} {args : Array Value} {below : List Frame} {meth : Method} {c : Code} {A : Nat → Prop} {Q : State → Prop} {D : va_G} {tc : Nat → ClassId} (ad ta : Nat → Nat) (us : Int32) (T : TbT) (sh : Nat) (u : St) (hRf : 0 ≤ R.frames) (hRl : 0 ≤ R.locals) (C : Cx p s m args meth c cX1_isWaiting 3 RX1 (some .boolean)) {x0 : Int32} (hret : RetI p l e R s m args below meth c Q cX1_isWaiting D tc A .boolean (some x0) (fun x : Int32 => x) (fun _ : Int32 => Fw tc ad ta us T sh u))  : ∀ (n : Nat), ∀ (v1 : Int32) (v2 : Int32), j_X1_isWaiting_2 u n v1 v2 = some x0 → ∀ (H : Heap) (locs : List Loc) (ls : Array Slot), Wd D tc A s H locs (Fw tc ad ta us T sh u) → lv_has ls 3 [(0, .ref (ad 6)), (1, .int v1), (2, .int v2)] → W p l e R s m args below meth c H locs 0 0 Q (F0 m 2 ls []) := by
  intro n
  induction n with
  | zero =>
    intro v1 v2 hj
    have hj : (none : Option (Int32)) = some x0 := hj
    cases hj
  | succ n ih =>
    intro v1 v2 hj
    exact b_X1_isWaiting_2 ad ta us T sh u hRf hRl C hret   (j_X1_isWaiting_2 u n) ih v1 v2 hj
def j_X1_isWaiting (u : St) (v1 : Int32) : Option (Int32) :=
  j_X1_isWaiting_2 u 100 v1 (0 : Int32)
set_option maxHeartbeats 4000000 in
set_option maxRecDepth 100000 in
theorem k_X1_isWaiting (l : Launch) (D : va_G) (tc : Nat → ClassId) (ad ta : Nat → Nat) (us : Int32) (T : TbT) (sh : Nat) (u : St) (v1 : Int32) {x0 : Int32} (hj : j_X1_isWaiting u v1 = some x0) : MetD l D tc yX1_isWaiting cX1_isWaiting 3 (some .boolean) 0 0 [.ref (ad 6), .int v1] (Fw tc ad ta us T sh u) (some (.int x0)) (Fw tc ad ta us T sh u) :=
  x_entI (fun x : Int32 => x) (fun _ : Int32 => Fw tc ad ta us T sh u) (by decide) (own := RX1) rfl (Nat.le_of_ble_eq_true rfl) (fun p e s m args below meth c A Q ls C V hl hret => by
  obtain ⟨hx, hb, hr, hml, hown, hts, hlk, hN⟩ := id C
  have hRf : 0 ≤ (rmz 0 0 0 0).frames := Nat.le_refl _
  have hRl : 0 ≤ (rmz 0 0 0 0).locals := Nat.le_refl _
  generalize (rmz 0 0 0 0) = R at hret hRf hRl ⊢
  generalize s.heap = H at V ⊢
  generalize ([] : List Loc) = locs at V ⊢
  have hl : lv_has ls 3 [(0, .ref (ad 6)), (1, .int v1)] := hl
  unfold j_X1_isWaiting at hj
  refine lv_iconst (v := 0) hx hb dX1_isWaiting_0 (by decide) ?_
  refine lv_istore_n (lv' := [(2, .int (0 : Int32)), (0, .ref (ad 6)), (1, .int v1)]) hx hb dX1_isWaiting_1 rfl hl (by decide) rfl (fun ls hl => ?_)
  exact lp_X1_isWaiting_2 ad ta us T sh u hRf hRl C hret   100 v1 (0 : Int32) hj _ _ _ V (lv_sub hl [1, 2, 0] rfl))

def j_X1_start (u : St) (v1 : Int32) (v2 : Int32) (v3 : Int32) (v4 : Int32) : Option (Int32 × St) :=
  if (u.1 2) < (10 : Int32) then nm (sI u 3 ((u.1 3) + (1 : Int32))) (fun u2 => gd (u2.1 2) 10 (nm (sA u2 4 (u2.1 2).toNatClampNeg v1) (fun u4 => gd (u4.1 2) 10 (nm (sA u4 5 (u4.1 2).toNatClampNeg v2) (fun u6 => gd (u6.1 2) 10 (nm (sA u6 6 (u6.1 2).toNatClampNeg v3) (fun u8 => gd (u8.1 2) 10 (nm (sA u8 7 (u8.1 2).toNatClampNeg v4) (fun u10 => gd (u10.1 2) 10 (nm (sA u10 8 (u10.1 2).toNatClampNeg (u10.1 3)) (fun u12 => nm (sI u12 2 ((u12.1 2) + (1 : Int32))) (fun u13 => some ((u13.1 2) - (1 : Int32), u13))))))))))))) else some ((-4 : Int32), u)
set_option maxHeartbeats 4000000 in
set_option maxRecDepth 100000 in
theorem k_X1_start (l : Launch) (D : va_G) (tc : Nat → ClassId) (ad ta : Nat → Nat) (us : Int32) (T : TbT) (sh : Nat) (u : St) (v1 : Int32) (v2 : Int32) (v3 : Int32) (v4 : Int32) {x0 : Int32 × St} (hj : j_X1_start u v1 v2 v3 v4 = some x0) : MetD l D tc yX1_start cX1_start 5 (some .int) 0 0 [.ref (ad 6), .int v1, .int v2, .int v3, .int v4] (Fw tc ad ta us T sh u) (some (.int x0.1)) (Fw tc ad ta us T sh x0.2) :=
  x_entI (fun x : Int32 × St => x.1) (fun x : Int32 × St => Fw tc ad ta us T sh x.2) (by decide) (own := RX1) rfl (Nat.le_of_ble_eq_true rfl) (fun p e s m args below meth c A Q ls C V hl hret => by
  obtain ⟨hx, hb, hr, hml, hown, hts, hlk, hN⟩ := id C
  have hRf : 0 ≤ (rmz 0 0 0 0).frames := Nat.le_refl _
  have hRl : 0 ≤ (rmz 0 0 0 0).locals := Nat.le_refl _
  generalize (rmz 0 0 0 0) = R at hret hRf hRl ⊢
  generalize s.heap = H at V ⊢
  generalize ([] : List Loc) = locs at V ⊢
  have hl : lv_has ls 5 [(0, .ref (ad 6)), (1, .int v1), (2, .int v2), (3, .int v3), (4, .int v4)] := hl
  unfold j_X1_start at hj
  refine lv_aload_n hx hb dX1_start_0 rfl (lv_at hl 0 rfl) ?_
  refine x_get hx hb hts hown V inX1 6 rfl rfl 2 (by decide) tw_41 rfl rfl dX1_start_1 ?_
  refine lv_bipush (v := 10) hx hb dX1_start_4 (by decide) ?_
  refine lv_icmp_lt (tgt := 12) hx hb dX1_start_6 (by decide) (fun c1 => ?_) (fun c1 => ?_)
  · replace hj := ip _ c1 hj
    refine lv_aload_n hx hb dX1_start_12 rfl (lv_at hl 0 rfl) ?_
    refine lv_dup hx hb dX1_start_13 rfl ?_
    refine x_get hx hb hts hown V inX1 6 rfl rfl 3 (by decide) tw_44 rfl rfl dX1_start_14 ?_
    refine lv_iconst (v := 1) hx hb dX1_start_17 (by decide) ?_
    refine lv_iadd hx hb dX1_start_18 ?_
    refine x_put hx hb hts hown V inX1 tyX1_ok nmX1 6 rfl rfl 3 (by decide) tw_44 rfl rfl rfl rfl (Nat.le_of_ble_eq_true rfl) dX1_start_19 (fun H locs V => ?_)
    obtain ⟨u2, eu2, hj⟩ := nm_some hj
    replace V : Wd D tc A s H locs (Fw tc ad ta us T sh u2) := by rw [eu2]; exact V
    refine lv_aload_n hx hb dX1_start_22 rfl (lv_at hl 0 rfl) ?_
    refine x_get hx hb hts hown V inX1 6 rfl rfl 4 (by decide) tw_46 rfl rfl dX1_start_23 ?_
    refine lv_aload_n hx hb dX1_start_26 rfl (lv_at hl 0 rfl) ?_
    refine x_get hx hb hts hown V inX1 6 rfl rfl 2 (by decide) tw_41 rfl rfl dX1_start_27 ?_
    refine lv_iload_n hx hb dX1_start_30 rfl (lv_at hl 1 rfl) ?_
    obtain ⟨i3, hj⟩ := gd_some hj
    obtain ⟨u4, eu4, hj⟩ := nm_some hj
    refine x_iast hx hb V 7 rfl i3 dX1_start_31 (fun H locs V => ?_)
    replace V : Wd D tc A s H locs (Fw tc ad ta us T sh u4) := by rw [eu4]; exact V
    refine lv_aload_n hx hb dX1_start_32 rfl (lv_at hl 0 rfl) ?_
    refine x_get hx hb hts hown V inX1 6 rfl rfl 5 (by decide) tw_48 rfl rfl dX1_start_33 ?_
    refine lv_aload_n hx hb dX1_start_36 rfl (lv_at hl 0 rfl) ?_
    refine x_get hx hb hts hown V inX1 6 rfl rfl 2 (by decide) tw_41 rfl rfl dX1_start_37 ?_
    refine lv_iload_n hx hb dX1_start_40 rfl (lv_at hl 2 rfl) ?_
    obtain ⟨i5, hj⟩ := gd_some hj
    obtain ⟨u6, eu6, hj⟩ := nm_some hj
    refine x_iast hx hb V 8 rfl i5 dX1_start_41 (fun H locs V => ?_)
    replace V : Wd D tc A s H locs (Fw tc ad ta us T sh u6) := by rw [eu6]; exact V
    refine lv_aload_n hx hb dX1_start_42 rfl (lv_at hl 0 rfl) ?_
    refine x_get hx hb hts hown V inX1 6 rfl rfl 6 (by decide) tw_51 rfl rfl dX1_start_43 ?_
    refine lv_aload_n hx hb dX1_start_46 rfl (lv_at hl 0 rfl) ?_
    refine x_get hx hb hts hown V inX1 6 rfl rfl 2 (by decide) tw_41 rfl rfl dX1_start_47 ?_
    refine lv_iload_n hx hb dX1_start_50 rfl (lv_at hl 3 rfl) ?_
    obtain ⟨i7, hj⟩ := gd_some hj
    obtain ⟨u8, eu8, hj⟩ := nm_some hj
    refine x_iast hx hb V 9 rfl i7 dX1_start_51 (fun H locs V => ?_)
    replace V : Wd D tc A s H locs (Fw tc ad ta us T sh u8) := by rw [eu8]; exact V
    refine lv_aload_n hx hb dX1_start_52 rfl (lv_at hl 0 rfl) ?_
    refine x_get hx hb hts hown V inX1 6 rfl rfl 7 (by decide) tw_53 rfl rfl dX1_start_53 ?_
    refine lv_aload_n hx hb dX1_start_56 rfl (lv_at hl 0 rfl) ?_
    refine x_get hx hb hts hown V inX1 6 rfl rfl 2 (by decide) tw_41 rfl rfl dX1_start_57 ?_
    refine lv_iload hx hb dX1_start_60 (lv_at hl 4 rfl) ?_
    obtain ⟨i9, hj⟩ := gd_some hj
    obtain ⟨u10, eu10, hj⟩ := nm_some hj
    refine x_iast hx hb V 10 rfl i9 dX1_start_62 (fun H locs V => ?_)
    replace V : Wd D tc A s H locs (Fw tc ad ta us T sh u10) := by rw [eu10]; exact V
    refine lv_aload_n hx hb dX1_start_63 rfl (lv_at hl 0 rfl) ?_
    refine x_get hx hb hts hown V inX1 6 rfl rfl 8 (by decide) tw_55 rfl rfl dX1_start_64 ?_
    refine lv_aload_n hx hb dX1_start_67 rfl (lv_at hl 0 rfl) ?_
    refine x_get hx hb hts hown V inX1 6 rfl rfl 2 (by decide) tw_41 rfl rfl dX1_start_68 ?_
    refine lv_aload_n hx hb dX1_start_71 rfl (lv_at hl 0 rfl) ?_
    refine x_get hx hb hts hown V inX1 6 rfl rfl 3 (by decide) tw_44 rfl rfl dX1_start_72 ?_
    obtain ⟨i11, hj⟩ := gd_some hj
    obtain ⟨u12, eu12, hj⟩ := nm_some hj
    refine x_iast hx hb V 11 rfl i11 dX1_start_75 (fun H locs V => ?_)
    replace V : Wd D tc A s H locs (Fw tc ad ta us T sh u12) := by rw [eu12]; exact V
    refine lv_aload_n hx hb dX1_start_76 rfl (lv_at hl 0 rfl) ?_
    refine lv_dup hx hb dX1_start_77 rfl ?_
    refine x_get hx hb hts hown V inX1 6 rfl rfl 2 (by decide) tw_41 rfl rfl dX1_start_78 ?_
    refine lv_iconst (v := 1) hx hb dX1_start_81 (by decide) ?_
    refine lv_iadd hx hb dX1_start_82 ?_
    refine x_put hx hb hts hown V inX1 tyX1_ok nmX1 6 rfl rfl 2 (by decide) tw_41 rfl rfl rfl rfl (Nat.le_of_ble_eq_true rfl) dX1_start_83 (fun H locs V => ?_)
    obtain ⟨u13, eu13, hj⟩ := nm_some hj
    replace V : Wd D tc A s H locs (Fw tc ad ta us T sh u13) := by rw [eu13]; exact V
    refine lv_aload_n hx hb dX1_start_86 rfl (lv_at hl 0 rfl) ?_
    refine x_get hx hb hts hown V inX1 6 rfl rfl 2 (by decide) tw_41 rfl rfl dX1_start_87 ?_
    refine lv_iconst (v := 1) hx hb dX1_start_90 (by decide) ?_
    refine lv_isub hx hb dX1_start_91 ?_
    exact hret ((u13.1 2) - (1 : Int32), u13) hj rfl V dX1_start_92
  · replace hj := iq _ c1 hj
    refine lv_bipush (v := (-4)) hx hb dX1_start_9 (by decide) ?_
    exact hret ((-4 : Int32), u) hj rfl V dX1_start_11)

def j_X1_end (u : St) (v1 : Int32) (v2 : Int32) : Option (Int32 × St) :=
  (j_X1_hasCall u v1).bind (fun r1 => if r1 = (0 : Int32) then some ((-1 : Int32), u) else nm (sI u 3 ((u.1 3) + (1 : Int32))) (fun u3 => gd v1 10 (nm (sA u3 9 v1.toNatClampNeg (u3.1 3)) (fun u5 => gd v1 10 (nm (sA u5 10 v1.toNatClampNeg v2) (fun u7 => some (u7.1 3, u7)))))))
set_option maxHeartbeats 4000000 in
set_option maxRecDepth 100000 in
theorem k_X1_end (l : Launch) (D : va_G) (tc : Nat → ClassId) (ad ta : Nat → Nat) (us : Int32) (T : TbT) (sh : Nat) (u : St) (v1 : Int32) (v2 : Int32) {x0 : Int32 × St} (hj : j_X1_end u v1 v2 = some x0) : MetD l D tc yX1_end cX1_end 3 (some .int) 1 21 [.ref (ad 6), .int v1, .int v2] (Fw tc ad ta us T sh u) (some (.int x0.1)) (Fw tc ad ta us T sh x0.2) :=
  x_entI (fun x : Int32 × St => x.1) (fun x : Int32 × St => Fw tc ad ta us T sh x.2) (by decide) (own := RX1) rfl (Nat.le_of_ble_eq_true rfl) (fun p e s m args below meth c A Q ls C V hl hret => by
  obtain ⟨hx, hb, hr, hml, hown, hts, hlk, hN⟩ := id C
  have hRf : 1 ≤ (rmz 1 0 0 21).frames := Nat.le_refl _
  have hRl : 21 ≤ (rmz 1 0 0 21).locals := Nat.le_refl _
  generalize (rmz 1 0 0 21) = R at hret hRf hRl ⊢
  generalize s.heap = H at V ⊢
  generalize ([] : List Loc) = locs at V ⊢
  have hl : lv_has ls 3 [(0, .ref (ad 6)), (1, .int v1), (2, .int v2)] := hl
  unfold j_X1_end at hj
  refine lv_aload_n hx hb dX1_end_0 rfl (lv_at hl 0 rfl) ?_
  refine lv_iload_n hx hb dX1_end_1 rfl (lv_at hl 1 rfl) ?_
  obtain ⟨r1, hr1, hj⟩ := bd_some hj
  refine x_allI V _ (rg_map _) (x_runV (n := 1) (rest := []) C V _ (rg_map _) (rg_nd _) (k_X1_hasCall l D tc ad ta us T sh u v1 hr1) tw_270 tw_263 tw_264 tw_3 tw_265 (by decide +kernel) ⟨Nat.le_trans (Nat.le_of_ble_eq_true rfl) hRf, Nat.le_trans (Nat.le_of_ble_eq_true rfl) hRl⟩ ⟨Nat.zero_le _, Nat.zero_le _⟩ 6 1 rfl rfl rfl hl.1 rfl (Nat.le_of_ble_eq_true rfl) dX1_end_2) (fun H locs V zr1 => ?_)
  replace V : Wd D tc A s H locs (Fw tc ad ta us T sh u) := V
  refine lv_if_ne (tgt := 10) hx hb dX1_end_5 (by decide) (fun c2 => ?_) (fun c2 => ?_)
  · replace hj := iq _ c2 hj
    refine lv_aload_n hx hb dX1_end_10 rfl (lv_at hl 0 rfl) ?_
    refine lv_dup hx hb dX1_end_11 rfl ?_
    refine x_get hx hb hts hown V inX1 6 rfl rfl 3 (by decide) tw_44 rfl rfl dX1_end_12 ?_
    refine lv_iconst (v := 1) hx hb dX1_end_15 (by decide) ?_
    refine lv_iadd hx hb dX1_end_16 ?_
    refine x_put hx hb hts hown V inX1 tyX1_ok nmX1 6 rfl rfl 3 (by decide) tw_44 rfl rfl rfl rfl (Nat.le_of_ble_eq_true rfl) dX1_end_17 (fun H locs V => ?_)
    obtain ⟨u3, eu3, hj⟩ := nm_some hj
    replace V : Wd D tc A s H locs (Fw tc ad ta us T sh u3) := by rw [eu3]; exact V
    refine lv_aload_n hx hb dX1_end_20 rfl (lv_at hl 0 rfl) ?_
    refine x_get hx hb hts hown V inX1 6 rfl rfl 9 (by decide) tw_57 rfl rfl dX1_end_21 ?_
    refine lv_iload_n hx hb dX1_end_24 rfl (lv_at hl 1 rfl) ?_
    refine lv_aload_n hx hb dX1_end_25 rfl (lv_at hl 0 rfl) ?_
    refine x_get hx hb hts hown V inX1 6 rfl rfl 3 (by decide) tw_44 rfl rfl dX1_end_26 ?_
    obtain ⟨i4, hj⟩ := gd_some hj
    obtain ⟨u5, eu5, hj⟩ := nm_some hj
    refine x_iast hx hb V 12 rfl i4 dX1_end_29 (fun H locs V => ?_)
    replace V : Wd D tc A s H locs (Fw tc ad ta us T sh u5) := by rw [eu5]; exact V
    refine lv_aload_n hx hb dX1_end_30 rfl (lv_at hl 0 rfl) ?_
    refine x_get hx hb hts hown V inX1 6 rfl rfl 10 (by decide) tw_59 rfl rfl dX1_end_31 ?_
    refine lv_iload_n hx hb dX1_end_34 rfl (lv_at hl 1 rfl) ?_
    refine lv_iload_n hx hb dX1_end_35 rfl (lv_at hl 2 rfl) ?_
    obtain ⟨i6, hj⟩ := gd_some hj
    obtain ⟨u7, eu7, hj⟩ := nm_some hj
    refine x_iast hx hb V 13 rfl i6 dX1_end_36 (fun H locs V => ?_)
    replace V : Wd D tc A s H locs (Fw tc ad ta us T sh u7) := by rw [eu7]; exact V
    refine lv_aload_n hx hb dX1_end_37 rfl (lv_at hl 0 rfl) ?_
    refine x_get hx hb hts hown V inX1 6 rfl rfl 3 (by decide) tw_44 rfl rfl dX1_end_38 ?_
    exact hret (u7.1 3, u7) hj rfl V dX1_end_41
  · replace hj := ip _ c2 hj
    refine lv_iconst (v := (-1)) hx hb dX1_end_8 (by decide) ?_
    exact hret ((-1 : Int32), u) hj rfl V dX1_end_9)

def j_X1_allCalls (u : St) : Option (Int32) :=
  some (((1 : Int32) <<< ((u.1 2) &&& 31)) - (1 : Int32))
set_option maxHeartbeats 4000000 in
set_option maxRecDepth 100000 in
theorem k_X1_allCalls (l : Launch) (D : va_G) (tc : Nat → ClassId) (ad ta : Nat → Nat) (us : Int32) (T : TbT) (sh : Nat) (u : St) {x0 : Int32} (hj : j_X1_allCalls u = some x0) : MetD l D tc yX1_allCalls cX1_allCalls 1 (some .int) 0 0 [.ref (ad 6)] (Fw tc ad ta us T sh u) (some (.int x0)) (Fw tc ad ta us T sh u) :=
  x_entI (fun x : Int32 => x) (fun _ : Int32 => Fw tc ad ta us T sh u) (by decide) (own := RX1) rfl (Nat.le_of_ble_eq_true rfl) (fun p e s m args below meth c A Q ls C V hl hret => by
  obtain ⟨hx, hb, hr, hml, hown, hts, hlk, hN⟩ := id C
  have hRf : 0 ≤ (rmz 0 0 0 0).frames := Nat.le_refl _
  have hRl : 0 ≤ (rmz 0 0 0 0).locals := Nat.le_refl _
  generalize (rmz 0 0 0 0) = R at hret hRf hRl ⊢
  generalize s.heap = H at V ⊢
  generalize ([] : List Loc) = locs at V ⊢
  have hl : lv_has ls 1 [(0, .ref (ad 6))] := hl
  unfold j_X1_allCalls at hj
  refine lv_iconst (v := 1) hx hb dX1_allCalls_0 (by decide) ?_
  refine lv_aload_n hx hb dX1_allCalls_1 rfl (lv_at hl 0 rfl) ?_
  refine x_get hx hb hts hown V inX1 6 rfl rfl 2 (by decide) tw_41 rfl rfl dX1_allCalls_2 ?_
  refine lv_ishl hx hb dX1_allCalls_5 ?_
  refine lv_iconst (v := 1) hx hb dX1_allCalls_6 (by decide) ?_
  refine lv_isub hx hb dX1_allCalls_7 ?_
  exact hret (((1 : Int32) <<< ((u.1 2) &&& 31)) - (1 : Int32)) hj rfl V dX1_allCalls_8)

def q_X1_endedCalls_4 (u : St) (k_4 : Int32 → Int32 → Option (Int32)) (v1 : Int32) (v2 : Int32) : Option (Int32) :=
  if (u.1 2) ≤ v2 then some v1 else gd v2 10 (if (u.2.1 9 v2.toNatClampNeg) = (0 : Int32) then nm (v2 + 1) (fun x4 => k_4 v1 x4) else nm (v1 ||| ((1 : Int32) <<< (v2 &&& 31))) (fun x5 => nm (v2 + 1) (fun x6 => k_4 x5 x6)))
set_option maxHeartbeats 4000000 in
set_option maxRecDepth 100000 in
theorem b_X1_endedCalls_4 {p : Program} {l : Launch} {e : Env} {R : Room} {s : State} {m : MethodId} {args : Array Value} {below : List Frame} {meth : Method} {c : Code} {A : Nat → Prop} {Q : State → Prop} {D : va_G} {tc : Nat → ClassId} (ad ta : Nat → Nat) (us : Int32) (T : TbT) (sh : Nat) (u : St) (hRf : 0 ≤ R.frames) (hRl : 0 ≤ R.locals) (C : Cx p s m args meth c cX1_endedCalls 3 RX1 (some .int)) {x0 : Int32} (hret : RetI p l e R s m args below meth c Q cX1_endedCalls D tc A .int (some x0) (fun x : Int32 => x) (fun _ : Int32 => Fw tc ad ta us T sh u)) (k_4 : Int32 → Int32 → Option (Int32)) (hk_4 : ∀ (v1 : Int32) (v2 : Int32), k_4 v1 v2 = some x0 → ∀ (H : Heap) (locs : List Loc) (ls : Array Slot), Wd D tc A s H locs (Fw tc ad ta us T sh u) → lv_has ls 3 [(0, .ref (ad 6)), (1, .int v1), (2, .int v2)] → W p l e R s m args below meth c H locs 0 0 Q (F0 m 4 ls [])) : ∀ (v1 : Int32) (v2 : Int32), q_X1_endedCalls_4 u k_4 v1 v2 = some x0 → ∀ (H : Heap) (locs : List Loc) (ls : Array Slot), Wd D tc A s H locs (Fw tc ad ta us T sh u) → lv_has ls 3 [(0, .ref (ad 6)), (1, .int v1), (2, .int v2)] → W p l e R s m args below meth c H locs 0 0 Q (F0 m 4 ls []) := by
  obtain ⟨hx, hb, hr, hml, hown, hts, hlk, hN⟩ := id C
  intro v1 v2 hj H locs ls V hl
  unfold q_X1_endedCalls_4 at hj
  refine lv_iload_n hx hb dX1_endedCalls_4 rfl (lv_at hl 2 rfl) ?_
  refine lv_aload_n hx hb dX1_endedCalls_5 rfl (lv_at hl 0 rfl) ?_
  refine x_get hx hb hts hown V inX1 6 rfl rfl 2 (by decide) tw_41 rfl rfl dX1_endedCalls_6 ?_
  refine lv_icmp_ge (tgt := 33) hx hb dX1_endedCalls_9 (by decide) (fun c1 => ?_) (fun c1 => ?_)
  · replace hj := ip _ c1 hj
    refine lv_iload_n hx hb dX1_endedCalls_33 rfl (lv_at hl 1 rfl) ?_
    exact hret v1 hj rfl V dX1_endedCalls_34
  · replace hj := iq _ c1 hj
    refine lv_aload_n hx hb dX1_endedCalls_12 rfl (lv_at hl 0 rfl) ?_
    refine x_get hx hb hts hown V inX1 6 rfl rfl 9 (by decide) tw_57 rfl rfl dX1_endedCalls_13 ?_
    refine lv_iload_n hx hb dX1_endedCalls_16 rfl (lv_at hl 2 rfl) ?_
    obtain ⟨i2, hj⟩ := gd_some hj
    refine x_iald hx hb V 12 rfl i2 dX1_endedCalls_17 ?_
    refine lv_if_eq (tgt := 27) hx hb dX1_endedCalls_18 (by decide) (fun c3 => ?_) (fun c3 => ?_)
    · replace hj := ip _ c3 hj
      obtain ⟨x4, ex4, hj⟩ := nm_some hj
      refine lv_iinc (v := x4) (lv' := [(2, .int x4), (0, .ref (ad 6)), (1, .int v1)]) hx hb dX1_endedCalls_27 hl (k := 2) rfl (by rw [ex4]; rfl) (by decide) rfl (fun ls hl => ?_)
      refine lv_goto (tgt := 4) hx hb dX1_endedCalls_30 (by decide) ?_
      exact hk_4 v1 x4 hj _ _ _ V (lv_sub hl [1, 2, 0] rfl)
    · replace hj := iq _ c3 hj
      refine lv_iload_n hx hb dX1_endedCalls_21 rfl (lv_at hl 1 rfl) ?_
      refine lv_iconst (v := 1) hx hb dX1_endedCalls_22 (by decide) ?_
      refine lv_iload_n hx hb dX1_endedCalls_23 rfl (lv_at hl 2 rfl) ?_
      refine lv_ishl hx hb dX1_endedCalls_24 ?_
      refine lv_ior hx hb dX1_endedCalls_25 ?_
      obtain ⟨x5, ex5, hj⟩ := nm_some hj
      refine x_topi ex5 ?_
      refine lv_istore_n (lv' := [(1, .int x5), (0, .ref (ad 6)), (2, .int v2)]) hx hb dX1_endedCalls_26 rfl hl (by decide) rfl (fun ls hl => ?_)
      obtain ⟨x6, ex6, hj⟩ := nm_some hj
      refine lv_iinc (v := x6) (lv' := [(2, .int x6), (1, .int x5), (0, .ref (ad 6))]) hx hb dX1_endedCalls_27 hl (k := 2) rfl (by rw [ex6]; rfl) (by decide) rfl (fun ls hl => ?_)
      refine lv_goto (tgt := 4) hx hb dX1_endedCalls_30 (by decide) ?_
      exact hk_4 x5 x6 hj _ _ _ V (lv_sub hl [2, 1, 0] rfl)
def j_X1_endedCalls_4 (u : St) : Nat → Int32 → Int32 → Option (Int32)
  | 0 => fun _ _ => none
  | n + 1 => q_X1_endedCalls_4 u (j_X1_endedCalls_4 u n)
theorem lp_X1_endedCalls_4 {p : Program} {l : Launch} {e : Env} {R : Room} {s : State} {m : MethodId} {args : Array Value} {below : List Frame} {meth : Method} {c : Code} {A : Nat → Prop} {Q : State → Prop} {D : va_G} {tc : Nat → ClassId} (ad ta : Nat → Nat) (us : Int32) (T : TbT) (sh : Nat) (u : St) (hRf : 0 ≤ R.frames) (hRl : 0 ≤ R.locals) (C : Cx p s m args meth c cX1_endedCalls 3 RX1 (some .int)) {x0 : Int32} (hret : RetI p l e R s m args below meth c Q cX1_endedCalls D tc A .int (some x0) (fun x : Int32 => x) (fun _ : Int32 => Fw tc ad ta us T sh u))  : ∀ (n : Nat), ∀ (v1 : Int32) (v2 : Int32), j_X1_endedCalls_4 u n v1 v2 = some x0 → ∀ (H : Heap) (locs : List Loc) (ls : Array Slot), Wd D tc A s H locs (Fw tc ad ta us T sh u) → lv_has ls 3 [(0, .ref (ad 6)), (1, .int v1), (2, .int v2)] → W p l e R s m args below meth c H locs 0 0 Q (F0 m 4 ls []) := by
  intro n
  induction n with
  | zero =>
    intro v1 v2 hj
    have hj : (none : Option (Int32)) = some x0 := hj
    cases hj
  | succ n ih =>
    intro v1 v2 hj
    exact b_X1_endedCalls_4 ad ta us T sh u hRf hRl C hret   (j_X1_endedCalls_4 u n) ih v1 v2 hj
def j_X1_endedCalls (u : St) : Option (Int32) :=
  j_X1_endedCalls_4 u 100 (0 : Int32) (0 : Int32)
set_option maxHeartbeats 4000000 in
set_option maxRecDepth 100000 in
theorem k_X1_endedCalls (l : Launch) (D : va_G) (tc : Nat → ClassId) (ad ta : Nat → Nat) (us : Int32) (T : TbT) (sh : Nat) (u : St) {x0 : Int32} (hj : j_X1_endedCalls u = some x0) : MetD l D tc yX1_endedCalls cX1_endedCalls 3 (some .int) 0 0 [.ref (ad 6)] (Fw tc ad ta us T sh u) (some (.int x0)) (Fw tc ad ta us T sh u) :=
  x_entI (fun x : Int32 => x) (fun _ : Int32 => Fw tc ad ta us T sh u) (by decide) (own := RX1) rfl (Nat.le_of_ble_eq_true rfl) (fun p e s m args below meth c A Q ls C V hl hret => by
  obtain ⟨hx, hb, hr, hml, hown, hts, hlk, hN⟩ := id C
  have hRf : 0 ≤ (rmz 0 0 0 0).frames := Nat.le_refl _
  have hRl : 0 ≤ (rmz 0 0 0 0).locals := Nat.le_refl _
  generalize (rmz 0 0 0 0) = R at hret hRf hRl ⊢
  generalize s.heap = H at V ⊢
  generalize ([] : List Loc) = locs at V ⊢
  have hl : lv_has ls 3 [(0, .ref (ad 6))] := hl
  unfold j_X1_endedCalls at hj
  refine lv_iconst (v := 0) hx hb dX1_endedCalls_0 (by decide) ?_
  refine lv_istore_n (lv' := [(1, .int (0 : Int32)), (0, .ref (ad 6))]) hx hb dX1_endedCalls_1 rfl hl (by decide) rfl (fun ls hl => ?_)
  refine lv_iconst (v := 0) hx hb dX1_endedCalls_2 (by decide) ?_
  refine lv_istore_n (lv' := [(2, .int (0 : Int32)), (1, .int (0 : Int32)), (0, .ref (ad 6))]) hx hb dX1_endedCalls_3 rfl hl (by decide) rfl (fun ls hl => ?_)
  exact lp_X1_endedCalls_4 ad ta us T sh u hRf hRl C hret   100 (0 : Int32) (0 : Int32) hj _ _ _ V (lv_sub hl [2, 1, 0] rfl))

def q_X1_callsWith_4 (u : St) (k_4 : Int32 → Int32 → Int32 → Option (Int32)) (v1 : Int32) (v2 : Int32) (v3 : Int32) : Option (Int32) :=
  if (u.1 2) ≤ v3 then some v2 else gd v3 10 (if (u.2.1 6 v3.toNatClampNeg) = v1 then nm (v2 ||| ((1 : Int32) <<< (v3 &&& 31))) (fun x5 => nm (v3 + 1) (fun x6 => k_4 v1 x5 x6)) else nm (v3 + 1) (fun x4 => k_4 v1 v2 x4))
set_option maxHeartbeats 4000000 in
set_option maxRecDepth 100000 in
theorem b_X1_callsWith_4 {p : Program} {l : Launch} {e : Env} {R : Room} {s : State} {m : MethodId} {args : Array Value} {below : List Frame} {meth : Method} {c : Code} {A : Nat → Prop} {Q : State → Prop} {D : va_G} {tc : Nat → ClassId} (ad ta : Nat → Nat) (us : Int32) (T : TbT) (sh : Nat) (u : St) (hRf : 0 ≤ R.frames) (hRl : 0 ≤ R.locals) (C : Cx p s m args meth c cX1_callsWith 4 RX1 (some .int)) {x0 : Int32} (hret : RetI p l e R s m args below meth c Q cX1_callsWith D tc A .int (some x0) (fun x : Int32 => x) (fun _ : Int32 => Fw tc ad ta us T sh u)) (k_4 : Int32 → Int32 → Int32 → Option (Int32)) (hk_4 : ∀ (v1 : Int32) (v2 : Int32) (v3 : Int32), k_4 v1 v2 v3 = some x0 → ∀ (H : Heap) (locs : List Loc) (ls : Array Slot), Wd D tc A s H locs (Fw tc ad ta us T sh u) → lv_has ls 4 [(0, .ref (ad 6)), (1, .int v1), (2, .int v2), (3, .int v3)] → W p l e R s m args below meth c H locs 0 0 Q (F0 m 4 ls [])) : ∀ (v1 : Int32) (v2 : Int32) (v3 : Int32), q_X1_callsWith_4 u k_4 v1 v2 v3 = some x0 → ∀ (H : Heap) (locs : List Loc) (ls : Array Slot), Wd D tc A s H locs (Fw tc ad ta us T sh u) → lv_has ls 4 [(0, .ref (ad 6)), (1, .int v1), (2, .int v2), (3, .int v3)] → W p l e R s m args below meth c H locs 0 0 Q (F0 m 4 ls []) := by
  obtain ⟨hx, hb, hr, hml, hown, hts, hlk, hN⟩ := id C
  intro v1 v2 v3 hj H locs ls V hl
  unfold q_X1_callsWith_4 at hj
  refine lv_iload_n hx hb dX1_callsWith_4 rfl (lv_at hl 3 rfl) ?_
  refine lv_aload_n hx hb dX1_callsWith_5 rfl (lv_at hl 0 rfl) ?_
  refine x_get hx hb hts hown V inX1 6 rfl rfl 2 (by decide) tw_41 rfl rfl dX1_callsWith_6 ?_
  refine lv_icmp_ge (tgt := 34) hx hb dX1_callsWith_9 (by decide) (fun c1 => ?_) (fun c1 => ?_)
  · replace hj := ip _ c1 hj
    refine lv_iload_n hx hb dX1_callsWith_34 rfl (lv_at hl 2 rfl) ?_
    exact hret v2 hj rfl V dX1_callsWith_35
  · replace hj := iq _ c1 hj
    refine lv_aload_n hx hb dX1_callsWith_12 rfl (lv_at hl 0 rfl) ?_
    refine x_get hx hb hts hown V inX1 6 rfl rfl 6 (by decide) tw_51 rfl rfl dX1_callsWith_13 ?_
    refine lv_iload_n hx hb dX1_callsWith_16 rfl (lv_at hl 3 rfl) ?_
    obtain ⟨i2, hj⟩ := gd_some hj
    refine x_iald hx hb V 9 rfl i2 dX1_callsWith_17 ?_
    refine lv_iload_n hx hb dX1_callsWith_18 rfl (lv_at hl 1 rfl) ?_
    refine lv_icmp_ne (tgt := 28) hx hb dX1_callsWith_19 (by decide) (fun c3 => ?_) (fun c3 => ?_)
    · replace hj := iq _ c3 hj
      obtain ⟨x4, ex4, hj⟩ := nm_some hj
      refine lv_iinc (v := x4) (lv' := [(3, .int x4), (0, .ref (ad 6)), (1, .int v1), (2, .int v2)]) hx hb dX1_callsWith_28 hl (k := 3) rfl (by rw [ex4]; rfl) (by decide) rfl (fun ls hl => ?_)
      refine lv_goto (tgt := 4) hx hb dX1_callsWith_31 (by decide) ?_
      exact hk_4 v1 v2 x4 hj _ _ _ V (lv_sub hl [1, 2, 3, 0] rfl)
    · replace hj := ip _ c3 hj
      refine lv_iload_n hx hb dX1_callsWith_22 rfl (lv_at hl 2 rfl) ?_
      refine lv_iconst (v := 1) hx hb dX1_callsWith_23 (by decide) ?_
      refine lv_iload_n hx hb dX1_callsWith_24 rfl (lv_at hl 3 rfl) ?_
      refine lv_ishl hx hb dX1_callsWith_25 ?_
      refine lv_ior hx hb dX1_callsWith_26 ?_
      obtain ⟨x5, ex5, hj⟩ := nm_some hj
      refine x_topi ex5 ?_
      refine lv_istore_n (lv' := [(2, .int x5), (0, .ref (ad 6)), (1, .int v1), (3, .int v3)]) hx hb dX1_callsWith_27 rfl hl (by decide) rfl (fun ls hl => ?_)
      obtain ⟨x6, ex6, hj⟩ := nm_some hj
      refine lv_iinc (v := x6) (lv' := [(3, .int x6), (2, .int x5), (0, .ref (ad 6)), (1, .int v1)]) hx hb dX1_callsWith_28 hl (k := 3) rfl (by rw [ex6]; rfl) (by decide) rfl (fun ls hl => ?_)
      refine lv_goto (tgt := 4) hx hb dX1_callsWith_31 (by decide) ?_
      exact hk_4 v1 x5 x6 hj _ _ _ V (lv_sub hl [2, 3, 1, 0] rfl)
def j_X1_callsWith_4 (u : St) : Nat → Int32 → Int32 → Int32 → Option (Int32)
  | 0 => fun _ _ _ => none
  | n + 1 => q_X1_callsWith_4 u (j_X1_callsWith_4 u n)
theorem lp_X1_callsWith_4 {p : Program} {l : Launch} {e : Env} {R : Room} {s : State} {m : MethodId} {args : Array Value} {below : List Frame} {meth : Method} {c : Code} {A : Nat → Prop} {Q : State → Prop} {D : va_G} {tc : Nat → ClassId} (ad ta : Nat → Nat) (us : Int32) (T : TbT) (sh : Nat) (u : St) (hRf : 0 ≤ R.frames) (hRl : 0 ≤ R.locals) (C : Cx p s m args meth c cX1_callsWith 4 RX1 (some .int)) {x0 : Int32} (hret : RetI p l e R s m args below meth c Q cX1_callsWith D tc A .int (some x0) (fun x : Int32 => x) (fun _ : Int32 => Fw tc ad ta us T sh u))  : ∀ (n : Nat), ∀ (v1 : Int32) (v2 : Int32) (v3 : Int32), j_X1_callsWith_4 u n v1 v2 v3 = some x0 → ∀ (H : Heap) (locs : List Loc) (ls : Array Slot), Wd D tc A s H locs (Fw tc ad ta us T sh u) → lv_has ls 4 [(0, .ref (ad 6)), (1, .int v1), (2, .int v2), (3, .int v3)] → W p l e R s m args below meth c H locs 0 0 Q (F0 m 4 ls []) := by
  intro n
  induction n with
  | zero =>
    intro v1 v2 v3 hj
    have hj : (none : Option (Int32)) = some x0 := hj
    cases hj
  | succ n ih =>
    intro v1 v2 v3 hj
    exact b_X1_callsWith_4 ad ta us T sh u hRf hRl C hret   (j_X1_callsWith_4 u n) ih v1 v2 v3 hj
def j_X1_callsWith (u : St) (v1 : Int32) : Option (Int32) :=
  j_X1_callsWith_4 u 100 v1 (0 : Int32) (0 : Int32)
set_option maxHeartbeats 4000000 in
set_option maxRecDepth 100000 in
theorem k_X1_callsWith (l : Launch) (D : va_G) (tc : Nat → ClassId) (ad ta : Nat → Nat) (us : Int32) (T : TbT) (sh : Nat) (u : St) (v1 : Int32) {x0 : Int32} (hj : j_X1_callsWith u v1 = some x0) : MetD l D tc yX1_callsWith cX1_callsWith 4 (some .int) 0 0 [.ref (ad 6), .int v1] (Fw tc ad ta us T sh u) (some (.int x0)) (Fw tc ad ta us T sh u) :=
  x_entI (fun x : Int32 => x) (fun _ : Int32 => Fw tc ad ta us T sh u) (by decide) (own := RX1) rfl (Nat.le_of_ble_eq_true rfl) (fun p e s m args below meth c A Q ls C V hl hret => by
  obtain ⟨hx, hb, hr, hml, hown, hts, hlk, hN⟩ := id C
  have hRf : 0 ≤ (rmz 0 0 0 0).frames := Nat.le_refl _
  have hRl : 0 ≤ (rmz 0 0 0 0).locals := Nat.le_refl _
  generalize (rmz 0 0 0 0) = R at hret hRf hRl ⊢
  generalize s.heap = H at V ⊢
  generalize ([] : List Loc) = locs at V ⊢
  have hl : lv_has ls 4 [(0, .ref (ad 6)), (1, .int v1)] := hl
  unfold j_X1_callsWith at hj
  refine lv_iconst (v := 0) hx hb dX1_callsWith_0 (by decide) ?_
  refine lv_istore_n (lv' := [(2, .int (0 : Int32)), (0, .ref (ad 6)), (1, .int v1)]) hx hb dX1_callsWith_1 rfl hl (by decide) rfl (fun ls hl => ?_)
  refine lv_iconst (v := 0) hx hb dX1_callsWith_2 (by decide) ?_
  refine lv_istore_n (lv' := [(3, .int (0 : Int32)), (2, .int (0 : Int32)), (0, .ref (ad 6)), (1, .int v1)]) hx hb dX1_callsWith_3 rfl hl (by decide) rfl (fun ls hl => ?_)
  exact lp_X1_callsWith_4 ad ta us T sh u hRf hRl C hret   100 v1 (0 : Int32) (0 : Int32) hj _ _ _ V (lv_sub hl [2, 3, 1, 0] rfl))

def q_X1_isQuiet_2 (u : St) (k_2 : Int32 → Int32 → Int32 → Option (Int32)) (v1 : Int32) (v2 : Int32) (v3 : Int32) : Option (Int32) :=
  if (u.1 2) ≤ v3 then some (1 : Int32) else gd v3 10 (if (u.2.1 9 v3.toNatClampNeg) = (0 : Int32) then (j_X6_holds v1 v3).bind (fun r4 => if r4 = (0 : Int32) then nm (v3 + 1) (fun x6 => k_2 v1 v2 x6) else gd v3 10 (if v2 < (u.2.1 8 v3.toNatClampNeg) then nm (v3 + 1) (fun x9 => k_2 v1 v2 x9) else if (0 : Int32) = (0 : Int32) then some (0 : Int32) else nm (v3 + 1) (fun x11 => k_2 v1 v2 x11))) else gd v3 10 (if v2 < (u.2.1 9 v3.toNatClampNeg) then (j_X6_holds v1 v3).bind (fun r14 => if r14 = (0 : Int32) then nm (v3 + 1) (fun x16 => k_2 v1 v2 x16) else gd v3 10 (if v2 < (u.2.1 8 v3.toNatClampNeg) then nm (v3 + 1) (fun x19 => k_2 v1 v2 x19) else if (0 : Int32) = (0 : Int32) then some (0 : Int32) else nm (v3 + 1) (fun x21 => k_2 v1 v2 x21))) else (j_X6_holds v1 v3).bind (fun r22 => if r22 = (0 : Int32) then nm (v3 + 1) (fun x24 => k_2 v1 v2 x24) else gd v3 10 (if v2 < (u.2.1 8 v3.toNatClampNeg) then nm (v3 + 1) (fun x27 => k_2 v1 v2 x27) else if (1 : Int32) = (0 : Int32) then some (0 : Int32) else nm (v3 + 1) (fun x29 => k_2 v1 v2 x29)))))
set_option maxHeartbeats 4000000 in
set_option maxRecDepth 100000 in
theorem b_X1_isQuiet_2 {p : Program} {l : Launch} {e : Env} {R : Room} {s : State} {m : MethodId} {args : Array Value} {below : List Frame} {meth : Method} {c : Code} {A : Nat → Prop} {Q : State → Prop} {D : va_G} {tc : Nat → ClassId} (ad ta : Nat → Nat) (us : Int32) (T : TbT) (sh : Nat) (u : St) (hRf : 1 ≤ R.frames) (hRl : 21 ≤ R.locals) (C : Cx p s m args meth c cX1_isQuiet 5 RX1 (some .boolean)) {x0 : Int32} (hret : RetI p l e R s m args below meth c Q cX1_isQuiet D tc A .boolean (some x0) (fun x : Int32 => x) (fun _ : Int32 => Fw tc ad ta us T sh u)) (k_2 : Int32 → Int32 → Int32 → Option (Int32)) (hk_2 : ∀ (v1 : Int32) (v2 : Int32) (v3 : Int32), k_2 v1 v2 v3 = some x0 → ∀ (H : Heap) (locs : List Loc) (ls : Array Slot), Wd D tc A s H locs (Fw tc ad ta us T sh u) → lv_has ls 5 [(0, .ref (ad 6)), (1, .int v1), (2, .int v2), (3, .int v3)] → W p l e R s m args below meth c H locs 0 0 Q (F0 m 2 ls [])) : ∀ (v1 : Int32) (v2 : Int32) (v3 : Int32), q_X1_isQuiet_2 u k_2 v1 v2 v3 = some x0 → ∀ (H : Heap) (locs : List Loc) (ls : Array Slot), Wd D tc A s H locs (Fw tc ad ta us T sh u) → lv_has ls 5 [(0, .ref (ad 6)), (1, .int v1), (2, .int v2), (3, .int v3)] → W p l e R s m args below meth c H locs 0 0 Q (F0 m 2 ls []) := by
  obtain ⟨hx, hb, hr, hml, hown, hts, hlk, hN⟩ := id C
  intro v1 v2 v3 hj H locs ls V hl
  unfold q_X1_isQuiet_2 at hj
  refine lv_iload_n hx hb dX1_isQuiet_2 rfl (lv_at hl 3 rfl) ?_
  refine lv_aload_n hx hb dX1_isQuiet_3 rfl (lv_at hl 0 rfl) ?_
  refine x_get hx hb hts hown V inX1 6 rfl rfl 2 (by decide) tw_41 rfl rfl dX1_isQuiet_4 ?_
  refine lv_icmp_ge (tgt := 67) hx hb dX1_isQuiet_7 (by decide) (fun c1 => ?_) (fun c1 => ?_)
  · replace hj := ip _ c1 hj
    refine lv_iconst (v := 1) hx hb dX1_isQuiet_67 (by decide) ?_
    exact hret (1 : Int32) hj zn_1 V dX1_isQuiet_68
  · replace hj := iq _ c1 hj
    refine lv_aload_n hx hb dX1_isQuiet_10 rfl (lv_at hl 0 rfl) ?_
    refine x_get hx hb hts hown V inX1 6 rfl rfl 9 (by decide) tw_57 rfl rfl dX1_isQuiet_11 ?_
    refine lv_iload_n hx hb dX1_isQuiet_14 rfl (lv_at hl 3 rfl) ?_
    obtain ⟨i2, hj⟩ := gd_some hj
    refine x_iald hx hb V 12 rfl i2 dX1_isQuiet_15 ?_
    refine lv_if_eq (tgt := 33) hx hb dX1_isQuiet_16 (by decide) (fun c3 => ?_) (fun c3 => ?_)
    · replace hj := ip _ c3 hj
      refine lv_iconst (v := 0) hx hb dX1_isQuiet_33 (by decide) ?_
      refine lv_istore (lv' := [(4, .int (0 : Int32)), (0, .ref (ad 6)), (1, .int v1), (2, .int v2), (3, .int v3)]) hx hb dX1_isQuiet_34 hl (by decide) rfl (fun ls hl => ?_)
      refine lv_iload_n hx hb dX1_isQuiet_36 rfl (lv_at hl 2 rfl) ?_
      refine lv_iload_n hx hb dX1_isQuiet_37 rfl (lv_at hl 4 rfl) ?_
      obtain ⟨r4, hr4, hj⟩ := bd_some hj
      refine x_allI V _ (rg_map _) (x_runSN (n := 2) (rest := []) C V _ (rg_map _) (rg_nd _) (k_X6_holds l D tc (Fw tc ad ta us T sh u) v1 v3 hr4) hN.2.2.2.2.1 tw_326 tw_1 tw_327 (by decide +kernel) ⟨Nat.le_trans (Nat.le_of_ble_eq_true rfl) hRf, Nat.le_trans (Nat.le_of_ble_eq_true rfl) hRl⟩ ⟨Nat.zero_le _, Nat.zero_le _⟩ rfl hl.1 rfl (Nat.le_of_ble_eq_true rfl) dX1_isQuiet_38) (fun H locs V zr4 => ?_)
      replace V : Wd D tc A s H locs (Fw tc ad ta us T sh u) := V
      refine lv_if_eq (tgt := 61) hx hb dX1_isQuiet_41 (by decide) (fun c5 => ?_) (fun c5 => ?_)
      · replace hj := ip _ c5 hj
        obtain ⟨x6, ex6, hj⟩ := nm_some hj
        refine lv_iinc (v := x6) (lv' := [(3, .int x6), (4, .int (0 : Int32)), (0, .ref (ad 6)), (1, .int v1), (2, .int v2)]) hx hb dX1_isQuiet_61 hl (k := 4) rfl (by rw [ex6]; rfl) (by decide) rfl (fun ls hl => ?_)
        refine lv_goto (tgt := 2) hx hb dX1_isQuiet_64 (by decide) ?_
        exact hk_2 v1 v2 x6 hj _ _ _ V (lv_sub hl [2, 3, 4, 0] rfl)
      · replace hj := iq _ c5 hj
        refine lv_aload_n hx hb dX1_isQuiet_44 rfl (lv_at hl 1 rfl) ?_
        refine x_get hx hb hts hown V inX1 6 rfl rfl 8 (by decide) tw_55 rfl rfl dX1_isQuiet_45 ?_
        refine lv_iload_n hx hb dX1_isQuiet_48 rfl (lv_at hl 4 rfl) ?_
        obtain ⟨i7, hj⟩ := gd_some hj
        refine x_iald hx hb V 11 rfl i7 dX1_isQuiet_49 ?_
        refine lv_iload_n hx hb dX1_isQuiet_50 rfl (lv_at hl 3 rfl) ?_
        refine lv_icmp_gt (tgt := 61) hx hb dX1_isQuiet_51 (by decide) (fun c8 => ?_) (fun c8 => ?_)
        · replace hj := ip _ c8 hj
          obtain ⟨x9, ex9, hj⟩ := nm_some hj
          refine lv_iinc (v := x9) (lv' := [(3, .int x9), (4, .int (0 : Int32)), (0, .ref (ad 6)), (1, .int v1), (2, .int v2)]) hx hb dX1_isQuiet_61 hl (k := 4) rfl (by rw [ex9]; rfl) (by decide) rfl (fun ls hl => ?_)
          refine lv_goto (tgt := 2) hx hb dX1_isQuiet_64 (by decide) ?_
          exact hk_2 v1 v2 x9 hj _ _ _ V (lv_sub hl [2, 3, 4, 0] rfl)
        · replace hj := iq _ c8 hj
          refine lv_iload hx hb dX1_isQuiet_54 (lv_at hl 0 rfl) ?_
          refine lv_if_ne (tgt := 61) hx hb dX1_isQuiet_56 (by decide) (fun c10 => ?_) (fun c10 => ?_)
          · replace hj := iq _ c10 hj
            obtain ⟨x11, ex11, hj⟩ := nm_some hj
            refine lv_iinc (v := x11) (lv' := [(3, .int x11), (4, .int (0 : Int32)), (0, .ref (ad 6)), (1, .int v1), (2, .int v2)]) hx hb dX1_isQuiet_61 hl (k := 4) rfl (by rw [ex11]; rfl) (by decide) rfl (fun ls hl => ?_)
            refine lv_goto (tgt := 2) hx hb dX1_isQuiet_64 (by decide) ?_
            exact hk_2 v1 v2 x11 hj _ _ _ V (lv_sub hl [2, 3, 4, 0] rfl)
          · replace hj := ip _ c10 hj
            refine lv_iconst (v := 0) hx hb dX1_isQuiet_59 (by decide) ?_
            exact hret (0 : Int32) hj zn_0 V dX1_isQuiet_60
    · replace hj := iq _ c3 hj
      refine lv_aload_n hx hb dX1_isQuiet_19 rfl (lv_at hl 0 rfl) ?_
      refine x_get hx hb hts hown V inX1 6 rfl rfl 9 (by decide) tw_57 rfl rfl dX1_isQuiet_20 ?_
      refine lv_iload_n hx hb dX1_isQuiet_23 rfl (lv_at hl 3 rfl) ?_
      obtain ⟨i12, hj⟩ := gd_some hj
      refine x_iald hx hb V 12 rfl i12 dX1_isQuiet_24 ?_
      refine lv_iload_n hx hb dX1_isQuiet_25 rfl (lv_at hl 2 rfl) ?_
      refine lv_icmp_gt (tgt := 33) hx hb dX1_isQuiet_26 (by decide) (fun c13 => ?_) (fun c13 => ?_)
      · replace hj := ip _ c13 hj
        refine lv_iconst (v := 0) hx hb dX1_isQuiet_33 (by decide) ?_
        refine lv_istore (lv' := [(4, .int (0 : Int32)), (0, .ref (ad 6)), (1, .int v1), (2, .int v2), (3, .int v3)]) hx hb dX1_isQuiet_34 hl (by decide) rfl (fun ls hl => ?_)
        refine lv_iload_n hx hb dX1_isQuiet_36 rfl (lv_at hl 2 rfl) ?_
        refine lv_iload_n hx hb dX1_isQuiet_37 rfl (lv_at hl 4 rfl) ?_
        obtain ⟨r14, hr14, hj⟩ := bd_some hj
        refine x_allI V _ (rg_map _) (x_runSN (n := 2) (rest := []) C V _ (rg_map _) (rg_nd _) (k_X6_holds l D tc (Fw tc ad ta us T sh u) v1 v3 hr14) hN.2.2.2.2.1 tw_326 tw_1 tw_327 (by decide +kernel) ⟨Nat.le_trans (Nat.le_of_ble_eq_true rfl) hRf, Nat.le_trans (Nat.le_of_ble_eq_true rfl) hRl⟩ ⟨Nat.zero_le _, Nat.zero_le _⟩ rfl hl.1 rfl (Nat.le_of_ble_eq_true rfl) dX1_isQuiet_38) (fun H locs V zr14 => ?_)
        replace V : Wd D tc A s H locs (Fw tc ad ta us T sh u) := V
        refine lv_if_eq (tgt := 61) hx hb dX1_isQuiet_41 (by decide) (fun c15 => ?_) (fun c15 => ?_)
        · replace hj := ip _ c15 hj
          obtain ⟨x16, ex16, hj⟩ := nm_some hj
          refine lv_iinc (v := x16) (lv' := [(3, .int x16), (4, .int (0 : Int32)), (0, .ref (ad 6)), (1, .int v1), (2, .int v2)]) hx hb dX1_isQuiet_61 hl (k := 4) rfl (by rw [ex16]; rfl) (by decide) rfl (fun ls hl => ?_)
          refine lv_goto (tgt := 2) hx hb dX1_isQuiet_64 (by decide) ?_
          exact hk_2 v1 v2 x16 hj _ _ _ V (lv_sub hl [2, 3, 4, 0] rfl)
        · replace hj := iq _ c15 hj
          refine lv_aload_n hx hb dX1_isQuiet_44 rfl (lv_at hl 1 rfl) ?_
          refine x_get hx hb hts hown V inX1 6 rfl rfl 8 (by decide) tw_55 rfl rfl dX1_isQuiet_45 ?_
          refine lv_iload_n hx hb dX1_isQuiet_48 rfl (lv_at hl 4 rfl) ?_
          obtain ⟨i17, hj⟩ := gd_some hj
          refine x_iald hx hb V 11 rfl i17 dX1_isQuiet_49 ?_
          refine lv_iload_n hx hb dX1_isQuiet_50 rfl (lv_at hl 3 rfl) ?_
          refine lv_icmp_gt (tgt := 61) hx hb dX1_isQuiet_51 (by decide) (fun c18 => ?_) (fun c18 => ?_)
          · replace hj := ip _ c18 hj
            obtain ⟨x19, ex19, hj⟩ := nm_some hj
            refine lv_iinc (v := x19) (lv' := [(3, .int x19), (4, .int (0 : Int32)), (0, .ref (ad 6)), (1, .int v1), (2, .int v2)]) hx hb dX1_isQuiet_61 hl (k := 4) rfl (by rw [ex19]; rfl) (by decide) rfl (fun ls hl => ?_)
            refine lv_goto (tgt := 2) hx hb dX1_isQuiet_64 (by decide) ?_
            exact hk_2 v1 v2 x19 hj _ _ _ V (lv_sub hl [2, 3, 4, 0] rfl)
          · replace hj := iq _ c18 hj
            refine lv_iload hx hb dX1_isQuiet_54 (lv_at hl 0 rfl) ?_
            refine lv_if_ne (tgt := 61) hx hb dX1_isQuiet_56 (by decide) (fun c20 => ?_) (fun c20 => ?_)
            · replace hj := iq _ c20 hj
              obtain ⟨x21, ex21, hj⟩ := nm_some hj
              refine lv_iinc (v := x21) (lv' := [(3, .int x21), (4, .int (0 : Int32)), (0, .ref (ad 6)), (1, .int v1), (2, .int v2)]) hx hb dX1_isQuiet_61 hl (k := 4) rfl (by rw [ex21]; rfl) (by decide) rfl (fun ls hl => ?_)
              refine lv_goto (tgt := 2) hx hb dX1_isQuiet_64 (by decide) ?_
              exact hk_2 v1 v2 x21 hj _ _ _ V (lv_sub hl [2, 3, 4, 0] rfl)
            · replace hj := ip _ c20 hj
              refine lv_iconst (v := 0) hx hb dX1_isQuiet_59 (by decide) ?_
              exact hret (0 : Int32) hj zn_0 V dX1_isQuiet_60
      · replace hj := iq _ c13 hj
        refine lv_iconst (v := 1) hx hb dX1_isQuiet_29 (by decide) ?_
        refine lv_goto (tgt := 34) hx hb dX1_isQuiet_30 (by decide) ?_
        refine lv_istore (lv' := [(4, .int (1 : Int32)), (0, .ref (ad 6)), (1, .int v1), (2, .int v2), (3, .int v3)]) hx hb dX1_isQuiet_34 hl (by decide) rfl (fun ls hl => ?_)
        refine lv_iload_n hx hb dX1_isQuiet_36 rfl (lv_at hl 2 rfl) ?_
        refine lv_iload_n hx hb dX1_isQuiet_37 rfl (lv_at hl 4 rfl) ?_
        obtain ⟨r22, hr22, hj⟩ := bd_some hj
        refine x_allI V _ (rg_map _) (x_runSN (n := 2) (rest := []) C V _ (rg_map _) (rg_nd _) (k_X6_holds l D tc (Fw tc ad ta us T sh u) v1 v3 hr22) hN.2.2.2.2.1 tw_326 tw_1 tw_327 (by decide +kernel) ⟨Nat.le_trans (Nat.le_of_ble_eq_true rfl) hRf, Nat.le_trans (Nat.le_of_ble_eq_true rfl) hRl⟩ ⟨Nat.zero_le _, Nat.zero_le _⟩ rfl hl.1 rfl (Nat.le_of_ble_eq_true rfl) dX1_isQuiet_38) (fun H locs V zr22 => ?_)
        replace V : Wd D tc A s H locs (Fw tc ad ta us T sh u) := V
        refine lv_if_eq (tgt := 61) hx hb dX1_isQuiet_41 (by decide) (fun c23 => ?_) (fun c23 => ?_)
        · replace hj := ip _ c23 hj
          obtain ⟨x24, ex24, hj⟩ := nm_some hj
          refine lv_iinc (v := x24) (lv' := [(3, .int x24), (4, .int (1 : Int32)), (0, .ref (ad 6)), (1, .int v1), (2, .int v2)]) hx hb dX1_isQuiet_61 hl (k := 4) rfl (by rw [ex24]; rfl) (by decide) rfl (fun ls hl => ?_)
          refine lv_goto (tgt := 2) hx hb dX1_isQuiet_64 (by decide) ?_
          exact hk_2 v1 v2 x24 hj _ _ _ V (lv_sub hl [2, 3, 4, 0] rfl)
        · replace hj := iq _ c23 hj
          refine lv_aload_n hx hb dX1_isQuiet_44 rfl (lv_at hl 1 rfl) ?_
          refine x_get hx hb hts hown V inX1 6 rfl rfl 8 (by decide) tw_55 rfl rfl dX1_isQuiet_45 ?_
          refine lv_iload_n hx hb dX1_isQuiet_48 rfl (lv_at hl 4 rfl) ?_
          obtain ⟨i25, hj⟩ := gd_some hj
          refine x_iald hx hb V 11 rfl i25 dX1_isQuiet_49 ?_
          refine lv_iload_n hx hb dX1_isQuiet_50 rfl (lv_at hl 3 rfl) ?_
          refine lv_icmp_gt (tgt := 61) hx hb dX1_isQuiet_51 (by decide) (fun c26 => ?_) (fun c26 => ?_)
          · replace hj := ip _ c26 hj
            obtain ⟨x27, ex27, hj⟩ := nm_some hj
            refine lv_iinc (v := x27) (lv' := [(3, .int x27), (4, .int (1 : Int32)), (0, .ref (ad 6)), (1, .int v1), (2, .int v2)]) hx hb dX1_isQuiet_61 hl (k := 4) rfl (by rw [ex27]; rfl) (by decide) rfl (fun ls hl => ?_)
            refine lv_goto (tgt := 2) hx hb dX1_isQuiet_64 (by decide) ?_
            exact hk_2 v1 v2 x27 hj _ _ _ V (lv_sub hl [2, 3, 4, 0] rfl)
          · replace hj := iq _ c26 hj
            refine lv_iload hx hb dX1_isQuiet_54 (lv_at hl 0 rfl) ?_
            refine lv_if_ne (tgt := 61) hx hb dX1_isQuiet_56 (by decide) (fun c28 => ?_) (fun c28 => ?_)
            · replace hj := iq _ c28 hj
              obtain ⟨x29, ex29, hj⟩ := nm_some hj
              refine lv_iinc (v := x29) (lv' := [(3, .int x29), (4, .int (1 : Int32)), (0, .ref (ad 6)), (1, .int v1), (2, .int v2)]) hx hb dX1_isQuiet_61 hl (k := 4) rfl (by rw [ex29]; rfl) (by decide) rfl (fun ls hl => ?_)
              refine lv_goto (tgt := 2) hx hb dX1_isQuiet_64 (by decide) ?_
              exact hk_2 v1 v2 x29 hj _ _ _ V (lv_sub hl [2, 3, 4, 0] rfl)
            · replace hj := ip _ c28 hj
              refine lv_iconst (v := 0) hx hb dX1_isQuiet_59 (by decide) ?_
              exact hret (0 : Int32) hj zn_0 V dX1_isQuiet_60
def j_X1_isQuiet_2 (u : St) : Nat → Int32 → Int32 → Int32 → Option (Int32)
  | 0 => fun _ _ _ => none
  | n + 1 => q_X1_isQuiet_2 u (j_X1_isQuiet_2 u n)
theorem lp_X1_isQuiet_2 {p : Program} {l : Launch} {e : Env} {R : Room} {s : State} {m : MethodId} {args : Array Value} {below : List Frame} {meth : Method} {c : Code} {A : Nat → Prop} {Q : State → Prop} {D : va_G} {tc : Nat → ClassId} (ad ta : Nat → Nat) (us : Int32) (T : TbT) (sh : Nat) (u : St) (hRf : 1 ≤ R.frames) (hRl : 21 ≤ R.locals) (C : Cx p s m args meth c cX1_isQuiet 5 RX1 (some .boolean)) {x0 : Int32} (hret : RetI p l e R s m args below meth c Q cX1_isQuiet D tc A .boolean (some x0) (fun x : Int32 => x) (fun _ : Int32 => Fw tc ad ta us T sh u))  : ∀ (n : Nat), ∀ (v1 : Int32) (v2 : Int32) (v3 : Int32), j_X1_isQuiet_2 u n v1 v2 v3 = some x0 → ∀ (H : Heap) (locs : List Loc) (ls : Array Slot), Wd D tc A s H locs (Fw tc ad ta us T sh u) → lv_has ls 5 [(0, .ref (ad 6)), (1, .int v1), (2, .int v2), (3, .int v3)] → W p l e R s m args below meth c H locs 0 0 Q (F0 m 2 ls []) := by
  intro n
  induction n with
  | zero =>
    intro v1 v2 v3 hj
    have hj : (none : Option (Int32)) = some x0 := hj
    cases hj
  | succ n ih =>
    intro v1 v2 v3 hj
    exact b_X1_isQuiet_2 ad ta us T sh u hRf hRl C hret   (j_X1_isQuiet_2 u n) ih v1 v2 v3 hj
def j_X1_isQuiet (u : St) (v1 : Int32) (v2 : Int32) : Option (Int32) :=
  j_X1_isQuiet_2 u 100 v1 v2 (0 : Int32)
set_option maxHeartbeats 4000000 in
set_option maxRecDepth 100000 in
theorem k_X1_isQuiet (l : Launch) (D : va_G) (tc : Nat → ClassId) (ad ta : Nat → Nat) (us : Int32) (T : TbT) (sh : Nat) (u : St) (v1 : Int32) (v2 : Int32) {x0 : Int32} (hj : j_X1_isQuiet u v1 v2 = some x0) : MetD l D tc yX1_isQuiet cX1_isQuiet 5 (some .boolean) 1 21 [.ref (ad 6), .int v1, .int v2] (Fw tc ad ta us T sh u) (some (.int x0)) (Fw tc ad ta us T sh u) :=
  x_entI (fun x : Int32 => x) (fun _ : Int32 => Fw tc ad ta us T sh u) (by decide) (own := RX1) rfl (Nat.le_of_ble_eq_true rfl) (fun p e s m args below meth c A Q ls C V hl hret => by
  obtain ⟨hx, hb, hr, hml, hown, hts, hlk, hN⟩ := id C
  have hRf : 1 ≤ (rmz 1 0 0 21).frames := Nat.le_refl _
  have hRl : 21 ≤ (rmz 1 0 0 21).locals := Nat.le_refl _
  generalize (rmz 1 0 0 21) = R at hret hRf hRl ⊢
  generalize s.heap = H at V ⊢
  generalize ([] : List Loc) = locs at V ⊢
  have hl : lv_has ls 5 [(0, .ref (ad 6)), (1, .int v1), (2, .int v2)] := hl
  unfold j_X1_isQuiet at hj
  refine lv_iconst (v := 0) hx hb dX1_isQuiet_0 (by decide) ?_
  refine lv_istore_n (lv' := [(3, .int (0 : Int32)), (0, .ref (ad 6)), (1, .int v1), (2, .int v2)]) hx hb dX1_isQuiet_1 rfl hl (by decide) rfl (fun ls hl => ?_)
  exact lp_X1_isQuiet_2 ad ta us T sh u hRf hRl C hret   100 v1 v2 (0 : Int32) hj _ _ _ V (lv_sub hl [1, 2, 3, 0] rfl))

def q_X1_quietTicks_4 (u : St) (k_4 : Int32 → Int32 → Int32 → Option (Int32)) (v1 : Int32) (v2 : Int32) (v3 : Int32) : Option (Int32) :=
  if (u.1 3) < v3 then some v2 else (j_X1_isQuiet u v1 v3).bind (fun r2 => if r2 = (0 : Int32) then nm (v3 + 1) (fun x4 => k_4 v1 v2 x4) else nm (v2 ||| ((1 : Int32) <<< (v3 &&& 31))) (fun x5 => nm (v3 + 1) (fun x6 => k_4 v1 x5 x6)))
set_option maxHeartbeats 4000000 in
set_option maxRecDepth 100000 in
theorem b_X1_quietTicks_4 {p : Program} {l : Launch} {e : Env} {R : Room} {s : State} {m : MethodId} {args : Array Value} {below : List Frame} {meth : Method} {c : Code} {A : Nat → Prop} {Q : State → Prop} {D : va_G} {tc : Nat → ClassId} (ad ta : Nat → Nat) (us : Int32) (T : TbT) (sh : Nat) (u : St) (hRf : 2 ≤ R.frames) (hRl : 45 ≤ R.locals) (C : Cx p s m args meth c cX1_quietTicks 4 RX1 (some .int)) {x0 : Int32} (hret : RetI p l e R s m args below meth c Q cX1_quietTicks D tc A .int (some x0) (fun x : Int32 => x) (fun _ : Int32 => Fw tc ad ta us T sh u)) (k_4 : Int32 → Int32 → Int32 → Option (Int32)) (hk_4 : ∀ (v1 : Int32) (v2 : Int32) (v3 : Int32), k_4 v1 v2 v3 = some x0 → ∀ (H : Heap) (locs : List Loc) (ls : Array Slot), Wd D tc A s H locs (Fw tc ad ta us T sh u) → lv_has ls 4 [(0, .ref (ad 6)), (1, .int v1), (2, .int v2), (3, .int v3)] → W p l e R s m args below meth c H locs 0 0 Q (F0 m 4 ls [])) : ∀ (v1 : Int32) (v2 : Int32) (v3 : Int32), q_X1_quietTicks_4 u k_4 v1 v2 v3 = some x0 → ∀ (H : Heap) (locs : List Loc) (ls : Array Slot), Wd D tc A s H locs (Fw tc ad ta us T sh u) → lv_has ls 4 [(0, .ref (ad 6)), (1, .int v1), (2, .int v2), (3, .int v3)] → W p l e R s m args below meth c H locs 0 0 Q (F0 m 4 ls []) := by
  obtain ⟨hx, hb, hr, hml, hown, hts, hlk, hN⟩ := id C
  intro v1 v2 v3 hj H locs ls V hl
  unfold q_X1_quietTicks_4 at hj
  refine lv_iload_n hx hb dX1_quietTicks_4 rfl (lv_at hl 3 rfl) ?_
  refine lv_aload_n hx hb dX1_quietTicks_5 rfl (lv_at hl 0 rfl) ?_
  refine x_get hx hb hts hown V inX1 6 rfl rfl 3 (by decide) tw_44 rfl rfl dX1_quietTicks_6 ?_
  refine lv_icmp_gt (tgt := 33) hx hb dX1_quietTicks_9 (by decide) (fun c1 => ?_) (fun c1 => ?_)
  · replace hj := ip _ c1 hj
    refine lv_iload_n hx hb dX1_quietTicks_33 rfl (lv_at hl 2 rfl) ?_
    exact hret v2 hj rfl V dX1_quietTicks_34
  · replace hj := iq _ c1 hj
    refine lv_aload_n hx hb dX1_quietTicks_12 rfl (lv_at hl 0 rfl) ?_
    refine lv_iload_n hx hb dX1_quietTicks_13 rfl (lv_at hl 1 rfl) ?_
    refine lv_iload_n hx hb dX1_quietTicks_14 rfl (lv_at hl 3 rfl) ?_
    obtain ⟨r2, hr2, hj⟩ := bd_some hj
    refine x_allI V _ (rg_map _) (x_runV (n := 2) (rest := []) C V _ (rg_map _) (rg_nd _) (k_X1_isQuiet l D tc ad ta us T sh u v1 v3 hr2) tw_321 tw_323 tp_3 tw_3 tw_324 (by decide +kernel) ⟨Nat.le_trans (Nat.le_of_ble_eq_true rfl) hRf, Nat.le_trans (Nat.le_of_ble_eq_true rfl) hRl⟩ ⟨Nat.zero_le _, Nat.zero_le _⟩ 6 1 rfl rfl rfl hl.1 rfl (Nat.le_of_ble_eq_true rfl) dX1_quietTicks_15) (fun H locs V zr2 => ?_)
    replace V : Wd D tc A s H locs (Fw tc ad ta us T sh u) := V
    refine lv_if_eq (tgt := 27) hx hb dX1_quietTicks_18 (by decide) (fun c3 => ?_) (fun c3 => ?_)
    · replace hj := ip _ c3 hj
      obtain ⟨x4, ex4, hj⟩ := nm_some hj
      refine lv_iinc (v := x4) (lv' := [(3, .int x4), (0, .ref (ad 6)), (1, .int v1), (2, .int v2)]) hx hb dX1_quietTicks_27 hl (k := 3) rfl (by rw [ex4]; rfl) (by decide) rfl (fun ls hl => ?_)
      refine lv_goto (tgt := 4) hx hb dX1_quietTicks_30 (by decide) ?_
      exact hk_4 v1 v2 x4 hj _ _ _ V (lv_sub hl [1, 2, 3, 0] rfl)
    · replace hj := iq _ c3 hj
      refine lv_iload_n hx hb dX1_quietTicks_21 rfl (lv_at hl 2 rfl) ?_
      refine lv_iconst (v := 1) hx hb dX1_quietTicks_22 (by decide) ?_
      refine lv_iload_n hx hb dX1_quietTicks_23 rfl (lv_at hl 3 rfl) ?_
      refine lv_ishl hx hb dX1_quietTicks_24 ?_
      refine lv_ior hx hb dX1_quietTicks_25 ?_
      obtain ⟨x5, ex5, hj⟩ := nm_some hj
      refine x_topi ex5 ?_
      refine lv_istore_n (lv' := [(2, .int x5), (0, .ref (ad 6)), (1, .int v1), (3, .int v3)]) hx hb dX1_quietTicks_26 rfl hl (by decide) rfl (fun ls hl => ?_)
      obtain ⟨x6, ex6, hj⟩ := nm_some hj
      refine lv_iinc (v := x6) (lv' := [(3, .int x6), (2, .int x5), (0, .ref (ad 6)), (1, .int v1)]) hx hb dX1_quietTicks_27 hl (k := 3) rfl (by rw [ex6]; rfl) (by decide) rfl (fun ls hl => ?_)
      refine lv_goto (tgt := 4) hx hb dX1_quietTicks_30 (by decide) ?_
      exact hk_4 v1 x5 x6 hj _ _ _ V (lv_sub hl [2, 3, 1, 0] rfl)
def j_X1_quietTicks_4 (u : St) : Nat → Int32 → Int32 → Int32 → Option (Int32)
  | 0 => fun _ _ _ => none
  | n + 1 => q_X1_quietTicks_4 u (j_X1_quietTicks_4 u n)
theorem lp_X1_quietTicks_4 {p : Program} {l : Launch} {e : Env} {R : Room} {s : State} {m : MethodId} {args : Array Value} {below : List Frame} {meth : Method} {c : Code} {A : Nat → Prop} {Q : State → Prop} {D : va_G} {tc : Nat → ClassId} (ad ta : Nat → Nat) (us : Int32) (T : TbT) (sh : Nat) (u : St) (hRf : 2 ≤ R.frames) (hRl : 45 ≤ R.locals) (C : Cx p s m args meth c cX1_quietTicks 4 RX1 (some .int)) {x0 : Int32} (hret : RetI p l e R s m args below meth c Q cX1_quietTicks D tc A .int (some x0) (fun x : Int32 => x) (fun _ : Int32 => Fw tc ad ta us T sh u))  : ∀ (n : Nat), ∀ (v1 : Int32) (v2 : Int32) (v3 : Int32), j_X1_quietTicks_4 u n v1 v2 v3 = some x0 → ∀ (H : Heap) (locs : List Loc) (ls : Array Slot), Wd D tc A s H locs (Fw tc ad ta us T sh u) → lv_has ls 4 [(0, .ref (ad 6)), (1, .int v1), (2, .int v2), (3, .int v3)] → W p l e R s m args below meth c H locs 0 0 Q (F0 m 4 ls []) := by
  intro n
  induction n with
  | zero =>
    intro v1 v2 v3 hj
    have hj : (none : Option (Int32)) = some x0 := hj
    cases hj
  | succ n ih =>
    intro v1 v2 v3 hj
    exact b_X1_quietTicks_4 ad ta us T sh u hRf hRl C hret   (j_X1_quietTicks_4 u n) ih v1 v2 v3 hj
def j_X1_quietTicks (u : St) (v1 : Int32) : Option (Int32) :=
  j_X1_quietTicks_4 u 100 v1 (0 : Int32) (1 : Int32)
set_option maxHeartbeats 4000000 in
set_option maxRecDepth 100000 in
theorem k_X1_quietTicks (l : Launch) (D : va_G) (tc : Nat → ClassId) (ad ta : Nat → Nat) (us : Int32) (T : TbT) (sh : Nat) (u : St) (v1 : Int32) {x0 : Int32} (hj : j_X1_quietTicks u v1 = some x0) : MetD l D tc yX1_quietTicks cX1_quietTicks 4 (some .int) 2 45 [.ref (ad 6), .int v1] (Fw tc ad ta us T sh u) (some (.int x0)) (Fw tc ad ta us T sh u) :=
  x_entI (fun x : Int32 => x) (fun _ : Int32 => Fw tc ad ta us T sh u) (by decide) (own := RX1) rfl (Nat.le_of_ble_eq_true rfl) (fun p e s m args below meth c A Q ls C V hl hret => by
  obtain ⟨hx, hb, hr, hml, hown, hts, hlk, hN⟩ := id C
  have hRf : 2 ≤ (rmz 2 0 0 45).frames := Nat.le_refl _
  have hRl : 45 ≤ (rmz 2 0 0 45).locals := Nat.le_refl _
  generalize (rmz 2 0 0 45) = R at hret hRf hRl ⊢
  generalize s.heap = H at V ⊢
  generalize ([] : List Loc) = locs at V ⊢
  have hl : lv_has ls 4 [(0, .ref (ad 6)), (1, .int v1)] := hl
  unfold j_X1_quietTicks at hj
  refine lv_iconst (v := 0) hx hb dX1_quietTicks_0 (by decide) ?_
  refine lv_istore_n (lv' := [(2, .int (0 : Int32)), (0, .ref (ad 6)), (1, .int v1)]) hx hb dX1_quietTicks_1 rfl hl (by decide) rfl (fun ls hl => ?_)
  refine lv_iconst (v := 1) hx hb dX1_quietTicks_2 (by decide) ?_
  refine lv_istore_n (lv' := [(3, .int (1 : Int32)), (2, .int (0 : Int32)), (0, .ref (ad 6)), (1, .int v1)]) hx hb dX1_quietTicks_3 rfl hl (by decide) rfl (fun ls hl => ?_)
  exact lp_X1_quietTicks_4 ad ta us T sh u hRf hRl C hret   100 v1 (0 : Int32) (1 : Int32) hj _ _ _ V (lv_sub hl [2, 3, 1, 0] rfl))

def j_X1_isAhead (u : St) (v1 : Int32) (v2 : Int32) (v3 : Int32) (v4 : Int32) : Option (Int32) :=
  (j_X1_isOpen u v3).bind (fun r1 => if r1 = (0 : Int32) then gd v3 10 (gd v4 10 (if (u.2.1 9 v3.toNatClampNeg) < (u.2.1 8 v4.toNatClampNeg) then if v1 = (0 : Int32) then some (1 : Int32) else gd v3 10 (gd v4 10 (if (u.2.1 4 v3.toNatClampNeg) = (u.2.1 4 v4.toNatClampNeg) then some (1 : Int32) else gd v4 10 (gd v3 10 (nm (((1 : Int32) <<< ((u.2.1 8 v4.toNatClampNeg) &&& 31)) - ((1 : Int32) <<< ((u.2.1 9 v3.toNatClampNeg) &&& 31))) (fun x12 => if v1 = (1 : Int32) then if (v2 &&& x12) = (0 : Int32) then some (0 : Int32) else some (1 : Int32) else some (0 : Int32)))))) else some (0 : Int32))) else some (0 : Int32))
set_option maxHeartbeats 4000000 in
set_option maxRecDepth 100000 in
theorem k_X1_isAhead (l : Launch) (D : va_G) (tc : Nat → ClassId) (ad ta : Nat → Nat) (us : Int32) (T : TbT) (sh : Nat) (u : St) (v1 : Int32) (v2 : Int32) (v3 : Int32) (v4 : Int32) {x0 : Int32} (hj : j_X1_isAhead u v1 v2 v3 v4 = some x0) : MetD l D tc yX1_isAhead cX1_isAhead 6 (some .boolean) 2 42 [.ref (ad 6), .int v1, .int v2, .int v3, .int v4] (Fw tc ad ta us T sh u) (some (.int x0)) (Fw tc ad ta us T sh u) :=
  x_entI (fun x : Int32 => x) (fun _ : Int32 => Fw tc ad ta us T sh u) (by decide) (own := RX1) rfl (Nat.le_of_ble_eq_true rfl) (fun p e s m args below meth c A Q ls C V hl hret => by
  obtain ⟨hx, hb, hr, hml, hown, hts, hlk, hN⟩ := id C
  have hRf : 2 ≤ (rmz 2 0 0 42).frames := Nat.le_refl _
  have hRl : 42 ≤ (rmz 2 0 0 42).locals := Nat.le_refl _
  generalize (rmz 2 0 0 42) = R at hret hRf hRl ⊢
  generalize s.heap = H at V ⊢
  generalize ([] : List Loc) = locs at V ⊢
  have hl : lv_has ls 6 [(0, .ref (ad 6)), (1, .int v1), (2, .int v2), (3, .int v3), (4, .int v4)] := hl
  unfold j_X1_isAhead at hj
  refine lv_aload_n hx hb dX1_isAhead_0 rfl (lv_at hl 0 rfl) ?_
  refine lv_iload_n hx hb dX1_isAhead_1 rfl (lv_at hl 3 rfl) ?_
  obtain ⟨r1, hr1, hj⟩ := bd_some hj
  refine x_allI V _ (rg_map _) (x_runV (n := 1) (rest := []) C V _ (rg_map _) (rg_nd _) (k_X1_isOpen l D tc ad ta us T sh u v3 hr1) tw_332 tw_267 tw_268 tw_3 tw_269 (by decide +kernel) ⟨Nat.le_trans (Nat.le_of_ble_eq_true rfl) hRf, Nat.le_trans (Nat.le_of_ble_eq_true rfl) hRl⟩ ⟨Nat.zero_le _, Nat.zero_le _⟩ 6 1 rfl rfl rfl hl.1 rfl (Nat.le_of_ble_eq_true rfl) dX1_isAhead_2) (fun H locs V zr1 => ?_)
  replace V : Wd D tc A s H locs (Fw tc ad ta us T sh u) := V
  refine lv_if_ne (tgt := 24) hx hb dX1_isAhead_5 (by decide) (fun c2 => ?_) (fun c2 => ?_)
  · replace hj := iq _ c2 hj
    refine lv_iconst (v := 0) hx hb dX1_isAhead_24 (by decide) ?_
    exact hret (0 : Int32) hj zn_0 V dX1_isAhead_25
  · replace hj := ip _ c2 hj
    refine lv_aload_n hx hb dX1_isAhead_8 rfl (lv_at hl 0 rfl) ?_
    refine x_get hx hb hts hown V inX1 6 rfl rfl 9 (by decide) tw_57 rfl rfl dX1_isAhead_9 ?_
    refine lv_iload_n hx hb dX1_isAhead_12 rfl (lv_at hl 3 rfl) ?_
    obtain ⟨i3, hj⟩ := gd_some hj
    refine x_iald hx hb V 12 rfl i3 dX1_isAhead_13 ?_
    refine lv_aload_n hx hb dX1_isAhead_14 rfl (lv_at hl 0 rfl) ?_
    refine x_get hx hb hts hown V inX1 6 rfl rfl 8 (by decide) tw_55 rfl rfl dX1_isAhead_15 ?_
    refine lv_iload hx hb dX1_isAhead_18 (lv_at hl 4 rfl) ?_
    obtain ⟨i4, hj⟩ := gd_some hj
    refine x_iald hx hb V 11 rfl i4 dX1_isAhead_20 ?_
    refine lv_icmp_lt (tgt := 26) hx hb dX1_isAhead_21 (by decide) (fun c5 => ?_) (fun c5 => ?_)
    · replace hj := ip _ c5 hj
      refine lv_iload_n hx hb dX1_isAhead_26 rfl (lv_at hl 1 rfl) ?_
      refine lv_if_eq (tgt := 46) hx hb dX1_isAhead_27 (by decide) (fun c6 => ?_) (fun c6 => ?_)
      · replace hj := ip _ c6 hj
        refine lv_iconst (v := 1) hx hb dX1_isAhead_46 (by decide) ?_
        exact hret (1 : Int32) hj zn_1 V dX1_isAhead_47
      · replace hj := iq _ c6 hj
        refine lv_aload_n hx hb dX1_isAhead_30 rfl (lv_at hl 0 rfl) ?_
        refine x_get hx hb hts hown V inX1 6 rfl rfl 4 (by decide) tw_46 rfl rfl dX1_isAhead_31 ?_
        refine lv_iload_n hx hb dX1_isAhead_34 rfl (lv_at hl 3 rfl) ?_
        obtain ⟨i7, hj⟩ := gd_some hj
        refine x_iald hx hb V 7 rfl i7 dX1_isAhead_35 ?_
        refine lv_aload_n hx hb dX1_isAhead_36 rfl (lv_at hl 0 rfl) ?_
        refine x_get hx hb hts hown V inX1 6 rfl rfl 4 (by decide) tw_46 rfl rfl dX1_isAhead_37 ?_
        refine lv_iload hx hb dX1_isAhead_40 (lv_at hl 4 rfl) ?_
        obtain ⟨i8, hj⟩ := gd_some hj
        refine x_iald hx hb V 7 rfl i8 dX1_isAhead_42 ?_
        refine lv_icmp_ne (tgt := 48) hx hb dX1_isAhead_43 (by decide) (fun c9 => ?_) (fun c9 => ?_)
        · replace hj := iq _ c9 hj
          refine lv_iconst (v := 1) hx hb dX1_isAhead_48 (by decide) ?_
          refine lv_aload_n hx hb dX1_isAhead_49 rfl (lv_at hl 0 rfl) ?_
          refine x_get hx hb hts hown V inX1 6 rfl rfl 8 (by decide) tw_55 rfl rfl dX1_isAhead_50 ?_
          refine lv_iload hx hb dX1_isAhead_53 (lv_at hl 4 rfl) ?_
          obtain ⟨i10, hj⟩ := gd_some hj
          refine x_iald hx hb V 11 rfl i10 dX1_isAhead_55 ?_
          refine lv_ishl hx hb dX1_isAhead_56 ?_
          refine lv_iconst (v := 1) hx hb dX1_isAhead_57 (by decide) ?_
          refine lv_aload_n hx hb dX1_isAhead_58 rfl (lv_at hl 0 rfl) ?_
          refine x_get hx hb hts hown V inX1 6 rfl rfl 9 (by decide) tw_57 rfl rfl dX1_isAhead_59 ?_
          refine lv_iload_n hx hb dX1_isAhead_62 rfl (lv_at hl 3 rfl) ?_
          obtain ⟨i11, hj⟩ := gd_some hj
          refine x_iald hx hb V 12 rfl i11 dX1_isAhead_63 ?_
          refine lv_ishl hx hb dX1_isAhead_64 ?_
          refine lv_isub hx hb dX1_isAhead_65 ?_
          obtain ⟨x12, ex12, hj⟩ := nm_some hj
          refine x_topi ex12 ?_
          refine lv_istore (lv' := [(5, .int x12), (0, .ref (ad 6)), (1, .int v1), (2, .int v2), (3, .int v3), (4, .int v4)]) hx hb dX1_isAhead_66 hl (by decide) rfl (fun ls hl => ?_)
          refine lv_iload_n hx hb dX1_isAhead_68 rfl (lv_at hl 2 rfl) ?_
          refine lv_iconst (v := 1) hx hb dX1_isAhead_69 (by decide) ?_
          refine lv_icmp_ne (tgt := 84) hx hb dX1_isAhead_70 (by decide) (fun c13 => ?_) (fun c13 => ?_)
          · replace hj := iq _ c13 hj
            refine lv_iconst (v := 0) hx hb dX1_isAhead_84 (by decide) ?_
            exact hret (0 : Int32) hj zn_0 V dX1_isAhead_85
          · replace hj := ip _ c13 hj
            refine lv_iload_n hx hb dX1_isAhead_73 rfl (lv_at hl 3 rfl) ?_
            refine lv_iload hx hb dX1_isAhead_74 (lv_at hl 0 rfl) ?_
            refine lv_iand hx hb dX1_isAhead_76 ?_
            refine lv_if_eq (tgt := 84) hx hb dX1_isAhead_77 (by decide) (fun c14 => ?_) (fun c14 => ?_)
            · replace hj := ip _ c14 hj
              refine lv_iconst (v := 0) hx hb dX1_isAhead_84 (by decide) ?_
              exact hret (0 : Int32) hj zn_0 V dX1_isAhead_85
            · replace hj := iq _ c14 hj
              refine lv_iconst (v := 1) hx hb dX1_isAhead_80 (by decide) ?_
              refine lv_goto (tgt := 85) hx hb dX1_isAhead_81 (by decide) ?_
              exact hret (1 : Int32) hj zn_1 V dX1_isAhead_85
        · replace hj := ip _ c9 hj
          refine lv_iconst (v := 1) hx hb dX1_isAhead_46 (by decide) ?_
          exact hret (1 : Int32) hj zn_1 V dX1_isAhead_47
    · replace hj := iq _ c5 hj
      refine lv_iconst (v := 0) hx hb dX1_isAhead_24 (by decide) ?_
      exact hret (0 : Int32) hj zn_0 V dX1_isAhead_25)

def j_X2_forget (u : St) : Option (St) :=
  nm (sI u 23 ((u.1 23) + (1 : Int32))) (fun u1 => some u1)
set_option maxHeartbeats 4000000 in
set_option maxRecDepth 100000 in
theorem k_X2_forget (l : Launch) (D : va_G) (tc : Nat → ClassId) (ad ta : Nat → Nat) (us : Int32) (T : TbT) (sh : Nat) (u : St) {x0 : St} (hj : j_X2_forget u = some x0) : MetD l D tc yX2_forget cX2_forget 1 none 0 0 [.ref (ad 2)] (Fw tc ad ta us T sh u) none (Fw tc ad ta us T sh x0) :=
  x_entV  (fun x : St => Fw tc ad ta us T sh x) (by decide) (own := RX2) rfl (Nat.le_of_ble_eq_true rfl) (fun p e s m args below meth c A Q ls C V hl hret => by
  obtain ⟨hx, hb, hr, hml, hown, hts, hlk, hN⟩ := id C
  have hRf : 0 ≤ (rmz 0 0 0 0).frames := Nat.le_refl _
  have hRl : 0 ≤ (rmz 0 0 0 0).locals := Nat.le_refl _
  generalize (rmz 0 0 0 0) = R at hret hRf hRl ⊢
  generalize s.heap = H at V ⊢
  generalize ([] : List Loc) = locs at V ⊢
  have hl : lv_has ls 1 [(0, .ref (ad 2))] := hl
  unfold j_X2_forget at hj
  refine lv_aload_n hx hb dX2_forget_0 rfl (lv_at hl 0 rfl) ?_
  refine lv_dup hx hb dX2_forget_1 rfl ?_
  refine x_get hx hb hts hown V inX2 2 rfl rfl 3 (by decide) tw_95 rfl rfl dX2_forget_2 ?_
  refine lv_iconst (v := 1) hx hb dX2_forget_5 (by decide) ?_
  refine lv_iadd hx hb dX2_forget_6 ?_
  refine x_put hx hb hts hown V inX2 tyX2_ok nmX2 2 rfl rfl 3 (by decide) tw_95 rfl rfl rfl rfl (Nat.le_of_ble_eq_true rfl) dX2_forget_7 (fun H locs V => ?_)
  obtain ⟨u1, eu1, hj⟩ := nm_some hj
  replace V : Wd D tc A s H locs (Fw tc ad ta us T sh u1) := by rw [eu1]; exact V
  exact hret u1 hj V dX2_forget_10)

def j_X2_valueOf (u : St) (v1 : Int64) : Option (Int64) :=
  (j_X2_placeOf v1).bind (fun r1 => gd r1 1024 (if (u.2.1 22 r1.toNatClampNeg) = (u.1 23) then gd r1 1024 (if (lg_cmp (u.2.2 20 r1.toNatClampNeg) v1) = (0 : Int32) then gd r1 1024 (some (u.2.2 21 r1.toNatClampNeg)) else some (-1 : Int64)) else some (-1 : Int64)))
set_option maxHeartbeats 4000000 in
set_option maxRecDepth 100000 in
theorem k_X2_valueOf (l : Launch) (D : va_G) (tc : Nat → ClassId) (ad ta : Nat → Nat) (us : Int32) (T : TbT) (sh : Nat) (u : St) (v1 : Int64) {x0 : Int64} (hj : j_X2_valueOf u v1 = some x0) : MetD l D tc yX2_valueOf cX2_valueOf 4 (some .long) 1 21 [.ref (ad 2), .long v1] (Fw tc ad ta us T sh u) (some (.long x0)) (Fw tc ad ta us T sh u) :=
  x_entL (fun x : Int64 => x) (fun _ : Int64 => Fw tc ad ta us T sh u) (by decide) (own := RX2) rfl (Nat.le_of_ble_eq_true rfl) (fun p e s m args below meth c A Q ls C V hl hret => by
  obtain ⟨hx, hb, hr, hml, hown, hts, hlk, hN⟩ := id C
  have hRf : 1 ≤ (rmz 1 0 0 21).frames := Nat.le_refl _
  have hRl : 21 ≤ (rmz 1 0 0 21).locals := Nat.le_refl _
  generalize (rmz 1 0 0 21) = R at hret hRf hRl ⊢
  generalize s.heap = H at V ⊢
  generalize ([] : List Loc) = locs at V ⊢
  have hl : lv_has ls 4 [(0, .ref (ad 2)), (1, .long v1)] := hl
  unfold j_X2_valueOf at hj
  refine lv_lload_n hx hb dX2_valueOf_0 rfl (lv_at hl 1 rfl) ?_
  obtain ⟨r1, hr1, hj⟩ := bd_some hj
  refine x_allI V _ (rg_map _) (x_runS (n := 1) (rest := []) C V _ (rg_map _) (rg_nd _) (k_X2_placeOf l D tc (Fw tc ad ta us T sh u) v1 hr1) tw_364 tw_365 tw_4 tw_366 (by decide +kernel) ⟨Nat.le_trans (Nat.le_of_ble_eq_true rfl) hRf, Nat.le_trans (Nat.le_of_ble_eq_true rfl) hRl⟩ ⟨Nat.zero_le _, Nat.zero_le _⟩ rfl hl.1 rfl (Nat.le_of_ble_eq_true rfl) dX2_valueOf_1) (fun H locs V zr1 => ?_)
  replace V : Wd D tc A s H locs (Fw tc ad ta us T sh u) := V
  refine lv_istore_n (lv' := [(3, .int r1), (0, .ref (ad 2)), (1, .long v1)]) hx hb dX2_valueOf_4 rfl hl (by decide) rfl (fun ls hl => ?_)
  refine lv_aload_n hx hb dX2_valueOf_5 rfl (lv_at hl 1 rfl) ?_
  refine x_get hx hb hts hown V inX2 2 rfl rfl 2 (by decide) tw_94 rfl rfl dX2_valueOf_6 ?_
  refine lv_iload_n hx hb dX2_valueOf_9 rfl (lv_at hl 0 rfl) ?_
  obtain ⟨i2, hj⟩ := gd_some hj
  refine x_iald hx hb V 5 rfl i2 dX2_valueOf_10 ?_
  refine lv_aload_n hx hb dX2_valueOf_11 rfl (lv_at hl 1 rfl) ?_
  refine x_get hx hb hts hown V inX2 2 rfl rfl 3 (by decide) tw_95 rfl rfl dX2_valueOf_12 ?_
  refine lv_icmp_ne (tgt := 38) hx hb dX2_valueOf_15 (by decide) (fun c3 => ?_) (fun c3 => ?_)
  · replace hj := iq _ c3 hj
    refine lv_ldc2 (v := (-1)) hx hb hown (hts _ tw_368) dX2_valueOf_38 ?_
    exact hret (-1 : Int64) hj V dX2_valueOf_41
  · replace hj := ip _ c3 hj
    refine lv_aload_n hx hb dX2_valueOf_18 rfl (lv_at hl 1 rfl) ?_
    refine x_get hx hb hts hown V inX2 2 rfl rfl 0 (by decide) tw_92 rfl rfl dX2_valueOf_19 ?_
    refine lv_iload_n hx hb dX2_valueOf_22 rfl (lv_at hl 0 rfl) ?_
    obtain ⟨i4, hj⟩ := gd_some hj
    refine x_lald hx hb V 3 rfl i4 dX2_valueOf_23 ?_
    refine lv_lload_n hx hb dX2_valueOf_24 rfl (lv_at hl 2 rfl) ?_
    refine W.lcmp hx hb dX2_valueOf_25 ?_
    refine lv_if_ne (tgt := 38) hx hb dX2_valueOf_26 (by decide) (fun c5 => ?_) (fun c5 => ?_)
    · replace hj := iq _ c5 hj
      refine lv_ldc2 (v := (-1)) hx hb hown (hts _ tw_368) dX2_valueOf_38 ?_
      exact hret (-1 : Int64) hj V dX2_valueOf_41
    · replace hj := ip _ c5 hj
      refine lv_aload_n hx hb dX2_valueOf_29 rfl (lv_at hl 1 rfl) ?_
      refine x_get hx hb hts hown V inX2 2 rfl rfl 1 (by decide) tw_93 rfl rfl dX2_valueOf_30 ?_
      refine lv_iload_n hx hb dX2_valueOf_33 rfl (lv_at hl 0 rfl) ?_
      obtain ⟨i6, hj⟩ := gd_some hj
      refine x_lald hx hb V 4 rfl i6 dX2_valueOf_34 ?_
      refine lv_goto (tgt := 41) hx hb dX2_valueOf_35 (by decide) ?_
      exact hret (u.2.2 21 r1.toNatClampNeg) hj V dX2_valueOf_41)

def j_X2_put (u : St) (v1 : Int64) (v3 : Int64) : Option (St) :=
  (j_X2_placeOf v1).bind (fun r1 => gd r1 1024 (nm (sA u 22 r1.toNatClampNeg (u.1 23)) (fun u3 => gd r1 1024 (nm (sL u3 20 r1.toNatClampNeg v1) (fun u5 => gd r1 1024 (nm (sL u5 21 r1.toNatClampNeg v3) (fun u7 => some u7)))))))
set_option maxHeartbeats 4000000 in
set_option maxRecDepth 100000 in
theorem k_X2_put (l : Launch) (D : va_G) (tc : Nat → ClassId) (ad ta : Nat → Nat) (us : Int32) (T : TbT) (sh : Nat) (u : St) (v1 : Int64) (v3 : Int64) {x0 : St} (hj : j_X2_put u v1 v3 = some x0) : MetD l D tc yX2_put cX2_put 6 none 1 21 [.ref (ad 2), .long v1, .long v3] (Fw tc ad ta us T sh u) none (Fw tc ad ta us T sh x0) :=
  x_entV  (fun x : St => Fw tc ad ta us T sh x) (by decide) (own := RX2) rfl (Nat.le_of_ble_eq_true rfl) (fun p e s m args below meth c A Q ls C V hl hret => by
  obtain ⟨hx, hb, hr, hml, hown, hts, hlk, hN⟩ := id C
  have hRf : 1 ≤ (rmz 1 0 0 21).frames := Nat.le_refl _
  have hRl : 21 ≤ (rmz 1 0 0 21).locals := Nat.le_refl _
  generalize (rmz 1 0 0 21) = R at hret hRf hRl ⊢
  generalize s.heap = H at V ⊢
  generalize ([] : List Loc) = locs at V ⊢
  have hl : lv_has ls 6 [(0, .ref (ad 2)), (1, .long v1), (3, .long v3)] := hl
  unfold j_X2_put at hj
  refine lv_lload_n hx hb dX2_put_0 rfl (lv_at hl 1 rfl) ?_
  obtain ⟨r1, hr1, hj⟩ := bd_some hj
  refine x_allI V _ (rg_map _) (x_runS (n := 1) (rest := []) C V _ (rg_map _) (rg_nd _) (k_X2_placeOf l D tc (Fw tc ad ta us T sh u) v1 hr1) tw_364 tw_365 tw_4 tw_366 (by decide +kernel) ⟨Nat.le_trans (Nat.le_of_ble_eq_true rfl) hRf, Nat.le_trans (Nat.le_of_ble_eq_true rfl) hRl⟩ ⟨Nat.zero_le _, Nat.zero_le _⟩ rfl hl.1 rfl (Nat.le_of_ble_eq_true rfl) dX2_put_1) (fun H locs V zr1 => ?_)
  replace V : Wd D tc A s H locs (Fw tc ad ta us T sh u) := V
  refine lv_istore (lv' := [(5, .int r1), (0, .ref (ad 2)), (1, .long v1), (3, .long v3)]) hx hb dX2_put_4 hl (by decide) rfl (fun ls hl => ?_)
  refine lv_aload_n hx hb dX2_put_6 rfl (lv_at hl 1 rfl) ?_
  refine x_get hx hb hts hown V inX2 2 rfl rfl 2 (by decide) tw_94 rfl rfl dX2_put_7 ?_
  refine lv_iload hx hb dX2_put_10 (lv_at hl 0 rfl) ?_
  refine lv_aload_n hx hb dX2_put_12 rfl (lv_at hl 1 rfl) ?_
  refine x_get hx hb hts hown V inX2 2 rfl rfl 3 (by decide) tw_95 rfl rfl dX2_put_13 ?_
  obtain ⟨i2, hj⟩ := gd_some hj
  obtain ⟨u3, eu3, hj⟩ := nm_some hj
  refine x_iast hx hb V 5 rfl i2 dX2_put_16 (fun H locs V => ?_)
  replace V : Wd D tc A s H locs (Fw tc ad ta us T sh u3) := by rw [eu3]; exact V
  refine lv_aload_n hx hb dX2_put_17 rfl (lv_at hl 1 rfl) ?_
  refine x_get hx hb hts hown V inX2 2 rfl rfl 0 (by decide) tw_92 rfl rfl dX2_put_18 ?_
  refine lv_iload hx hb dX2_put_21 (lv_at hl 0 rfl) ?_
  refine lv_lload_n hx hb dX2_put_23 rfl (lv_at hl 2 rfl) ?_
  obtain ⟨i4, hj⟩ := gd_some hj
  obtain ⟨u5, eu5, hj⟩ := nm_some hj
  refine x_last hx hb V 3 rfl i4 dX2_put_24 (fun H locs V => ?_)
  replace V : Wd D tc A s H locs (Fw tc ad ta us T sh u5) := by rw [eu5]; exact V
  refine lv_aload_n hx hb dX2_put_25 rfl (lv_at hl 1 rfl) ?_
  refine x_get hx hb hts hown V inX2 2 rfl rfl 1 (by decide) tw_93 rfl rfl dX2_put_26 ?_
  refine lv_iload hx hb dX2_put_29 (lv_at hl 0 rfl) ?_
  refine lv_lload_n hx hb dX2_put_31 rfl (lv_at hl 3 rfl) ?_
  obtain ⟨i6, hj⟩ := gd_some hj
  obtain ⟨u7, eu7, hj⟩ := nm_some hj
  refine x_last hx hb V 4 rfl i6 dX2_put_32 (fun H locs V => ?_)
  replace V : Wd D tc A s H locs (Fw tc ad ta us T sh u7) := by rw [eu7]; exact V
  exact hret u7 hj V dX2_put_33)

def j_X3_cellAfter (u : St) (v1 : Int32) (v2 : Int64) : Option (Int64) :=
  gd v1 10 (if (u.2.1 5 v1.toNatClampNeg) = (0 : Int32) then some v2 else gd v1 10 (if (u.2.1 5 v1.toNatClampNeg) = (1 : Int32) then gd v1 10 (some ((u.2.1 6 v1.toNatClampNeg).toInt64)) else gd v1 10 (if (lg_cmp v2 ((u.2.1 6 v1.toNatClampNeg).toInt64)) = (0 : Int32) then gd v1 10 (some ((u.2.1 7 v1.toNatClampNeg).toInt64)) else some v2)))
set_option maxHeartbeats 4000000 in
set_option maxRecDepth 100000 in
theorem k_X3_cellAfter (l : Launch) (D : va_G) (tc : Nat → ClassId) (ad ta : Nat → Nat) (us : Int32) (T : TbT) (sh : Nat) (u : St) (v1 : Int32) (v2 : Int64) {x0 : Int64} (hj : j_X3_cellAfter u v1 v2 = some x0) : MetD l D tc yX3_cellAfter cX3_cellAfter 4 (some .long) 0 0 [.ref (ad 6), .int v1, .long v2] (Fw tc ad ta us T sh u) (some (.long x0)) (Fw tc ad ta us T sh u) :=
  x_entL (fun x : Int64 => x) (fun _ : Int64 => Fw tc ad ta us T sh u) (by decide) (own := RX3) rfl (Nat.le_of_ble_eq_true rfl) (fun p e s m args below meth c A Q ls C V hl hret => by
  obtain ⟨hx, hb, hr, hml, hown, hts, hlk, hN⟩ := id C
  have hRf : 0 ≤ (rmz 0 0 0 0).frames := Nat.le_refl _
  have hRl : 0 ≤ (rmz 0 0 0 0).locals := Nat.le_refl _
  generalize (rmz 0 0 0 0) = R at hret hRf hRl ⊢
  generalize s.heap = H at V ⊢
  generalize ([] : List Loc) = locs at V ⊢
  have hl : lv_has ls 4 [(0, .ref (ad 6)), (1, .int v1), (2, .long v2)] := hl
  unfold j_X3_cellAfter at hj
  refine lv_aload_n hx hb dX3_cellAfter_0 rfl (lv_at hl 0 rfl) ?_
  refine x_get hx hb hts hown V inX1 6 rfl rfl 5 (by decide) tw_49 rfl rfl dX3_cellAfter_1 ?_
  refine lv_iload_n hx hb dX3_cellAfter_4 rfl (lv_at hl 1 rfl) ?_
  obtain ⟨i1, hj⟩ := gd_some hj
  refine x_iald hx hb V 8 rfl i1 dX3_cellAfter_5 ?_
  refine lv_if_ne (tgt := 11) hx hb dX3_cellAfter_6 (by decide) (fun c2 => ?_) (fun c2 => ?_)
  · replace hj := iq _ c2 hj
    refine lv_aload_n hx hb dX3_cellAfter_11 rfl (lv_at hl 0 rfl) ?_
    refine x_get hx hb hts hown V inX1 6 rfl rfl 5 (by decide) tw_49 rfl rfl dX3_cellAfter_12 ?_
    refine lv_iload_n hx hb dX3_cellAfter_15 rfl (lv_at hl 1 rfl) ?_
    obtain ⟨i3, hj⟩ := gd_some hj
    refine x_iald hx hb V 8 rfl i3 dX3_cellAfter_16 ?_
    refine lv_iconst (v := 1) hx hb dX3_cellAfter_17 (by decide) ?_
    refine lv_icmp_ne (tgt := 29) hx hb dX3_cellAfter_18 (by decide) (fun c4 => ?_) (fun c4 => ?_)
    · replace hj := iq _ c4 hj
      refine lv_lload_n hx hb dX3_cellAfter_29 rfl (lv_at hl 2 rfl) ?_
      refine lv_aload_n hx hb dX3_cellAfter_30 rfl (lv_at hl 0 rfl) ?_
      refine x_get hx hb hts hown V inX1 6 rfl rfl 6 (by decide) tw_52 rfl rfl dX3_cellAfter_31 ?_
      refine lv_iload_n hx hb dX3_cellAfter_34 rfl (lv_at hl 1 rfl) ?_
      obtain ⟨i5, hj⟩ := gd_some hj
      refine x_iald hx hb V 9 rfl i5 dX3_cellAfter_35 ?_
      refine lv_i2l hx hb dX3_cellAfter_36 rfl ?_
      refine W.lcmp hx hb dX3_cellAfter_37 ?_
      refine lv_if_ne (tgt := 51) hx hb dX3_cellAfter_38 (by decide) (fun c6 => ?_) (fun c6 => ?_)
      · replace hj := iq _ c6 hj
        refine lv_lload_n hx hb dX3_cellAfter_51 rfl (lv_at hl 2 rfl) ?_
        exact hret v2 hj V dX3_cellAfter_52
      · replace hj := ip _ c6 hj
        refine lv_aload_n hx hb dX3_cellAfter_41 rfl (lv_at hl 0 rfl) ?_
        refine x_get hx hb hts hown V inX1 6 rfl rfl 7 (by decide) tw_54 rfl rfl dX3_cellAfter_42 ?_
        refine lv_iload_n hx hb dX3_cellAfter_45 rfl (lv_at hl 1 rfl) ?_
        obtain ⟨i7, hj⟩ := gd_some hj
        refine x_iald hx hb V 10 rfl i7 dX3_cellAfter_46 ?_
        refine lv_i2l hx hb dX3_cellAfter_47 rfl ?_
        refine lv_goto (tgt := 52) hx hb dX3_cellAfter_48 (by decide) ?_
        exact hret ((u.2.1 7 v1.toNatClampNeg).toInt64) hj V dX3_cellAfter_52
    · replace hj := ip _ c4 hj
      refine lv_aload_n hx hb dX3_cellAfter_21 rfl (lv_at hl 0 rfl) ?_
      refine x_get hx hb hts hown V inX1 6 rfl rfl 6 (by decide) tw_52 rfl rfl dX3_cellAfter_22 ?_
      refine lv_iload_n hx hb dX3_cellAfter_25 rfl (lv_at hl 1 rfl) ?_
      obtain ⟨i8, hj⟩ := gd_some hj
      refine x_iald hx hb V 9 rfl i8 dX3_cellAfter_26 ?_
      refine lv_i2l hx hb dX3_cellAfter_27 rfl ?_
      exact hret ((u.2.1 6 v1.toNatClampNeg).toInt64) hj V dX3_cellAfter_28
  · replace hj := ip _ c2 hj
    refine lv_lload_n hx hb dX3_cellAfter_9 rfl (lv_at hl 2 rfl) ?_
    exact hret v2 hj V dX3_cellAfter_10)

def j_X3_taken (u : St) (v1 : Int64) : Option (Int32) :=
  nm (((v1 &&& (15 : Int64)).toInt32) - (1 : Int32)) (fun x1 => (j_X1_hasCall u x1).bind (fun r2 => if r2 = (0 : Int32) then some (-1 : Int32) else gd x1 10 (some (u.2.1 6 x1.toNatClampNeg))))
set_option maxHeartbeats 4000000 in
set_option maxRecDepth 100000 in
theorem k_X3_taken (l : Launch) (D : va_G) (tc : Nat → ClassId) (ad ta : Nat → Nat) (us : Int32) (T : TbT) (sh : Nat) (u : St) (v1 : Int64) {x0 : Int32} (hj : j_X3_taken u v1 = some x0) : MetD l D tc yX3_taken cX3_taken 4 (some .int) 1 21 [.ref (ad 6), .long v1] (Fw tc ad ta us T sh u) (some (.int x0)) (Fw tc ad ta us T sh u) :=
  x_entI (fun x : Int32 => x) (fun _ : Int32 => Fw tc ad ta us T sh u) (by decide) (own := RX3) rfl (Nat.le_of_ble_eq_true rfl) (fun p e s m args below meth c A Q ls C V hl hret => by
  obtain ⟨hx, hb, hr, hml, hown, hts, hlk, hN⟩ := id C
  have hRf : 1 ≤ (rmz 1 0 0 21).frames := Nat.le_refl _
  have hRl : 21 ≤ (rmz 1 0 0 21).locals := Nat.le_refl _
  generalize (rmz 1 0 0 21) = R at hret hRf hRl ⊢
  generalize s.heap = H at V ⊢
  generalize ([] : List Loc) = locs at V ⊢
  have hl : lv_has ls 4 [(0, .ref (ad 6)), (1, .long v1)] := hl
  unfold j_X3_taken at hj
  refine lv_lload_n hx hb dX3_taken_0 rfl (lv_at hl 1 rfl) ?_
  refine lv_ldc2 (v := (15)) hx hb hown (hts _ tw_399) dX3_taken_1 ?_
  refine lv_land hx hb dX3_taken_4 ?_
  refine lv_l2i hx hb dX3_taken_5 rfl ?_
  refine lv_iconst (v := 1) hx hb dX3_taken_6 (by decide) ?_
  refine lv_isub hx hb dX3_taken_7 ?_
  obtain ⟨x1, ex1, hj⟩ := nm_some hj
  refine x_topi ex1 ?_
  refine lv_istore_n (lv' := [(3, .int x1), (0, .ref (ad 6)), (1, .long v1)]) hx hb dX3_taken_8 rfl hl (by decide) rfl (fun ls hl => ?_)
  refine lv_aload_n hx hb dX3_taken_9 rfl (lv_at hl 1 rfl) ?_
  refine lv_iload_n hx hb dX3_taken_10 rfl (lv_at hl 0 rfl) ?_
  obtain ⟨r2, hr2, hj⟩ := bd_some hj
  refine x_allI V _ (rg_map _) (x_runV (n := 1) (rest := []) C V _ (rg_map _) (rg_nd _) (k_X1_hasCall l D tc ad ta us T sh u x1 hr2) tw_400 tw_263 tw_264 tw_3 tw_265 (by decide +kernel) ⟨Nat.le_trans (Nat.le_of_ble_eq_true rfl) hRf, Nat.le_trans (Nat.le_of_ble_eq_true rfl) hRl⟩ ⟨Nat.zero_le _, Nat.zero_le _⟩ 6 1 rfl rfl rfl hl.1 rfl (Nat.le_of_ble_eq_true rfl) dX3_taken_11) (fun H locs V zr2 => ?_)
  replace V : Wd D tc A s H locs (Fw tc ad ta us T sh u) := V
  refine lv_if_eq (tgt := 26) hx hb dX3_taken_14 (by decide) (fun c3 => ?_) (fun c3 => ?_)
  · replace hj := ip _ c3 hj
    refine lv_iconst (v := (-1)) hx hb dX3_taken_26 (by decide) ?_
    exact hret (-1 : Int32) hj rfl V dX3_taken_27
  · replace hj := iq _ c3 hj
    refine lv_aload_n hx hb dX3_taken_17 rfl (lv_at hl 1 rfl) ?_
    refine x_get hx hb hts hown V inX1 6 rfl rfl 6 (by decide) tw_52 rfl rfl dX3_taken_18 ?_
    refine lv_iload_n hx hb dX3_taken_21 rfl (lv_at hl 0 rfl) ?_
    obtain ⟨i4, hj⟩ := gd_some hj
    refine x_iald hx hb V 9 rfl i4 dX3_taken_22 ?_
    refine lv_goto (tgt := 27) hx hb dX3_taken_23 (by decide) ?_
    exact hret (u.2.1 6 x1.toNatClampNeg) hj rfl V dX3_taken_27)

def j_X3_valueAt (u : St) (v1 : Int64) (v3 : Int32) : Option (Int32) :=
  nm ((((v1 >>> ((v3 * (4 : Int32)).toInt64 &&& 63)) &&& (15 : Int64)).toInt32) - (1 : Int32)) (fun x1 => (j_X1_hasCall u x1).bind (fun r2 => if r2 = (0 : Int32) then some (0 : Int32) else gd x1 10 (if (u.2.1 5 x1.toNatClampNeg) = (1 : Int32) then gd x1 10 (some (u.2.1 7 x1.toNatClampNeg)) else gd x1 10 (some ((u.2.1 7 x1.toNatClampNeg).toInt16.toInt32)))))
set_option maxHeartbeats 4000000 in
set_option maxRecDepth 100000 in
theorem k_X3_valueAt (l : Launch) (D : va_G) (tc : Nat → ClassId) (ad ta : Nat → Nat) (us : Int32) (T : TbT) (sh : Nat) (u : St) (v1 : Int64) (v3 : Int32) {x0 : Int32} (hj : j_X3_valueAt u v1 v3 = some x0) : MetD l D tc yX3_valueAt cX3_valueAt 5 (some .int) 1 21 [.ref (ad 6), .long v1, .int v3] (Fw tc ad ta us T sh u) (some (.int x0)) (Fw tc ad ta us T sh u) :=
  x_entI (fun x : Int32 => x) (fun _ : Int32 => Fw tc ad ta us T sh u) (by decide) (own := RX3) rfl (Nat.le_of_ble_eq_true rfl) (fun p e s m args below meth c A Q ls C V hl hret => by
  obtain ⟨hx, hb, hr, hml, hown, hts, hlk, hN⟩ := id C
  have hRf : 1 ≤ (rmz 1 0 0 21).frames := Nat.le_refl _
  have hRl : 21 ≤ (rmz 1 0 0 21).locals := Nat.le_refl _
  generalize (rmz 1 0 0 21) = R at hret hRf hRl ⊢
  generalize s.heap = H at V ⊢
  generalize ([] : List Loc) = locs at V ⊢
  have hl : lv_has ls 5 [(0, .ref (ad 6)), (1, .long v1), (3, .int v3)] := hl
  unfold j_X3_valueAt at hj
  refine lv_lload_n hx hb dX3_valueAt_0 rfl (lv_at hl 1 rfl) ?_
  refine lv_iload_n hx hb dX3_valueAt_1 rfl (lv_at hl 2 rfl) ?_
  refine lv_iconst (v := 4) hx hb dX3_valueAt_2 (by decide) ?_
  refine lv_imul hx hb dX3_valueAt_3 ?_
  refine lv_lshr hx hb dX3_valueAt_4 rfl ?_
  refine lv_ldc2 (v := (15)) hx hb hown (hts _ tw_399) dX3_valueAt_5 ?_
  refine lv_land hx hb dX3_valueAt_8 ?_
  refine lv_l2i hx hb dX3_valueAt_9 rfl ?_
  refine lv_iconst (v := 1) hx hb dX3_valueAt_10 (by decide) ?_
  refine lv_isub hx hb dX3_valueAt_11 ?_
  obtain ⟨x1, ex1, hj⟩ := nm_some hj
  refine x_topi ex1 ?_
  refine lv_istore (lv' := [(4, .int x1), (0, .ref (ad 6)), (1, .long v1), (3, .int v3)]) hx hb dX3_valueAt_12 hl (by decide) rfl (fun ls hl => ?_)
  refine lv_aload_n hx hb dX3_valueAt_14 rfl (lv_at hl 1 rfl) ?_
  refine lv_iload hx hb dX3_valueAt_15 (lv_at hl 0 rfl) ?_
  obtain ⟨r2, hr2, hj⟩ := bd_some hj
  refine x_allI V _ (rg_map _) (x_runV (n := 1) (rest := []) C V _ (rg_map _) (rg_nd _) (k_X1_hasCall l D tc ad ta us T sh u x1 hr2) tw_400 tw_263 tw_264 tw_3 tw_265 (by decide +kernel) ⟨Nat.le_trans (Nat.le_of_ble_eq_true rfl) hRf, Nat.le_trans (Nat.le_of_ble_eq_true rfl) hRl⟩ ⟨Nat.zero_le _, Nat.zero_le _⟩ 6 1 rfl rfl rfl hl.1 rfl (Nat.le_of_ble_eq_true rfl) dX3_valueAt_17) (fun H locs V zr2 => ?_)
  replace V : Wd D tc A s H locs (Fw tc ad ta us T sh u) := V
  refine lv_if_ne (tgt := 25) hx hb dX3_valueAt_20 (by decide) (fun c3 => ?_) (fun c3 => ?_)
  · replace hj := iq _ c3 hj
    refine lv_aload_n hx hb dX3_valueAt_25 rfl (lv_at hl 1 rfl) ?_
    refine x_get hx hb hts hown V inX1 6 rfl rfl 5 (by decide) tw_49 rfl rfl dX3_valueAt_26 ?_
    refine lv_iload hx hb dX3_valueAt_29 (lv_at hl 0 rfl) ?_
    obtain ⟨i4, hj⟩ := gd_some hj
    refine x_iald hx hb V 8 rfl i4 dX3_valueAt_31 ?_
    refine lv_iconst (v := 1) hx hb dX3_valueAt_32 (by decide) ?_
    refine lv_icmp_ne (tgt := 46) hx hb dX3_valueAt_33 (by decide) (fun c5 => ?_) (fun c5 => ?_)
    · replace hj := iq _ c5 hj
      refine lv_aload_n hx hb dX3_valueAt_46 rfl (lv_at hl 1 rfl) ?_
      refine x_get hx hb hts hown V inX1 6 rfl rfl 7 (by decide) tw_54 rfl rfl dX3_valueAt_47 ?_
      refine lv_iload hx hb dX3_valueAt_50 (lv_at hl 0 rfl) ?_
      obtain ⟨i6, hj⟩ := gd_some hj
      refine x_iald hx hb V 10 rfl i6 dX3_valueAt_52 ?_
      refine lv_i2s hx hb dX3_valueAt_53 rfl ?_
      exact hret ((u.2.1 7 x1.toNatClampNeg).toInt16.toInt32) hj rfl V dX3_valueAt_54
    · replace hj := ip _ c5 hj
      refine lv_aload_n hx hb dX3_valueAt_36 rfl (lv_at hl 1 rfl) ?_
      refine x_get hx hb hts hown V inX1 6 rfl rfl 7 (by decide) tw_54 rfl rfl dX3_valueAt_37 ?_
      refine lv_iload hx hb dX3_valueAt_40 (lv_at hl 0 rfl) ?_
      obtain ⟨i7, hj⟩ := gd_some hj
      refine x_iald hx hb V 10 rfl i7 dX3_valueAt_42 ?_
      refine lv_goto (tgt := 54) hx hb dX3_valueAt_43 (by decide) ?_
      exact hret (u.2.1 7 x1.toNatClampNeg) hj rfl V dX3_valueAt_54
  · replace hj := ip _ c3 hj
    refine lv_iconst (v := 0) hx hb dX3_valueAt_23 (by decide) ?_
    exact hret (0 : Int32) hj rfl V dX3_valueAt_24)

def j_X3_mapAfter (u : St) (v1 : Int32) (v2 : Int64) : Option (Int64) :=
  gd v1 10 ((j_X3_valueAt u v2 (u.2.1 6 v1.toNatClampNeg)).bind (fun r2 => gd v1 10 (if r2 = ((u.2.1 7 v1.toNatClampNeg) >>> ((16 : Int32) &&& 31)) then gd v1 10 (if (u.2.1 5 v1.toNatClampNeg) = (0 : Int32) then some v2 else gd v1 10 (if (u.2.1 5 v1.toNatClampNeg) = (1 : Int32) then gd v1 10 (nm ((u.2.1 6 v1.toNatClampNeg) * (4 : Int32)) (fun x19 => some ((v2 &&& (((15 : Int64) <<< (x19.toInt64 &&& 63)) ^^^ (-1 : Int64))) ||| ((v1.toInt64 + (1 : Int64)) <<< (x19.toInt64 &&& 63))))) else if (1 : Int32) = (0 : Int32) then some v2 else gd v1 10 (nm ((u.2.1 6 v1.toNatClampNeg) * (4 : Int32)) (fun x22 => some ((v2 &&& (((15 : Int64) <<< (x22.toInt64 &&& 63)) ^^^ (-1 : Int64))) ||| ((v1.toInt64 + (1 : Int64)) <<< (x22.toInt64 &&& 63))))))) else gd v1 10 (if (u.2.1 5 v1.toNatClampNeg) = (0 : Int32) then some v2 else gd v1 10 (if (u.2.1 5 v1.toNatClampNeg) = (1 : Int32) then gd v1 10 (nm ((u.2.1 6 v1.toNatClampNeg) * (4 : Int32)) (fun x10 => some ((v2 &&& (((15 : Int64) <<< (x10.toInt64 &&& 63)) ^^^ (-1 : Int64))) ||| ((v1.toInt64 + (1 : Int64)) <<< (x10.toInt64 &&& 63))))) else if (0 : Int32) = (0 : Int32) then some v2 else gd v1 10 (nm ((u.2.1 6 v1.toNatClampNeg) * (4 : Int32)) (fun x13 => some ((v2 &&& (((15 : Int64) <<< (x13.toInt64 &&& 63)) ^^^ (-1 : Int64))) ||| ((v1.toInt64 + (1 : Int64)) <<< (x13.toInt64 &&& 63))))))))))
set_option maxHeartbeats 4000000 in
set_option maxRecDepth 100000 in
theorem k_X3_mapAfter (l : Launch) (D : va_G) (tc : Nat → ClassId) (ad ta : Nat → Nat) (us : Int32) (T : TbT) (sh : Nat) (u : St) (v1 : Int32) (v2 : Int64) {x0 : Int64} (hj : j_X3_mapAfter u v1 v2 = some x0) : MetD l D tc yX3_mapAfter cX3_mapAfter 6 (some .long) 2 45 [.ref (ad 6), .int v1, .long v2] (Fw tc ad ta us T sh u) (some (.long x0)) (Fw tc ad ta us T sh u) :=
  x_entL (fun x : Int64 => x) (fun _ : Int64 => Fw tc ad ta us T sh u) (by decide) (own := RX3) rfl (Nat.le_of_ble_eq_true rfl) (fun p e s m args below meth c A Q ls C V hl hret => by
  obtain ⟨hx, hb, hr, hml, hown, hts, hlk, hN⟩ := id C
  have hRf : 2 ≤ (rmz 2 0 0 45).frames := Nat.le_refl _
  have hRl : 45 ≤ (rmz 2 0 0 45).locals := Nat.le_refl _
  generalize (rmz 2 0 0 45) = R at hret hRf hRl ⊢
  generalize s.heap = H at V ⊢
  generalize ([] : List Loc) = locs at V ⊢
  have hl : lv_has ls 6 [(0, .ref (ad 6)), (1, .int v1), (2, .long v2)] := hl
  unfold j_X3_mapAfter at hj
  refine lv_aload_n hx hb dX3_mapAfter_0 rfl (lv_at hl 0 rfl) ?_
  refine lv_lload_n hx hb dX3_mapAfter_1 rfl (lv_at hl 2 rfl) ?_
  refine lv_aload_n hx hb dX3_mapAfter_2 rfl (lv_at hl 0 rfl) ?_
  refine x_get hx hb hts hown V inX1 6 rfl rfl 6 (by decide) tw_52 rfl rfl dX3_mapAfter_3 ?_
  refine lv_iload_n hx hb dX3_mapAfter_6 rfl (lv_at hl 1 rfl) ?_
  obtain ⟨i1, hj⟩ := gd_some hj
  refine x_iald hx hb V 9 rfl i1 dX3_mapAfter_7 ?_
  obtain ⟨r2, hr2, hj⟩ := bd_some hj
  refine x_allI V _ (rg_map _) (x_runS (n := 3) (rest := []) C V _ (rg_map _) (rg_nd _) (k_X3_valueAt l D tc ad ta us T sh u v2 (u.2.1 6 v1.toNatClampNeg) hr2) tw_404 tw_405 tw_8 tw_406 (by decide +kernel) ⟨Nat.le_trans (Nat.le_of_ble_eq_true rfl) hRf, Nat.le_trans (Nat.le_of_ble_eq_true rfl) hRl⟩ ⟨Nat.zero_le _, Nat.zero_le _⟩ rfl hl.1 rfl (Nat.le_of_ble_eq_true rfl) dX3_mapAfter_8) (fun H locs V zr2 => ?_)
  replace V : Wd D tc A s H locs (Fw tc ad ta us T sh u) := V
  refine lv_aload_n hx hb dX3_mapAfter_11 rfl (lv_at hl 0 rfl) ?_
  refine x_get hx hb hts hown V inX1 6 rfl rfl 7 (by decide) tw_54 rfl rfl dX3_mapAfter_12 ?_
  refine lv_iload_n hx hb dX3_mapAfter_15 rfl (lv_at hl 1 rfl) ?_
  obtain ⟨i3, hj⟩ := gd_some hj
  refine x_iald hx hb V 10 rfl i3 dX3_mapAfter_16 ?_
  refine lv_bipush (v := 16) hx hb dX3_mapAfter_17 (by decide) ?_
  refine lv_ishr hx hb dX3_mapAfter_19 ?_
  refine lv_icmp_ne (tgt := 27) hx hb dX3_mapAfter_20 (by decide) (fun c4 => ?_) (fun c4 => ?_)
  · replace hj := iq _ c4 hj
    refine lv_iconst (v := 0) hx hb dX3_mapAfter_27 (by decide) ?_
    refine lv_istore (lv' := [(4, .int (0 : Int32)), (0, .ref (ad 6)), (1, .int v1), (2, .long v2)]) hx hb dX3_mapAfter_28 hl (by decide) rfl (fun ls hl => ?_)
    refine lv_aload_n hx hb dX3_mapAfter_30 rfl (lv_at hl 1 rfl) ?_
    refine x_get hx hb hts hown V inX1 6 rfl rfl 5 (by decide) tw_49 rfl rfl dX3_mapAfter_31 ?_
    refine lv_iload_n hx hb dX3_mapAfter_34 rfl (lv_at hl 2 rfl) ?_
    obtain ⟨i5, hj⟩ := gd_some hj
    refine x_iald hx hb V 8 rfl i5 dX3_mapAfter_35 ?_
    refine lv_if_eq (tgt := 54) hx hb dX3_mapAfter_36 (by decide) (fun c6 => ?_) (fun c6 => ?_)
    · replace hj := ip _ c6 hj
      refine lv_lload_n hx hb dX3_mapAfter_54 rfl (lv_at hl 3 rfl) ?_
      exact hret v2 hj V dX3_mapAfter_55
    · replace hj := iq _ c6 hj
      refine lv_aload_n hx hb dX3_mapAfter_39 rfl (lv_at hl 1 rfl) ?_
      refine x_get hx hb hts hown V inX1 6 rfl rfl 5 (by decide) tw_49 rfl rfl dX3_mapAfter_40 ?_
      refine lv_iload_n hx hb dX3_mapAfter_43 rfl (lv_at hl 2 rfl) ?_
      obtain ⟨i7, hj⟩ := gd_some hj
      refine x_iald hx hb V 8 rfl i7 dX3_mapAfter_44 ?_
      refine lv_iconst (v := 1) hx hb dX3_mapAfter_45 (by decide) ?_
      refine lv_icmp_eq (tgt := 56) hx hb dX3_mapAfter_46 (by decide) (fun c8 => ?_) (fun c8 => ?_)
      · replace hj := ip _ c8 hj
        refine lv_aload_n hx hb dX3_mapAfter_56 rfl (lv_at hl 1 rfl) ?_
        refine x_get hx hb hts hown V inX1 6 rfl rfl 6 (by decide) tw_52 rfl rfl dX3_mapAfter_57 ?_
        refine lv_iload_n hx hb dX3_mapAfter_60 rfl (lv_at hl 2 rfl) ?_
        obtain ⟨i9, hj⟩ := gd_some hj
        refine x_iald hx hb V 9 rfl i9 dX3_mapAfter_61 ?_
        refine lv_iconst (v := 4) hx hb dX3_mapAfter_62 (by decide) ?_
        refine lv_imul hx hb dX3_mapAfter_63 ?_
        obtain ⟨x10, ex10, hj⟩ := nm_some hj
        refine x_topi ex10 ?_
        refine lv_istore (lv' := [(5, .int x10), (4, .int (0 : Int32)), (0, .ref (ad 6)), (1, .int v1), (2, .long v2)]) hx hb dX3_mapAfter_64 hl (by decide) rfl (fun ls hl => ?_)
        refine lv_lload_n hx hb dX3_mapAfter_66 rfl (lv_at hl 4 rfl) ?_
        refine lv_ldc2 (v := (15)) hx hb hown (hts _ tw_399) dX3_mapAfter_67 ?_
        refine lv_iload hx hb dX3_mapAfter_70 (lv_at hl 0 rfl) ?_
        refine lv_lshl hx hb dX3_mapAfter_72 rfl ?_
        refine lv_ldc2 (v := (-1)) hx hb hown (hts _ tw_423) dX3_mapAfter_73 ?_
        refine lv_lxor hx hb dX3_mapAfter_76 ?_
        refine lv_land hx hb dX3_mapAfter_77 ?_
        refine lv_iload_n hx hb dX3_mapAfter_78 rfl (lv_at hl 3 rfl) ?_
        refine lv_i2l hx hb dX3_mapAfter_79 rfl ?_
        refine lv_lconst (v := 1) hx hb dX3_mapAfter_80 (by decide) ?_
        refine lv_ladd hx hb dX3_mapAfter_81 ?_
        refine lv_iload hx hb dX3_mapAfter_82 (lv_at hl 0 rfl) ?_
        refine lv_lshl hx hb dX3_mapAfter_84 rfl ?_
        refine lv_lor hx hb dX3_mapAfter_85 ?_
        exact hret ((v2 &&& (((15 : Int64) <<< (x10.toInt64 &&& 63)) ^^^ (-1 : Int64))) ||| ((v1.toInt64 + (1 : Int64)) <<< (x10.toInt64 &&& 63))) hj V dX3_mapAfter_86
      · replace hj := iq _ c8 hj
        refine lv_iload hx hb dX3_mapAfter_49 (lv_at hl 0 rfl) ?_
        refine lv_if_ne (tgt := 56) hx hb dX3_mapAfter_51 (by decide) (fun c11 => ?_) (fun c11 => ?_)
        · replace hj := iq _ c11 hj
          refine lv_aload_n hx hb dX3_mapAfter_56 rfl (lv_at hl 1 rfl) ?_
          refine x_get hx hb hts hown V inX1 6 rfl rfl 6 (by decide) tw_52 rfl rfl dX3_mapAfter_57 ?_
          refine lv_iload_n hx hb dX3_mapAfter_60 rfl (lv_at hl 2 rfl) ?_
          obtain ⟨i12, hj⟩ := gd_some hj
          refine x_iald hx hb V 9 rfl i12 dX3_mapAfter_61 ?_
          refine lv_iconst (v := 4) hx hb dX3_mapAfter_62 (by decide) ?_
          refine lv_imul hx hb dX3_mapAfter_63 ?_
          obtain ⟨x13, ex13, hj⟩ := nm_some hj
          refine x_topi ex13 ?_
          refine lv_istore (lv' := [(5, .int x13), (4, .int (0 : Int32)), (0, .ref (ad 6)), (1, .int v1), (2, .long v2)]) hx hb dX3_mapAfter_64 hl (by decide) rfl (fun ls hl => ?_)
          refine lv_lload_n hx hb dX3_mapAfter_66 rfl (lv_at hl 4 rfl) ?_
          refine lv_ldc2 (v := (15)) hx hb hown (hts _ tw_399) dX3_mapAfter_67 ?_
          refine lv_iload hx hb dX3_mapAfter_70 (lv_at hl 0 rfl) ?_
          refine lv_lshl hx hb dX3_mapAfter_72 rfl ?_
          refine lv_ldc2 (v := (-1)) hx hb hown (hts _ tw_423) dX3_mapAfter_73 ?_
          refine lv_lxor hx hb dX3_mapAfter_76 ?_
          refine lv_land hx hb dX3_mapAfter_77 ?_
          refine lv_iload_n hx hb dX3_mapAfter_78 rfl (lv_at hl 3 rfl) ?_
          refine lv_i2l hx hb dX3_mapAfter_79 rfl ?_
          refine lv_lconst (v := 1) hx hb dX3_mapAfter_80 (by decide) ?_
          refine lv_ladd hx hb dX3_mapAfter_81 ?_
          refine lv_iload hx hb dX3_mapAfter_82 (lv_at hl 0 rfl) ?_
          refine lv_lshl hx hb dX3_mapAfter_84 rfl ?_
          refine lv_lor hx hb dX3_mapAfter_85 ?_
          exact hret ((v2 &&& (((15 : Int64) <<< (x13.toInt64 &&& 63)) ^^^ (-1 : Int64))) ||| ((v1.toInt64 + (1 : Int64)) <<< (x13.toInt64 &&& 63))) hj V dX3_mapAfter_86
        · replace hj := ip _ c11 hj
          refine lv_lload_n hx hb dX3_mapAfter_54 rfl (lv_at hl 3 rfl) ?_
          exact hret v2 hj V dX3_mapAfter_55
  · replace hj := ip _ c4 hj
    refine lv_iconst (v := 1) hx hb dX3_mapAfter_23 (by decide) ?_
    refine lv_goto (tgt := 28) hx hb dX3_mapAfter_24 (by decide) ?_
    refine lv_istore (lv' := [(4, .int (1 : Int32)), (0, .ref (ad 6)), (1, .int v1), (2, .long v2)]) hx hb dX3_mapAfter_28 hl (by decide) rfl (fun ls hl => ?_)
    refine lv_aload_n hx hb dX3_mapAfter_30 rfl (lv_at hl 1 rfl) ?_
    refine x_get hx hb hts hown V inX1 6 rfl rfl 5 (by decide) tw_49 rfl rfl dX3_mapAfter_31 ?_
    refine lv_iload_n hx hb dX3_mapAfter_34 rfl (lv_at hl 2 rfl) ?_
    obtain ⟨i14, hj⟩ := gd_some hj
    refine x_iald hx hb V 8 rfl i14 dX3_mapAfter_35 ?_
    refine lv_if_eq (tgt := 54) hx hb dX3_mapAfter_36 (by decide) (fun c15 => ?_) (fun c15 => ?_)
    · replace hj := ip _ c15 hj
      refine lv_lload_n hx hb dX3_mapAfter_54 rfl (lv_at hl 3 rfl) ?_
      exact hret v2 hj V dX3_mapAfter_55
    · replace hj := iq _ c15 hj
      refine lv_aload_n hx hb dX3_mapAfter_39 rfl (lv_at hl 1 rfl) ?_
      refine x_get hx hb hts hown V inX1 6 rfl rfl 5 (by decide) tw_49 rfl rfl dX3_mapAfter_40 ?_
      refine lv_iload_n hx hb dX3_mapAfter_43 rfl (lv_at hl 2 rfl) ?_
      obtain ⟨i16, hj⟩ := gd_some hj
      refine x_iald hx hb V 8 rfl i16 dX3_mapAfter_44 ?_
      refine lv_iconst (v := 1) hx hb dX3_mapAfter_45 (by decide) ?_
      refine lv_icmp_eq (tgt := 56) hx hb dX3_mapAfter_46 (by decide) (fun c17 => ?_) (fun c17 => ?_)
      · replace hj := ip _ c17 hj
        refine lv_aload_n hx hb dX3_mapAfter_56 rfl (lv_at hl 1 rfl) ?_
        refine x_get hx hb hts hown V inX1 6 rfl rfl 6 (by decide) tw_52 rfl rfl dX3_mapAfter_57 ?_
        refine lv_iload_n hx hb dX3_mapAfter_60 rfl (lv_at hl 2 rfl) ?_
        obtain ⟨i18, hj⟩ := gd_some hj
        refine x_iald hx hb V 9 rfl i18 dX3_mapAfter_61 ?_
        refine lv_iconst (v := 4) hx hb dX3_mapAfter_62 (by decide) ?_
        refine lv_imul hx hb dX3_mapAfter_63 ?_
        obtain ⟨x19, ex19, hj⟩ := nm_some hj
        refine x_topi ex19 ?_
        refine lv_istore (lv' := [(5, .int x19), (4, .int (1 : Int32)), (0, .ref (ad 6)), (1, .int v1), (2, .long v2)]) hx hb dX3_mapAfter_64 hl (by decide) rfl (fun ls hl => ?_)
        refine lv_lload_n hx hb dX3_mapAfter_66 rfl (lv_at hl 4 rfl) ?_
        refine lv_ldc2 (v := (15)) hx hb hown (hts _ tw_399) dX3_mapAfter_67 ?_
        refine lv_iload hx hb dX3_mapAfter_70 (lv_at hl 0 rfl) ?_
        refine lv_lshl hx hb dX3_mapAfter_72 rfl ?_
        refine lv_ldc2 (v := (-1)) hx hb hown (hts _ tw_423) dX3_mapAfter_73 ?_
        refine lv_lxor hx hb dX3_mapAfter_76 ?_
        refine lv_land hx hb dX3_mapAfter_77 ?_
        refine lv_iload_n hx hb dX3_mapAfter_78 rfl (lv_at hl 3 rfl) ?_
        refine lv_i2l hx hb dX3_mapAfter_79 rfl ?_
        refine lv_lconst (v := 1) hx hb dX3_mapAfter_80 (by decide) ?_
        refine lv_ladd hx hb dX3_mapAfter_81 ?_
        refine lv_iload hx hb dX3_mapAfter_82 (lv_at hl 0 rfl) ?_
        refine lv_lshl hx hb dX3_mapAfter_84 rfl ?_
        refine lv_lor hx hb dX3_mapAfter_85 ?_
        exact hret ((v2 &&& (((15 : Int64) <<< (x19.toInt64 &&& 63)) ^^^ (-1 : Int64))) ||| ((v1.toInt64 + (1 : Int64)) <<< (x19.toInt64 &&& 63))) hj V dX3_mapAfter_86
      · replace hj := iq _ c17 hj
        refine lv_iload hx hb dX3_mapAfter_49 (lv_at hl 0 rfl) ?_
        refine lv_if_ne (tgt := 56) hx hb dX3_mapAfter_51 (by decide) (fun c20 => ?_) (fun c20 => ?_)
        · replace hj := iq _ c20 hj
          refine lv_aload_n hx hb dX3_mapAfter_56 rfl (lv_at hl 1 rfl) ?_
          refine x_get hx hb hts hown V inX1 6 rfl rfl 6 (by decide) tw_52 rfl rfl dX3_mapAfter_57 ?_
          refine lv_iload_n hx hb dX3_mapAfter_60 rfl (lv_at hl 2 rfl) ?_
          obtain ⟨i21, hj⟩ := gd_some hj
          refine x_iald hx hb V 9 rfl i21 dX3_mapAfter_61 ?_
          refine lv_iconst (v := 4) hx hb dX3_mapAfter_62 (by decide) ?_
          refine lv_imul hx hb dX3_mapAfter_63 ?_
          obtain ⟨x22, ex22, hj⟩ := nm_some hj
          refine x_topi ex22 ?_
          refine lv_istore (lv' := [(5, .int x22), (4, .int (1 : Int32)), (0, .ref (ad 6)), (1, .int v1), (2, .long v2)]) hx hb dX3_mapAfter_64 hl (by decide) rfl (fun ls hl => ?_)
          refine lv_lload_n hx hb dX3_mapAfter_66 rfl (lv_at hl 4 rfl) ?_
          refine lv_ldc2 (v := (15)) hx hb hown (hts _ tw_399) dX3_mapAfter_67 ?_
          refine lv_iload hx hb dX3_mapAfter_70 (lv_at hl 0 rfl) ?_
          refine lv_lshl hx hb dX3_mapAfter_72 rfl ?_
          refine lv_ldc2 (v := (-1)) hx hb hown (hts _ tw_423) dX3_mapAfter_73 ?_
          refine lv_lxor hx hb dX3_mapAfter_76 ?_
          refine lv_land hx hb dX3_mapAfter_77 ?_
          refine lv_iload_n hx hb dX3_mapAfter_78 rfl (lv_at hl 3 rfl) ?_
          refine lv_i2l hx hb dX3_mapAfter_79 rfl ?_
          refine lv_lconst (v := 1) hx hb dX3_mapAfter_80 (by decide) ?_
          refine lv_ladd hx hb dX3_mapAfter_81 ?_
          refine lv_iload hx hb dX3_mapAfter_82 (lv_at hl 0 rfl) ?_
          refine lv_lshl hx hb dX3_mapAfter_84 rfl ?_
          refine lv_lor hx hb dX3_mapAfter_85 ?_
          exact hret ((v2 &&& (((15 : Int64) <<< (x22.toInt64 &&& 63)) ^^^ (-1 : Int64))) ||| ((v1.toInt64 + (1 : Int64)) <<< (x22.toInt64 &&& 63))) hj V dX3_mapAfter_86
        · replace hj := ip _ c20 hj
          refine lv_lload_n hx hb dX3_mapAfter_54 rfl (lv_at hl 3 rfl) ?_
          exact hret v2 hj V dX3_mapAfter_55)

def j_X3_reply (T : TbT) (u : St) (v1 : Int32) (v2 : Int64) : Option (Int32) :=
  if (u.1 0) = (0 : Int32) then gd v1 10 (gd v1 10 ((j_X3_cellReply (u.2.1 5 v1.toNatClampNeg) v2.toInt32 (u.2.1 6 v1.toNatClampNeg)).bind (fun r4 => some r4))) else if (u.1 0) = (1 : Int32) then gd v1 10 (if (u.2.1 5 v1.toNatClampNeg) = (0 : Int32) then some v2.toInt32 else gd v1 10 (some (v2.toInt32 + (u.2.1 6 v1.toNatClampNeg)))) else if (u.1 0) = (2 : Int32) then gd v1 10 (if (u.2.1 5 v1.toNatClampNeg) = (0 : Int32) then (j_X3_lengthOf v2).bind (fun r13 => some (r13 + (1 : Int32))) else (j_X3_taken u v2).bind (fun r12 => some r12)) else if (u.1 0) = (3 : Int32) then gd v1 10 (if (u.2.1 5 v1.toNatClampNeg) = (0 : Int32) then (j_X3_lengthOf v2).bind (fun r18 => some (r18 + (1 : Int32))) else (j_X3_taken u v2).bind (fun r17 => some r17)) else if (u.1 0) = (4 : Int32) then gd v1 10 (gd v1 10 (if (lg_cmp ((v2 >>> ((u.2.1 6 v1.toNatClampNeg).toInt64 &&& 63)) &&& (1 : Int64)) (0 : Int64)) = (0 : Int32) then (j_X3_setReply (u.2.1 5 v1.toNatClampNeg) (0 : Int32)).bind (fun r23 => some r23) else (j_X3_setReply (u.2.1 5 v1.toNatClampNeg) (1 : Int32)).bind (fun r24 => some r24))) else if (u.1 0) = (5 : Int32) then gd v1 10 (gd v1 10 ((j_X3_valueAt u v2 (u.2.1 6 v1.toNatClampNeg)).bind (fun r28 => gd v1 10 ((j_X3_cellReply (u.2.1 5 v1.toNatClampNeg) r28 ((u.2.1 7 v1.toNatClampNeg) >>> ((16 : Int32) &&& 31))).bind (fun r30 => some r30))))) else if (u.1 0) = (6 : Int32) then tcase T (some (0 : Int32)) (fun q32 => gd v1 10 ((j_X5_answerIn q32 u v2 (u.2.1 5 v1.toNatClampNeg)).bind (fun r34 => some r34))) else some (0 : Int32)
set_option maxHeartbeats 4000000 in
set_option maxRecDepth 100000 in
theorem k_X3_reply (l : Launch) (D : va_G) (tc : Nat → ClassId) (ad ta : Nat → Nat) (us : Int32) (T : TbT) (sh : Nat) (u : St) (v1 : Int32) (v2 : Int64) {x0 : Int32} (hj : j_X3_reply T u v1 v2 = some x0) : MetD l D tc yX3_reply cX3_reply 4 (some .int) 3 65 [.ref (ad 6), .int v1, .long v2] (Fw tc ad ta us T sh u) (some (.int x0)) (Fw tc ad ta us T sh u) :=
  x_entI (fun x : Int32 => x) (fun _ : Int32 => Fw tc ad ta us T sh u) (by decide) (own := RX3) rfl (Nat.le_of_ble_eq_true rfl) (fun p e s m args below meth c A Q ls C V hl hret => by
  obtain ⟨hx, hb, hr, hml, hown, hts, hlk, hN⟩ := id C
  have hRf : 3 ≤ (rmz 3 0 0 65).frames := Nat.le_refl _
  have hRl : 65 ≤ (rmz 3 0 0 65).locals := Nat.le_refl _
  generalize (rmz 3 0 0 65) = R at hret hRf hRl ⊢
  generalize s.heap = H at V ⊢
  generalize ([] : List Loc) = locs at V ⊢
  have hl : lv_has ls 4 [(0, .ref (ad 6)), (1, .int v1), (2, .long v2)] := hl
  unfold j_X3_reply at hj
  refine lv_aload_n hx hb dX3_reply_0 rfl (lv_at hl 0 rfl) ?_
  refine x_get hx hb hts hown V inX1 6 rfl rfl 0 (by decide) tw_37 rfl rfl dX3_reply_1 ?_
  by_cases c1 : (u.1 0) = 0
  · refine lv_tableIn (off := 44) (tgt := 48) hx hb dX3_reply_4 (by rw [c1]; decide) (by rw [c1]; decide) (by rw [c1]; rfl) (by decide) ?_
    replace hj := ip _ c1 hj
    refine lv_aload_n hx hb dX3_reply_48 rfl (lv_at hl 0 rfl) ?_
    refine x_get hx hb hts hown V inX1 6 rfl rfl 5 (by decide) tw_49 rfl rfl dX3_reply_49 ?_
    refine lv_iload_n hx hb dX3_reply_52 rfl (lv_at hl 1 rfl) ?_
    obtain ⟨i2, hj⟩ := gd_some hj
    refine x_iald hx hb V 8 rfl i2 dX3_reply_53 ?_
    refine lv_lload_n hx hb dX3_reply_54 rfl (lv_at hl 2 rfl) ?_
    refine lv_l2i hx hb dX3_reply_55 rfl ?_
    refine lv_aload_n hx hb dX3_reply_56 rfl (lv_at hl 0 rfl) ?_
    refine x_get hx hb hts hown V inX1 6 rfl rfl 6 (by decide) tw_52 rfl rfl dX3_reply_57 ?_
    refine lv_iload_n hx hb dX3_reply_60 rfl (lv_at hl 1 rfl) ?_
    obtain ⟨i3, hj⟩ := gd_some hj
    refine x_iald hx hb V 9 rfl i3 dX3_reply_61 ?_
    obtain ⟨r4, hr4, hj⟩ := bd_some hj
    refine x_allI V _ (rg_map _) (x_runS (n := 3) (rest := []) C V _ (rg_map _) (rg_nd _) (k_X3_cellReply l D tc (Fw tc ad ta us T sh u) (u.2.1 5 v1.toNatClampNeg) v2.toInt32 (u.2.1 6 v1.toNatClampNeg) hr4) tw_383 tw_384 tw_8 tw_385 (by decide +kernel) ⟨Nat.le_trans (Nat.le_of_ble_eq_true rfl) hRf, Nat.le_trans (Nat.le_of_ble_eq_true rfl) hRl⟩ ⟨Nat.zero_le _, Nat.zero_le _⟩ rfl hl.1 rfl (Nat.le_of_ble_eq_true rfl) dX3_reply_62) (fun H locs V zr4 => ?_)
    replace V : Wd D tc A s H locs (Fw tc ad ta us T sh u) := V
    exact hret r4 hj rfl V dX3_reply_65
  · replace hj := iq _ c1 hj
    by_cases c5 : (u.1 0) = 1
    · refine lv_tableIn (off := 62) (tgt := 66) hx hb dX3_reply_4 (by rw [c5]; decide) (by rw [c5]; decide) (by rw [c5]; rfl) (by decide) ?_
      replace hj := ip _ c5 hj
      refine lv_aload_n hx hb dX3_reply_66 rfl (lv_at hl 0 rfl) ?_
      refine x_get hx hb hts hown V inX1 6 rfl rfl 5 (by decide) tw_49 rfl rfl dX3_reply_67 ?_
      refine lv_iload_n hx hb dX3_reply_70 rfl (lv_at hl 1 rfl) ?_
      obtain ⟨i6, hj⟩ := gd_some hj
      refine x_iald hx hb V 8 rfl i6 dX3_reply_71 ?_
      refine lv_if_ne (tgt := 80) hx hb dX3_reply_72 (by decide) (fun c7 => ?_) (fun c7 => ?_)
      · replace hj := iq _ c7 hj
        refine lv_lload_n hx hb dX3_reply_80 rfl (lv_at hl 2 rfl) ?_
        refine lv_l2i hx hb dX3_reply_81 rfl ?_
        refine lv_aload_n hx hb dX3_reply_82 rfl (lv_at hl 0 rfl) ?_
        refine x_get hx hb hts hown V inX1 6 rfl rfl 6 (by decide) tw_52 rfl rfl dX3_reply_83 ?_
        refine lv_iload_n hx hb dX3_reply_86 rfl (lv_at hl 1 rfl) ?_
        obtain ⟨i8, hj⟩ := gd_some hj
        refine x_iald hx hb V 9 rfl i8 dX3_reply_87 ?_
        refine lv_iadd hx hb dX3_reply_88 ?_
        exact hret (v2.toInt32 + (u.2.1 6 v1.toNatClampNeg)) hj rfl V dX3_reply_89
      · replace hj := ip _ c7 hj
        refine lv_lload_n hx hb dX3_reply_75 rfl (lv_at hl 2 rfl) ?_
        refine lv_l2i hx hb dX3_reply_76 rfl ?_
        refine lv_goto (tgt := 89) hx hb dX3_reply_77 (by decide) ?_
        exact hret v2.toInt32 hj rfl V dX3_reply_89
    · replace hj := iq _ c5 hj
      by_cases c9 : (u.1 0) = 2
      · refine lv_tableIn (off := 86) (tgt := 90) hx hb dX3_reply_4 (by rw [c9]; decide) (by rw [c9]; decide) (by rw [c9]; rfl) (by decide) ?_
        replace hj := ip _ c9 hj
        refine lv_aload_n hx hb dX3_reply_90 rfl (lv_at hl 0 rfl) ?_
        refine x_get hx hb hts hown V inX1 6 rfl rfl 5 (by decide) tw_49 rfl rfl dX3_reply_91 ?_
        refine lv_iload_n hx hb dX3_reply_94 rfl (lv_at hl 1 rfl) ?_
        obtain ⟨i10, hj⟩ := gd_some hj
        refine x_iald hx hb V 8 rfl i10 dX3_reply_95 ?_
        refine lv_if_ne (tgt := 108) hx hb dX3_reply_96 (by decide) (fun c11 => ?_) (fun c11 => ?_)
        · replace hj := iq _ c11 hj
          refine lv_aload_n hx hb dX3_reply_108 rfl (lv_at hl 0 rfl) ?_
          refine lv_lload_n hx hb dX3_reply_109 rfl (lv_at hl 2 rfl) ?_
          obtain ⟨r12, hr12, hj⟩ := bd_some hj
          refine x_allI V _ (rg_map _) (x_runS (n := 2) (rest := []) C V _ (rg_map _) (rg_nd _) (k_X3_taken l D tc ad ta us T sh u v2 hr12) tw_396 tw_397 tw_8 tw_398 (by decide +kernel) ⟨Nat.le_trans (Nat.le_of_ble_eq_true rfl) hRf, Nat.le_trans (Nat.le_of_ble_eq_true rfl) hRl⟩ ⟨Nat.zero_le _, Nat.zero_le _⟩ rfl hl.1 rfl (Nat.le_of_ble_eq_true rfl) dX3_reply_110) (fun H locs V zr12 => ?_)
          replace V : Wd D tc A s H locs (Fw tc ad ta us T sh u) := V
          exact hret r12 hj rfl V dX3_reply_113
        · replace hj := ip _ c11 hj
          refine lv_lload_n hx hb dX3_reply_99 rfl (lv_at hl 2 rfl) ?_
          obtain ⟨r13, hr13, hj⟩ := bd_some hj
          refine x_allI V _ (rg_map _) (x_runS (n := 1) (rest := []) C V _ (rg_map _) (rg_nd _) (k_X3_lengthOf l D tc (Fw tc ad ta us T sh u) v2 hr13) tw_386 tw_387 tw_8 tw_388 (by decide +kernel) ⟨Nat.le_trans (Nat.le_of_ble_eq_true rfl) hRf, Nat.le_trans (Nat.le_of_ble_eq_true rfl) hRl⟩ ⟨Nat.zero_le _, Nat.zero_le _⟩ rfl hl.1 rfl (Nat.le_of_ble_eq_true rfl) dX3_reply_100) (fun H locs V zr13 => ?_)
          replace V : Wd D tc A s H locs (Fw tc ad ta us T sh u) := V
          refine lv_iconst (v := 1) hx hb dX3_reply_103 (by decide) ?_
          refine lv_iadd hx hb dX3_reply_104 ?_
          refine lv_goto (tgt := 113) hx hb dX3_reply_105 (by decide) ?_
          exact hret (r13 + (1 : Int32)) hj rfl V dX3_reply_113
      · replace hj := iq _ c9 hj
        by_cases c14 : (u.1 0) = 3
        · refine lv_tableIn (off := 86) (tgt := 90) hx hb dX3_reply_4 (by rw [c14]; decide) (by rw [c14]; decide) (by rw [c14]; rfl) (by decide) ?_
          replace hj := ip _ c14 hj
          refine lv_aload_n hx hb dX3_reply_90 rfl (lv_at hl 0 rfl) ?_
          refine x_get hx hb hts hown V inX1 6 rfl rfl 5 (by decide) tw_49 rfl rfl dX3_reply_91 ?_
          refine lv_iload_n hx hb dX3_reply_94 rfl (lv_at hl 1 rfl) ?_
          obtain ⟨i15, hj⟩ := gd_some hj
          refine x_iald hx hb V 8 rfl i15 dX3_reply_95 ?_
          refine lv_if_ne (tgt := 108) hx hb dX3_reply_96 (by decide) (fun c16 => ?_) (fun c16 => ?_)
          · replace hj := iq _ c16 hj
            refine lv_aload_n hx hb dX3_reply_108 rfl (lv_at hl 0 rfl) ?_
            refine lv_lload_n hx hb dX3_reply_109 rfl (lv_at hl 2 rfl) ?_
            obtain ⟨r17, hr17, hj⟩ := bd_some hj
            refine x_allI V _ (rg_map _) (x_runS (n := 2) (rest := []) C V _ (rg_map _) (rg_nd _) (k_X3_taken l D tc ad ta us T sh u v2 hr17) tw_396 tw_397 tw_8 tw_398 (by decide +kernel) ⟨Nat.le_trans (Nat.le_of_ble_eq_true rfl) hRf, Nat.le_trans (Nat.le_of_ble_eq_true rfl) hRl⟩ ⟨Nat.zero_le _, Nat.zero_le _⟩ rfl hl.1 rfl (Nat.le_of_ble_eq_true rfl) dX3_reply_110) (fun H locs V zr17 => ?_)
            replace V : Wd D tc A s H locs (Fw tc ad ta us T sh u) := V
            exact hret r17 hj rfl V dX3_reply_113
          · replace hj := ip _ c16 hj
            refine lv_lload_n hx hb dX3_reply_99 rfl (lv_at hl 2 rfl) ?_
            obtain ⟨r18, hr18, hj⟩ := bd_some hj
            refine x_allI V _ (rg_map _) (x_runS (n := 1) (rest := []) C V _ (rg_map _) (rg_nd _) (k_X3_lengthOf l D tc (Fw tc ad ta us T sh u) v2 hr18) tw_386 tw_387 tw_8 tw_388 (by decide +kernel) ⟨Nat.le_trans (Nat.le_of_ble_eq_true rfl) hRf, Nat.le_trans (Nat.le_of_ble_eq_true rfl) hRl⟩ ⟨Nat.zero_le _, Nat.zero_le _⟩ rfl hl.1 rfl (Nat.le_of_ble_eq_true rfl) dX3_reply_100) (fun H locs V zr18 => ?_)
            replace V : Wd D tc A s H locs (Fw tc ad ta us T sh u) := V
            refine lv_iconst (v := 1) hx hb dX3_reply_103 (by decide) ?_
            refine lv_iadd hx hb dX3_reply_104 ?_
            refine lv_goto (tgt := 113) hx hb dX3_reply_105 (by decide) ?_
            exact hret (r18 + (1 : Int32)) hj rfl V dX3_reply_113
        · replace hj := iq _ c14 hj
          by_cases c19 : (u.1 0) = 4
          · refine lv_tableIn (off := 110) (tgt := 114) hx hb dX3_reply_4 (by rw [c19]; decide) (by rw [c19]; decide) (by rw [c19]; rfl) (by decide) ?_
            replace hj := ip _ c19 hj
            refine lv_aload_n hx hb dX3_reply_114 rfl (lv_at hl 0 rfl) ?_
            refine x_get hx hb hts hown V inX1 6 rfl rfl 5 (by decide) tw_49 rfl rfl dX3_reply_115 ?_
            refine lv_iload_n hx hb dX3_reply_118 rfl (lv_at hl 1 rfl) ?_
            obtain ⟨i20, hj⟩ := gd_some hj
            refine x_iald hx hb V 8 rfl i20 dX3_reply_119 ?_
            refine lv_lload_n hx hb dX3_reply_120 rfl (lv_at hl 2 rfl) ?_
            refine lv_aload_n hx hb dX3_reply_121 rfl (lv_at hl 0 rfl) ?_
            refine x_get hx hb hts hown V inX1 6 rfl rfl 6 (by decide) tw_52 rfl rfl dX3_reply_122 ?_
            refine lv_iload_n hx hb dX3_reply_125 rfl (lv_at hl 1 rfl) ?_
            obtain ⟨i21, hj⟩ := gd_some hj
            refine x_iald hx hb V 9 rfl i21 dX3_reply_126 ?_
            refine lv_lshr hx hb dX3_reply_127 rfl ?_
            refine lv_lconst (v := 1) hx hb dX3_reply_128 (by decide) ?_
            refine lv_land hx hb dX3_reply_129 ?_
            refine lv_lconst (v := 0) hx hb dX3_reply_130 (by decide) ?_
            refine W.lcmp hx hb dX3_reply_131 ?_
            refine lv_if_eq (tgt := 139) hx hb dX3_reply_132 (by decide) (fun c22 => ?_) (fun c22 => ?_)
            · replace hj := ip _ c22 hj
              refine lv_iconst (v := 0) hx hb dX3_reply_139 (by decide) ?_
              obtain ⟨r23, hr23, hj⟩ := bd_some hj
              refine x_allI V _ (rg_map _) (x_runS (n := 2) (rest := []) C V _ (rg_map _) (rg_nd _) (k_X3_setReply l D tc (Fw tc ad ta us T sh u) (u.2.1 5 v1.toNatClampNeg) (0 : Int32) hr23) tw_401 tw_402 tw_8 tw_403 (by decide +kernel) ⟨Nat.le_trans (Nat.le_of_ble_eq_true rfl) hRf, Nat.le_trans (Nat.le_of_ble_eq_true rfl) hRl⟩ ⟨Nat.zero_le _, Nat.zero_le _⟩ rfl hl.1 rfl (Nat.le_of_ble_eq_true rfl) dX3_reply_140) (fun H locs V zr23 => ?_)
              replace V : Wd D tc A s H locs (Fw tc ad ta us T sh u) := V
              exact hret r23 hj rfl V dX3_reply_143
            · replace hj := iq _ c22 hj
              refine lv_iconst (v := 1) hx hb dX3_reply_135 (by decide) ?_
              refine lv_goto (tgt := 140) hx hb dX3_reply_136 (by decide) ?_
              obtain ⟨r24, hr24, hj⟩ := bd_some hj
              refine x_allI V _ (rg_map _) (x_runS (n := 2) (rest := []) C V _ (rg_map _) (rg_nd _) (k_X3_setReply l D tc (Fw tc ad ta us T sh u) (u.2.1 5 v1.toNatClampNeg) (1 : Int32) hr24) tw_401 tw_402 tw_8 tw_403 (by decide +kernel) ⟨Nat.le_trans (Nat.le_of_ble_eq_true rfl) hRf, Nat.le_trans (Nat.le_of_ble_eq_true rfl) hRl⟩ ⟨Nat.zero_le _, Nat.zero_le _⟩ rfl hl.1 rfl (Nat.le_of_ble_eq_true rfl) dX3_reply_140) (fun H locs V zr24 => ?_)
              replace V : Wd D tc A s H locs (Fw tc ad ta us T sh u) := V
              exact hret r24 hj rfl V dX3_reply_143
          · replace hj := iq _ c19 hj
            by_cases c25 : (u.1 0) = 5
            · refine lv_tableIn (off := 140) (tgt := 144) hx hb dX3_reply_4 (by rw [c25]; decide) (by rw [c25]; decide) (by rw [c25]; rfl) (by decide) ?_
              replace hj := ip _ c25 hj
              refine lv_aload_n hx hb dX3_reply_144 rfl (lv_at hl 0 rfl) ?_
              refine x_get hx hb hts hown V inX1 6 rfl rfl 5 (by decide) tw_49 rfl rfl dX3_reply_145 ?_
              refine lv_iload_n hx hb dX3_reply_148 rfl (lv_at hl 1 rfl) ?_
              obtain ⟨i26, hj⟩ := gd_some hj
              refine x_iald hx hb V 8 rfl i26 dX3_reply_149 ?_
              refine lv_aload_n hx hb dX3_reply_150 rfl (lv_at hl 0 rfl) ?_
              refine lv_lload_n hx hb dX3_reply_151 rfl (lv_at hl 2 rfl) ?_
              refine lv_aload_n hx hb dX3_reply_152 rfl (lv_at hl 0 rfl) ?_
              refine x_get hx hb hts hown V inX1 6 rfl rfl 6 (by decide) tw_52 rfl rfl dX3_reply_153 ?_
              refine lv_iload_n hx hb dX3_reply_156 rfl (lv_at hl 1 rfl) ?_
              obtain ⟨i27, hj⟩ := gd_some hj
              refine x_iald hx hb V 9 rfl i27 dX3_reply_157 ?_
              obtain ⟨r28, hr28, hj⟩ := bd_some hj
              refine x_allI V _ (rg_map _) (x_runS (n := 3) (rest := [.int (u.2.1 5 v1.toNatClampNeg)]) C V _ (rg_map _) (rg_nd _) (k_X3_valueAt l D tc ad ta us T sh u v2 (u.2.1 6 v1.toNatClampNeg) hr28) tw_404 tw_405 tw_8 tw_406 (by decide +kernel) ⟨Nat.le_trans (Nat.le_of_ble_eq_true rfl) hRf, Nat.le_trans (Nat.le_of_ble_eq_true rfl) hRl⟩ ⟨Nat.zero_le _, Nat.zero_le _⟩ rfl hl.1 rfl (Nat.le_of_ble_eq_true rfl) dX3_reply_158) (fun H locs V zr28 => ?_)
              replace V : Wd D tc A s H locs (Fw tc ad ta us T sh u) := V
              refine lv_aload_n hx hb dX3_reply_161 rfl (lv_at hl 0 rfl) ?_
              refine x_get hx hb hts hown V inX1 6 rfl rfl 7 (by decide) tw_54 rfl rfl dX3_reply_162 ?_
              refine lv_iload_n hx hb dX3_reply_165 rfl (lv_at hl 1 rfl) ?_
              obtain ⟨i29, hj⟩ := gd_some hj
              refine x_iald hx hb V 10 rfl i29 dX3_reply_166 ?_
              refine lv_bipush (v := 16) hx hb dX3_reply_167 (by decide) ?_
              refine lv_ishr hx hb dX3_reply_169 ?_
              obtain ⟨r30, hr30, hj⟩ := bd_some hj
              refine x_allI V _ (rg_map _) (x_runS (n := 3) (rest := []) C V _ (rg_map _) (rg_nd _) (k_X3_cellReply l D tc (Fw tc ad ta us T sh u) (u.2.1 5 v1.toNatClampNeg) r28 ((u.2.1 7 v1.toNatClampNeg) >>> ((16 : Int32) &&& 31)) hr30) tw_383 tw_384 tw_8 tw_385 (by decide +kernel) ⟨Nat.le_trans (Nat.le_of_ble_eq_true rfl) hRf, Nat.le_trans (Nat.le_of_ble_eq_true rfl) hRl⟩ ⟨Nat.zero_le _, Nat.zero_le _⟩ rfl hl.1 rfl (Nat.le_of_ble_eq_true rfl) dX3_reply_170) (fun H locs V zr30 => ?_)
              replace V : Wd D tc A s H locs (Fw tc ad ta us T sh u) := V
              exact hret r30 hj rfl V dX3_reply_173
            · replace hj := iq _ c25 hj
              by_cases c31 : (u.1 0) = 6
              · refine lv_tableIn (off := 170) (tgt := 174) hx hb dX3_reply_4 (by rw [c31]; decide) (by rw [c31]; decide) (by rw [c31]; rfl) (by decide) ?_
                replace hj := ip _ c31 hj
                refine lv_aload_n hx hb dX3_reply_174 rfl (lv_at hl 0 rfl) ?_
                refine x_get hx hb hts hown V inX1 6 rfl rfl 1 (by decide) tw_40 rfl rfl dX3_reply_175 ?_
                cases T with
                | none =>
                  replace hj := tc_none hj
                  refine lv_ifnonnullN hx hb dX3_reply_178 ?_
                  refine lv_iconst (v := 0) hx hb dX3_reply_181 (by decide) ?_
                  refine lv_goto (tgt := 199) hx hb dX3_reply_182 (by decide) ?_
                  exact hret (0 : Int32) hj rfl V dX3_reply_199
                | some q32 =>
                  replace hj := tc_some hj
                  refine lv_ifnonnull (tgt := 185) hx hb dX3_reply_178 (by decide) ?_
                  refine lv_aload_n hx hb dX3_reply_185 rfl (lv_at hl 0 rfl) ?_
                  refine x_get hx hb hts hown V inX1 6 rfl rfl 1 (by decide) tw_40 rfl rfl dX3_reply_186 ?_
                  refine lv_lload_n hx hb dX3_reply_189 rfl (lv_at hl 2 rfl) ?_
                  refine lv_aload_n hx hb dX3_reply_190 rfl (lv_at hl 0 rfl) ?_
                  refine x_get hx hb hts hown V inX1 6 rfl rfl 5 (by decide) tw_49 rfl rfl dX3_reply_191 ?_
                  refine lv_iload_n hx hb dX3_reply_194 rfl (lv_at hl 1 rfl) ?_
                  obtain ⟨i33, hj⟩ := gd_some hj
                  refine x_iald hx hb V 8 rfl i33 dX3_reply_195 ?_
                  obtain ⟨r34, hr34, hj⟩ := bd_some hj
                  refine x_allI V _ (rg_map _) (x_runV (n := 2) (rest := []) C V _ (rg_map _) (rg_nd _) (k_X5_answerIn l D tc ad ta us q32 sh u v2 (u.2.1 5 v1.toNatClampNeg) hr34) tw_407 tw_408 tw_409 tw_7 tw_410 (by decide +kernel) ⟨Nat.le_trans (Nat.le_of_ble_eq_true rfl) hRf, Nat.le_trans (Nat.le_of_ble_eq_true rfl) hRl⟩ ⟨Nat.zero_le _, Nat.zero_le _⟩ 17 4 rfl rfl rfl hl.1 rfl (Nat.le_of_ble_eq_true rfl) dX3_reply_196) (fun H locs V zr34 => ?_)
                  replace V : Wd D tc A s H locs (Fw tc ad ta us (some q32) sh u) := V
                  exact hret r34 hj rfl V dX3_reply_199
              · replace hj := iq _ c31 hj
                refine lv_tableOut (tgt := 200) hx hb dX3_reply_4 (sw_out6 c1 c5 c9 c14 c19 c25 c31) (by decide) ?_
                refine lv_iconst (v := 0) hx hb dX3_reply_200 (by decide) ?_
                exact hret (0 : Int32) hj rfl V dX3_reply_201)

def j_X3_after (T : TbT) (u : St) (v1 : Int32) (v2 : Int64) : Option (Int64) :=
  if (u.1 0) = (0 : Int32) then (j_X3_cellAfter u v1 v2).bind (fun r2 => some r2) else if (u.1 0) = (1 : Int32) then gd v1 10 (if (u.2.1 5 v1.toNatClampNeg) = (0 : Int32) then some v2 else gd v1 10 (some ((v2.toInt32 + (u.2.1 6 v1.toNatClampNeg)).toInt64))) else if (u.1 0) = (2 : Int32) then gd v1 10 (if (u.2.1 5 v1.toNatClampNeg) = (0 : Int32) then (j_X3_putBehind v1 v2).bind (fun r10 => some r10) else some ((v2.toUInt64 >>> ((4 : Int32).toInt64.toUInt64 &&& Int64.toUInt64 63)).toInt64)) else if (u.1 0) = (3 : Int32) then gd v1 10 (if (u.2.1 5 v1.toNatClampNeg) = (0 : Int32) then some ((v2 <<< ((4 : Int32).toInt64 &&& 63)) ||| ((v1 + (1 : Int32)).toInt64)) else some ((v2.toUInt64 >>> ((4 : Int32).toInt64.toUInt64 &&& Int64.toUInt64 63)).toInt64)) else if (u.1 0) = (4 : Int32) then gd v1 10 (gd v1 10 ((j_X3_setAfter (u.2.1 5 v1.toNatClampNeg) ((1 : Int64) <<< ((u.2.1 6 v1.toNatClampNeg).toInt64 &&& 63)) v2).bind (fun r17 => some r17))) else if (u.1 0) = (5 : Int32) then (j_X3_mapAfter u v1 v2).bind (fun r19 => some r19) else if (u.1 0) = (6 : Int32) then tcase T (some (0 : Int64)) (fun q21 => gd v1 10 ((j_X5_nextIn q21 u v2 (u.2.1 5 v1.toNatClampNeg)).bind (fun r23 => some r23.toInt64))) else some (0 : Int64)
set_option maxHeartbeats 4000000 in
set_option maxRecDepth 100000 in
theorem k_X3_after (l : Launch) (D : va_G) (tc : Nat → ClassId) (ad ta : Nat → Nat) (us : Int32) (T : TbT) (sh : Nat) (u : St) (v1 : Int32) (v2 : Int64) {x0 : Int64} (hj : j_X3_after T u v1 v2 = some x0) : MetD l D tc yX3_after cX3_after 4 (some .long) 4 87 [.ref (ad 6), .int v1, .long v2] (Fw tc ad ta us T sh u) (some (.long x0)) (Fw tc ad ta us T sh u) :=
  x_entL (fun x : Int64 => x) (fun _ : Int64 => Fw tc ad ta us T sh u) (by decide) (own := RX3) rfl (Nat.le_of_ble_eq_true rfl) (fun p e s m args below meth c A Q ls C V hl hret => by
  obtain ⟨hx, hb, hr, hml, hown, hts, hlk, hN⟩ := id C
  have hRf : 4 ≤ (rmz 4 0 0 87).frames := Nat.le_refl _
  have hRl : 87 ≤ (rmz 4 0 0 87).locals := Nat.le_refl _
  generalize (rmz 4 0 0 87) = R at hret hRf hRl ⊢
  generalize s.heap = H at V ⊢
  generalize ([] : List Loc) = locs at V ⊢
  have hl : lv_has ls 4 [(0, .ref (ad 6)), (1, .int v1), (2, .long v2)] := hl
  unfold j_X3_after at hj
  refine lv_aload_n hx hb dX3_after_0 rfl (lv_at hl 0 rfl) ?_
  refine x_get hx hb hts hown V inX1 6 rfl rfl 0 (by decide) tw_37 rfl rfl dX3_after_1 ?_
  by_cases c1 : (u.1 0) = 0
  · refine lv_tableIn (off := 44) (tgt := 48) hx hb dX3_after_4 (by rw [c1]; decide) (by rw [c1]; decide) (by rw [c1]; rfl) (by decide) ?_
    replace hj := ip _ c1 hj
    refine lv_aload_n hx hb dX3_after_48 rfl (lv_at hl 0 rfl) ?_
    refine lv_iload_n hx hb dX3_after_49 rfl (lv_at hl 1 rfl) ?_
    refine lv_lload_n hx hb dX3_after_50 rfl (lv_at hl 2 rfl) ?_
    obtain ⟨r2, hr2, hj⟩ := bd_some hj
    refine x_allL V _ (rg_map _) (x_runS (n := 3) (rest := []) C V _ (rg_map _) (rg_nd _) (k_X3_cellAfter l D tc ad ta us T sh u v1 v2 hr2) tw_414 tw_415 tw_8 tw_416 (by decide +kernel) ⟨Nat.le_trans (Nat.le_of_ble_eq_true rfl) hRf, Nat.le_trans (Nat.le_of_ble_eq_true rfl) hRl⟩ ⟨Nat.zero_le _, Nat.zero_le _⟩ rfl hl.1 rfl (Nat.le_of_ble_eq_true rfl) dX3_after_51) (fun H locs V => ?_)
    replace V : Wd D tc A s H locs (Fw tc ad ta us T sh u) := V
    exact hret r2 hj V dX3_after_54
  · replace hj := iq _ c1 hj
    by_cases c3 : (u.1 0) = 1
    · refine lv_tableIn (off := 51) (tgt := 55) hx hb dX3_after_4 (by rw [c3]; decide) (by rw [c3]; decide) (by rw [c3]; rfl) (by decide) ?_
      replace hj := ip _ c3 hj
      refine lv_aload_n hx hb dX3_after_55 rfl (lv_at hl 0 rfl) ?_
      refine x_get hx hb hts hown V inX1 6 rfl rfl 5 (by decide) tw_49 rfl rfl dX3_after_56 ?_
      refine lv_iload_n hx hb dX3_after_59 rfl (lv_at hl 1 rfl) ?_
      obtain ⟨i4, hj⟩ := gd_some hj
      refine x_iald hx hb V 8 rfl i4 dX3_after_60 ?_
      refine lv_if_ne (tgt := 68) hx hb dX3_after_61 (by decide) (fun c5 => ?_) (fun c5 => ?_)
      · replace hj := iq _ c5 hj
        refine lv_lload_n hx hb dX3_after_68 rfl (lv_at hl 2 rfl) ?_
        refine lv_l2i hx hb dX3_after_69 rfl ?_
        refine lv_aload_n hx hb dX3_after_70 rfl (lv_at hl 0 rfl) ?_
        refine x_get hx hb hts hown V inX1 6 rfl rfl 6 (by decide) tw_52 rfl rfl dX3_after_71 ?_
        refine lv_iload_n hx hb dX3_after_74 rfl (lv_at hl 1 rfl) ?_
        obtain ⟨i6, hj⟩ := gd_some hj
        refine x_iald hx hb V 9 rfl i6 dX3_after_75 ?_
        refine lv_iadd hx hb dX3_after_76 ?_
        refine lv_i2l hx hb dX3_after_77 rfl ?_
        exact hret ((v2.toInt32 + (u.2.1 6 v1.toNatClampNeg)).toInt64) hj V dX3_after_78
      · replace hj := ip _ c5 hj
        refine lv_lload_n hx hb dX3_after_64 rfl (lv_at hl 2 rfl) ?_
        refine lv_goto (tgt := 78) hx hb dX3_after_65 (by decide) ?_
        exact hret v2 hj V dX3_after_78
    · replace hj := iq _ c3 hj
      by_cases c7 : (u.1 0) = 2
      · refine lv_tableIn (off := 75) (tgt := 79) hx hb dX3_after_4 (by rw [c7]; decide) (by rw [c7]; decide) (by rw [c7]; rfl) (by decide) ?_
        replace hj := ip _ c7 hj
        refine lv_aload_n hx hb dX3_after_79 rfl (lv_at hl 0 rfl) ?_
        refine x_get hx hb hts hown V inX1 6 rfl rfl 5 (by decide) tw_49 rfl rfl dX3_after_80 ?_
        refine lv_iload_n hx hb dX3_after_83 rfl (lv_at hl 1 rfl) ?_
        obtain ⟨i8, hj⟩ := gd_some hj
        refine x_iald hx hb V 8 rfl i8 dX3_after_84 ?_
        refine lv_if_ne (tgt := 96) hx hb dX3_after_85 (by decide) (fun c9 => ?_) (fun c9 => ?_)
        · replace hj := iq _ c9 hj
          refine lv_lload_n hx hb dX3_after_96 rfl (lv_at hl 2 rfl) ?_
          refine lv_iconst (v := 4) hx hb dX3_after_97 (by decide) ?_
          refine lv_lushr hx hb dX3_after_98 rfl ?_
          exact hret ((v2.toUInt64 >>> ((4 : Int32).toInt64.toUInt64 &&& Int64.toUInt64 63)).toInt64) hj V dX3_after_99
        · replace hj := ip _ c9 hj
          refine lv_iload_n hx hb dX3_after_88 rfl (lv_at hl 1 rfl) ?_
          refine lv_lload_n hx hb dX3_after_89 rfl (lv_at hl 2 rfl) ?_
          obtain ⟨r10, hr10, hj⟩ := bd_some hj
          refine x_allL V _ (rg_map _) (x_runS (n := 2) (rest := []) C V _ (rg_map _) (rg_nd _) (k_X3_putBehind l D tc (Fw tc ad ta us T sh u) v1 v2 hr10) tw_417 tw_418 tw_8 tw_419 (by decide +kernel) ⟨Nat.le_trans (Nat.le_of_ble_eq_true rfl) hRf, Nat.le_trans (Nat.le_of_ble_eq_true rfl) hRl⟩ ⟨Nat.zero_le _, Nat.zero_le _⟩ rfl hl.1 rfl (Nat.le_of_ble_eq_true rfl) dX3_after_90) (fun H locs V => ?_)
          replace V : Wd D tc A s H locs (Fw tc ad ta us T sh u) := V
          refine lv_goto (tgt := 99) hx hb dX3_after_93 (by decide) ?_
          exact hret r10 hj V dX3_after_99
      · replace hj := iq _ c7 hj
        by_cases c11 : (u.1 0) = 3
        · refine lv_tableIn (off := 96) (tgt := 100) hx hb dX3_after_4 (by rw [c11]; decide) (by rw [c11]; decide) (by rw [c11]; rfl) (by decide) ?_
          replace hj := ip _ c11 hj
          refine lv_aload_n hx hb dX3_after_100 rfl (lv_at hl 0 rfl) ?_
          refine x_get hx hb hts hown V inX1 6 rfl rfl 5 (by decide) tw_49 rfl rfl dX3_after_101 ?_
          refine lv_iload_n hx hb dX3_after_104 rfl (lv_at hl 1 rfl) ?_
          obtain ⟨i12, hj⟩ := gd_some hj
          refine x_iald hx hb V 8 rfl i12 dX3_after_105 ?_
          refine lv_if_ne (tgt := 120) hx hb dX3_after_106 (by decide) (fun c13 => ?_) (fun c13 => ?_)
          · replace hj := iq _ c13 hj
            refine lv_lload_n hx hb dX3_after_120 rfl (lv_at hl 2 rfl) ?_
            refine lv_iconst (v := 4) hx hb dX3_after_121 (by decide) ?_
            refine lv_lushr hx hb dX3_after_122 rfl ?_
            exact hret ((v2.toUInt64 >>> ((4 : Int32).toInt64.toUInt64 &&& Int64.toUInt64 63)).toInt64) hj V dX3_after_123
          · replace hj := ip _ c13 hj
            refine lv_lload_n hx hb dX3_after_109 rfl (lv_at hl 2 rfl) ?_
            refine lv_iconst (v := 4) hx hb dX3_after_110 (by decide) ?_
            refine lv_lshl hx hb dX3_after_111 rfl ?_
            refine lv_iload_n hx hb dX3_after_112 rfl (lv_at hl 1 rfl) ?_
            refine lv_iconst (v := 1) hx hb dX3_after_113 (by decide) ?_
            refine lv_iadd hx hb dX3_after_114 ?_
            refine lv_i2l hx hb dX3_after_115 rfl ?_
            refine lv_lor hx hb dX3_after_116 ?_
            refine lv_goto (tgt := 123) hx hb dX3_after_117 (by decide) ?_
            exact hret ((v2 <<< ((4 : Int32).toInt64 &&& 63)) ||| ((v1 + (1 : Int32)).toInt64)) hj V dX3_after_123
        · replace hj := iq _ c11 hj
          by_cases c14 : (u.1 0) = 4
          · refine lv_tableIn (off := 120) (tgt := 124) hx hb dX3_after_4 (by rw [c14]; decide) (by rw [c14]; decide) (by rw [c14]; rfl) (by decide) ?_
            replace hj := ip _ c14 hj
            refine lv_aload_n hx hb dX3_after_124 rfl (lv_at hl 0 rfl) ?_
            refine x_get hx hb hts hown V inX1 6 rfl rfl 5 (by decide) tw_49 rfl rfl dX3_after_125 ?_
            refine lv_iload_n hx hb dX3_after_128 rfl (lv_at hl 1 rfl) ?_
            obtain ⟨i15, hj⟩ := gd_some hj
            refine x_iald hx hb V 8 rfl i15 dX3_after_129 ?_
            refine lv_lconst (v := 1) hx hb dX3_after_130 (by decide) ?_
            refine lv_aload_n hx hb dX3_after_131 rfl (lv_at hl 0 rfl) ?_
            refine x_get hx hb hts hown V inX1 6 rfl rfl 6 (by decide) tw_52 rfl rfl dX3_after_132 ?_
            refine lv_iload_n hx hb dX3_after_135 rfl (lv_at hl 1 rfl) ?_
            obtain ⟨i16, hj⟩ := gd_some hj
            refine x_iald hx hb V 9 rfl i16 dX3_after_136 ?_
            refine lv_lshl hx hb dX3_after_137 rfl ?_
            refine lv_lload_n hx hb dX3_after_138 rfl (lv_at hl 2 rfl) ?_
            obtain ⟨r17, hr17, hj⟩ := bd_some hj
            refine x_allL V _ (rg_map _) (x_runS (n := 3) (rest := []) C V _ (rg_map _) (rg_nd _) (k_X3_setAfter l D tc (Fw tc ad ta us T sh u) (u.2.1 5 v1.toNatClampNeg) ((1 : Int64) <<< ((u.2.1 6 v1.toNatClampNeg).toInt64 &&& 63)) v2 hr17) tw_420 tw_421 tw_8 tw_422 (by decide +kernel) ⟨Nat.le_trans (Nat.le_of_ble_eq_true rfl) hRf, Nat.le_trans (Nat.le_of_ble_eq_true rfl) hRl⟩ ⟨Nat.zero_le _, Nat.zero_le _⟩ rfl hl.1 rfl (Nat.le_of_ble_eq_true rfl) dX3_after_139) (fun H locs V => ?_)
            replace V : Wd D tc A s H locs (Fw tc ad ta us T sh u) := V
            exact hret r17 hj V dX3_after_142
          · replace hj := iq _ c14 hj
            by_cases c18 : (u.1 0) = 5
            · refine lv_tableIn (off := 139) (tgt := 143) hx hb dX3_after_4 (by rw [c18]; decide) (by rw [c18]; decide) (by rw [c18]; rfl) (by decide) ?_
              replace hj := ip _ c18 hj
              refine lv_aload_n hx hb dX3_after_143 rfl (lv_at hl 0 rfl) ?_
              refine lv_iload_n hx hb dX3_after_144 rfl (lv_at hl 1 rfl) ?_
              refine lv_lload_n hx hb dX3_after_145 rfl (lv_at hl 2 rfl) ?_
              obtain ⟨r19, hr19, hj⟩ := bd_some hj
              refine x_allL V _ (rg_map _) (x_runS (n := 3) (rest := []) C V _ (rg_map _) (rg_nd _) (k_X3_mapAfter l D tc ad ta us T sh u v1 v2 hr19) tw_424 tw_425 tw_8 tw_426 (by decide +kernel) ⟨Nat.le_trans (Nat.le_of_ble_eq_true rfl) hRf, Nat.le_trans (Nat.le_of_ble_eq_true rfl) hRl⟩ ⟨Nat.zero_le _, Nat.zero_le _⟩ rfl hl.1 rfl (Nat.le_of_ble_eq_true rfl) dX3_after_146) (fun H locs V => ?_)
              replace V : Wd D tc A s H locs (Fw tc ad ta us T sh u) := V
              exact hret r19 hj V dX3_after_149
            · replace hj := iq _ c18 hj
              by_cases c20 : (u.1 0) = 6
              · refine lv_tableIn (off := 146) (tgt := 150) hx hb dX3_after_4 (by rw [c20]; decide) (by rw [c20]; decide) (by rw [c20]; rfl) (by decide) ?_
                replace hj := ip _ c20 hj
                refine lv_aload_n hx hb dX3_after_150 rfl (lv_at hl 0 rfl) ?_
                refine x_get hx hb hts hown V inX1 6 rfl rfl 1 (by decide) tw_40 rfl rfl dX3_after_151 ?_
                cases T with
                | none =>
                  replace hj := tc_none hj
                  refine lv_ifnonnullN hx hb dX3_after_154 ?_
                  refine lv_lconst (v := 0) hx hb dX3_after_157 (by decide) ?_
                  refine lv_goto (tgt := 176) hx hb dX3_after_158 (by decide) ?_
                  exact hret (0 : Int64) hj V dX3_after_176
                | some q21 =>
                  replace hj := tc_some hj
                  refine lv_ifnonnull (tgt := 161) hx hb dX3_after_154 (by decide) ?_
                  refine lv_aload_n hx hb dX3_after_161 rfl (lv_at hl 0 rfl) ?_
                  refine x_get hx hb hts hown V inX1 6 rfl rfl 1 (by decide) tw_40 rfl rfl dX3_after_162 ?_
                  refine lv_lload_n hx hb dX3_after_165 rfl (lv_at hl 2 rfl) ?_
                  refine lv_aload_n hx hb dX3_after_166 rfl (lv_at hl 0 rfl) ?_
                  refine x_get hx hb hts hown V inX1 6 rfl rfl 5 (by decide) tw_49 rfl rfl dX3_after_167 ?_
                  refine lv_iload_n hx hb dX3_after_170 rfl (lv_at hl 1 rfl) ?_
                  obtain ⟨i22, hj⟩ := gd_some hj
                  refine x_iald hx hb V 8 rfl i22 dX3_after_171 ?_
                  obtain ⟨r23, hr23, hj⟩ := bd_some hj
                  refine x_allI V _ (rg_map _) (x_runV (n := 2) (rest := []) C V _ (rg_map _) (rg_nd _) (k_X5_nextIn l D tc ad ta us q21 sh u v2 (u.2.1 5 v1.toNatClampNeg) hr23) tw_427 tw_428 tw_429 tw_7 tw_430 (by decide +kernel) ⟨Nat.le_trans (Nat.le_of_ble_eq_true rfl) hRf, Nat.le_trans (Nat.le_of_ble_eq_true rfl) hRl⟩ ⟨Nat.zero_le _, Nat.zero_le _⟩ 17 4 rfl rfl rfl hl.1 rfl (Nat.le_of_ble_eq_true rfl) dX3_after_172) (fun H locs V zr23 => ?_)
                  replace V : Wd D tc A s H locs (Fw tc ad ta us (some q21) sh u) := V
                  refine lv_i2l hx hb dX3_after_175 rfl ?_
                  exact hret r23.toInt64 hj V dX3_after_176
              · replace hj := iq _ c20 hj
                refine lv_tableOut (tgt := 177) hx hb dX3_after_4 (sw_out6 c1 c3 c7 c11 c14 c18 c20) (by decide) ?_
                refine lv_lconst (v := 0) hx hb dX3_after_177 (by decide) ?_
                exact hret (0 : Int64) hj V dX3_after_178)

def q_X0_add_59 (k_59 : St → Int32 → Int32 → Int32 → Option (St)) (u : St) (v1 : Int32) (v2 : Int32) (v3 : Int32) : Option (St) :=
  if v3 ≤ v2 then gd v2 64 (nm (sA u 31 v2.toNatClampNeg v1) (fun u7 => nm (sI u7 30 ((u7.1 30) + (1 : Int32))) (fun u8 => some u8))) else gd (v3 - (1 : Int32)) 64 (gd v3 64 (nm (sA u 31 v3.toNatClampNeg (u.2.1 31 (v3 - (1 : Int32)).toNatClampNeg)) (fun u11 => nm (v3 + (-1)) (fun x12 => k_59 u11 v1 v2 x12))))
set_option maxHeartbeats 4000000 in
set_option maxRecDepth 100000 in
theorem b_X0_add_59 {p : Program} {l : Launch} {e : Env} {R : Room} {s : State} {m : MethodId} {args : Array Value} {below : List Frame} {meth : Method} {c : Code} {A : Nat → Prop} {Q : State → Prop} {D : va_G} {tc : Nat → ClassId} (ad ta : Nat → Nat) (us : Int32) (T : TbT) (sh : Nat) (hRf : 0 ≤ R.frames) (hRl : 0 ≤ R.locals) (C : Cx p s m args meth c cX0_add 4 RX0 none) {x0 : St} (hret : RetV p l e R s m args below meth c Q cX0_add D tc A (some x0) (fun x : St => Fw tc ad ta us T sh x)) (k_59 : St → Int32 → Int32 → Int32 → Option (St)) (hk_59 : ∀ (u : St) (v1 : Int32) (v2 : Int32) (v3 : Int32), k_59 u v1 v2 v3 = some x0 → ∀ (H : Heap) (locs : List Loc) (ls : Array Slot), Wd D tc A s H locs (Fw tc ad ta us T sh u) → lv_has ls 4 [(0, .ref (ad 14)), (1, .int v1), (2, .int v2), (3, .int v3)] → W p l e R s m args below meth c H locs 0 0 Q (F0 m 59 ls [])) : ∀ (u : St) (v1 : Int32) (v2 : Int32) (v3 : Int32), q_X0_add_59 k_59 u v1 v2 v3 = some x0 → ∀ (H : Heap) (locs : List Loc) (ls : Array Slot), Wd D tc A s H locs (Fw tc ad ta us T sh u) → lv_has ls 4 [(0, .ref (ad 14)), (1, .int v1), (2, .int v2), (3, .int v3)] → W p l e R s m args below meth c H locs 0 0 Q (F0 m 59 ls []) := by
  obtain ⟨hx, hb, hr, hml, hown, hts, hlk, hN⟩ := id C
  intro u v1 v2 v3 hj H locs ls V hl
  unfold q_X0_add_59 at hj
  refine lv_iload_n hx hb dX0_add_59 rfl (lv_at hl 3 rfl) ?_
  refine lv_iload_n hx hb dX0_add_60 rfl (lv_at hl 2 rfl) ?_
  refine lv_icmp_le (tgt := 84) hx hb dX0_add_61 (by decide) (fun c5 => ?_) (fun c5 => ?_)
  · replace hj := ip _ c5 hj
    refine lv_aload_n hx hb dX0_add_84 rfl (lv_at hl 0 rfl) ?_
    refine x_get hx hb hts hown V inX0 14 rfl rfl 0 (by decide) tw_131 rfl rfl dX0_add_85 ?_
    refine lv_iload_n hx hb dX0_add_88 rfl (lv_at hl 2 rfl) ?_
    refine lv_iload_n hx hb dX0_add_89 rfl (lv_at hl 1 rfl) ?_
    obtain ⟨i6, hj⟩ := gd_some hj
    obtain ⟨u7, eu7, hj⟩ := nm_some hj
    refine x_iast hx hb V 15 rfl i6 dX0_add_90 (fun H locs V => ?_)
    replace V : Wd D tc A s H locs (Fw tc ad ta us T sh u7) := by rw [eu7]; exact V
    refine lv_aload_n hx hb dX0_add_91 rfl (lv_at hl 0 rfl) ?_
    refine lv_dup hx hb dX0_add_92 rfl ?_
    refine x_get hx hb hts hown V inX0 14 rfl rfl 1 (by decide) tw_133 rfl rfl dX0_add_93 ?_
    refine lv_iconst (v := 1) hx hb dX0_add_96 (by decide) ?_
    refine lv_iadd hx hb dX0_add_97 ?_
    refine x_put hx hb hts hown V inX0 tyX0_ok nmX0 14 rfl rfl 1 (by decide) tw_133 rfl rfl rfl rfl (Nat.le_of_ble_eq_true rfl) dX0_add_98 (fun H locs V => ?_)
    obtain ⟨u8, eu8, hj⟩ := nm_some hj
    replace V : Wd D tc A s H locs (Fw tc ad ta us T sh u8) := by rw [eu8]; exact V
    exact hret u8 hj V dX0_add_101
  · replace hj := iq _ c5 hj
    refine lv_aload_n hx hb dX0_add_64 rfl (lv_at hl 0 rfl) ?_
    refine x_get hx hb hts hown V inX0 14 rfl rfl 0 (by decide) tw_131 rfl rfl dX0_add_65 ?_
    refine lv_iload_n hx hb dX0_add_68 rfl (lv_at hl 3 rfl) ?_
    refine lv_aload_n hx hb dX0_add_69 rfl (lv_at hl 0 rfl) ?_
    refine x_get hx hb hts hown V inX0 14 rfl rfl 0 (by decide) tw_131 rfl rfl dX0_add_70 ?_
    refine lv_iload_n hx hb dX0_add_73 rfl (lv_at hl 3 rfl) ?_
    refine lv_iconst (v := 1) hx hb dX0_add_74 (by decide) ?_
    refine lv_isub hx hb dX0_add_75 ?_
    obtain ⟨i9, hj⟩ := gd_some hj
    refine x_iald hx hb V 15 rfl i9 dX0_add_76 ?_
    obtain ⟨i10, hj⟩ := gd_some hj
    obtain ⟨u11, eu11, hj⟩ := nm_some hj
    refine x_iast hx hb V 15 rfl i10 dX0_add_77 (fun H locs V => ?_)
    replace V : Wd D tc A s H locs (Fw tc ad ta us T sh u11) := by rw [eu11]; exact V
    obtain ⟨x12, ex12, hj⟩ := nm_some hj
    refine lv_iinc (v := x12) (lv' := [(3, .int x12), (0, .ref (ad 14)), (1, .int v1), (2, .int v2)]) hx hb dX0_add_78 hl (k := 3) rfl (by rw [ex12]; rfl) (by decide) rfl (fun ls hl => ?_)
    refine lv_goto (tgt := 59) hx hb dX0_add_81 (by decide) ?_
    exact hk_59 u11 v1 v2 x12 hj _ _ _ V (lv_sub hl [1, 2, 3, 0] rfl)
def j_X0_add_59  : Nat → St → Int32 → Int32 → Int32 → Option (St)
  | 0 => fun _ _ _ _ => none
  | n + 1 => q_X0_add_59  (j_X0_add_59  n)
theorem lp_X0_add_59 {p : Program} {l : Launch} {e : Env} {R : Room} {s : State} {m : MethodId} {args : Array Value} {below : List Frame} {meth : Method} {c : Code} {A : Nat → Prop} {Q : State → Prop} {D : va_G} {tc : Nat → ClassId} (ad ta : Nat → Nat) (us : Int32) (T : TbT) (sh : Nat) (hRf : 0 ≤ R.frames) (hRl : 0 ≤ R.locals) (C : Cx p s m args meth c cX0_add 4 RX0 none) {x0 : St} (hret : RetV p l e R s m args below meth c Q cX0_add D tc A (some x0) (fun x : St => Fw tc ad ta us T sh x))  : ∀ (n : Nat), ∀ (u : St) (v1 : Int32) (v2 : Int32) (v3 : Int32), j_X0_add_59  n u v1 v2 v3 = some x0 → ∀ (H : Heap) (locs : List Loc) (ls : Array Slot), Wd D tc A s H locs (Fw tc ad ta us T sh u) → lv_has ls 4 [(0, .ref (ad 14)), (1, .int v1), (2, .int v2), (3, .int v3)] → W p l e R s m args below meth c H locs 0 0 Q (F0 m 59 ls []) := by
  intro n
  induction n with
  | zero =>
    intro u v1 v2 v3 hj
    have hj : (none : Option (St)) = some x0 := hj
    cases hj
  | succ n ih =>
    intro u v1 v2 v3 hj
    exact b_X0_add_59 ad ta us T sh hRf hRl C hret   (j_X0_add_59  n) ih u v1 v2 v3 hj
def q_X0_add_2 (k_2 : St → Int32 → Int32 → Option (St)) (u : St) (v1 : Int32) (v2 : Int32) : Option (St) :=
  if (u.1 30) ≤ v2 then if (64 : Int32) ≤ (u.1 30) then some u else if (u.1 30) ≤ v2 then nm (u.1 30) (fun x4 => j_X0_add_59  100 u v1 v2 x4) else gd v2 64 (if (u.2.1 31 v2.toNatClampNeg) = v1 then some u else nm (u.1 30) (fun x15 => j_X0_add_59  100 u v1 v2 x15)) else gd v2 64 (if v1 ≤ (u.2.1 31 v2.toNatClampNeg) then if (64 : Int32) ≤ (u.1 30) then some u else if (u.1 30) ≤ v2 then nm (u.1 30) (fun x20 => j_X0_add_59  100 u v1 v2 x20) else gd v2 64 (if (u.2.1 31 v2.toNatClampNeg) = v1 then some u else nm (u.1 30) (fun x23 => j_X0_add_59  100 u v1 v2 x23)) else nm (v2 + 1) (fun x24 => k_2 u v1 x24))
set_option maxHeartbeats 4000000 in
set_option maxRecDepth 100000 in
theorem b_X0_add_2 {p : Program} {l : Launch} {e : Env} {R : Room} {s : State} {m : MethodId} {args : Array Value} {below : List Frame} {meth : Method} {c : Code} {A : Nat → Prop} {Q : State → Prop} {D : va_G} {tc : Nat → ClassId} (ad ta : Nat → Nat) (us : Int32) (T : TbT) (sh : Nat) (hRf : 0 ≤ R.frames) (hRl : 0 ≤ R.locals) (C : Cx p s m args meth c cX0_add 4 RX0 none) {x0 : St} (hret : RetV p l e R s m args below meth c Q cX0_add D tc A (some x0) (fun x : St => Fw tc ad ta us T sh x)) (k_2 : St → Int32 → Int32 → Option (St)) (hk_2 : ∀ (u : St) (v1 : Int32) (v2 : Int32), k_2 u v1 v2 = some x0 → ∀ (H : Heap) (locs : List Loc) (ls : Array Slot), Wd D tc A s H locs (Fw tc ad ta us T sh u) → lv_has ls 4 [(0, .ref (ad 14)), (1, .int v1), (2, .int v2)] → W p l e R s m args below meth c H locs 0 0 Q (F0 m 2 ls [])) : ∀ (u : St) (v1 : Int32) (v2 : Int32), q_X0_add_2 k_2 u v1 v2 = some x0 → ∀ (H : Heap) (locs : List Loc) (ls : Array Slot), Wd D tc A s H locs (Fw tc ad ta us T sh u) → lv_has ls 4 [(0, .ref (ad 14)), (1, .int v1), (2, .int v2)] → W p l e R s m args below meth c H locs 0 0 Q (F0 m 2 ls []) := by
  obtain ⟨hx, hb, hr, hml, hown, hts, hlk, hN⟩ := id C
  intro u v1 v2 hj H locs ls V hl
  unfold q_X0_add_2 at hj
  refine lv_iload_n hx hb dX0_add_2 rfl (lv_at hl 2 rfl) ?_
  refine lv_aload_n hx hb dX0_add_3 rfl (lv_at hl 0 rfl) ?_
  refine x_get hx hb hts hown V inX0 14 rfl rfl 1 (by decide) tw_133 rfl rfl dX0_add_4 ?_
  refine lv_icmp_ge (tgt := 26) hx hb dX0_add_7 (by decide) (fun c1 => ?_) (fun c1 => ?_)
  · replace hj := ip _ c1 hj
    refine lv_aload_n hx hb dX0_add_26 rfl (lv_at hl 0 rfl) ?_
    refine x_get hx hb hts hown V inX0 14 rfl rfl 1 (by decide) tw_133 rfl rfl dX0_add_27 ?_
    refine lv_bipush (v := 64) hx hb dX0_add_30 (by decide) ?_
    refine lv_icmp_ge (tgt := 53) hx hb dX0_add_32 (by decide) (fun c2 => ?_) (fun c2 => ?_)
    · replace hj := ip _ c2 hj
      exact hret u hj V dX0_add_53
    · replace hj := iq _ c2 hj
      refine lv_iload_n hx hb dX0_add_35 rfl (lv_at hl 2 rfl) ?_
      refine lv_aload_n hx hb dX0_add_36 rfl (lv_at hl 0 rfl) ?_
      refine x_get hx hb hts hown V inX0 14 rfl rfl 1 (by decide) tw_133 rfl rfl dX0_add_37 ?_
      refine lv_icmp_ge (tgt := 54) hx hb dX0_add_40 (by decide) (fun c3 => ?_) (fun c3 => ?_)
      · replace hj := ip _ c3 hj
        refine lv_aload_n hx hb dX0_add_54 rfl (lv_at hl 0 rfl) ?_
        refine x_get hx hb hts hown V inX0 14 rfl rfl 1 (by decide) tw_133 rfl rfl dX0_add_55 ?_
        obtain ⟨x4, ex4, hj⟩ := nm_some hj
        refine x_topi ex4 ?_
        refine lv_istore_n (lv' := [(3, .int x4), (0, .ref (ad 14)), (1, .int v1), (2, .int v2)]) hx hb dX0_add_58 rfl hl (by decide) rfl (fun ls hl => ?_)
        exact lp_X0_add_59 ad ta us T sh hRf hRl C hret   100 u v1 v2 x4 hj _ _ _ V (lv_sub hl [1, 2, 3, 0] rfl)
      · replace hj := iq _ c3 hj
        refine lv_aload_n hx hb dX0_add_43 rfl (lv_at hl 0 rfl) ?_
        refine x_get hx hb hts hown V inX0 14 rfl rfl 0 (by decide) tw_131 rfl rfl dX0_add_44 ?_
        refine lv_iload_n hx hb dX0_add_47 rfl (lv_at hl 2 rfl) ?_
        obtain ⟨i13, hj⟩ := gd_some hj
        refine x_iald hx hb V 15 rfl i13 dX0_add_48 ?_
        refine lv_iload_n hx hb dX0_add_49 rfl (lv_at hl 1 rfl) ?_
        refine lv_icmp_ne (tgt := 54) hx hb dX0_add_50 (by decide) (fun c14 => ?_) (fun c14 => ?_)
        · replace hj := iq _ c14 hj
          refine lv_aload_n hx hb dX0_add_54 rfl (lv_at hl 0 rfl) ?_
          refine x_get hx hb hts hown V inX0 14 rfl rfl 1 (by decide) tw_133 rfl rfl dX0_add_55 ?_
          obtain ⟨x15, ex15, hj⟩ := nm_some hj
          refine x_topi ex15 ?_
          refine lv_istore_n (lv' := [(3, .int x15), (0, .ref (ad 14)), (1, .int v1), (2, .int v2)]) hx hb dX0_add_58 rfl hl (by decide) rfl (fun ls hl => ?_)
          exact lp_X0_add_59 ad ta us T sh hRf hRl C hret   100 u v1 v2 x15 hj _ _ _ V (lv_sub hl [1, 2, 3, 0] rfl)
        · replace hj := ip _ c14 hj
          exact hret u hj V dX0_add_53
  · replace hj := iq _ c1 hj
    refine lv_aload_n hx hb dX0_add_10 rfl (lv_at hl 0 rfl) ?_
    refine x_get hx hb hts hown V inX0 14 rfl rfl 0 (by decide) tw_131 rfl rfl dX0_add_11 ?_
    refine lv_iload_n hx hb dX0_add_14 rfl (lv_at hl 2 rfl) ?_
    obtain ⟨i16, hj⟩ := gd_some hj
    refine x_iald hx hb V 15 rfl i16 dX0_add_15 ?_
    refine lv_iload_n hx hb dX0_add_16 rfl (lv_at hl 1 rfl) ?_
    refine lv_icmp_ge (tgt := 26) hx hb dX0_add_17 (by decide) (fun c17 => ?_) (fun c17 => ?_)
    · replace hj := ip _ c17 hj
      refine lv_aload_n hx hb dX0_add_26 rfl (lv_at hl 0 rfl) ?_
      refine x_get hx hb hts hown V inX0 14 rfl rfl 1 (by decide) tw_133 rfl rfl dX0_add_27 ?_
      refine lv_bipush (v := 64) hx hb dX0_add_30 (by decide) ?_
      refine lv_icmp_ge (tgt := 53) hx hb dX0_add_32 (by decide) (fun c18 => ?_) (fun c18 => ?_)
      · replace hj := ip _ c18 hj
        exact hret u hj V dX0_add_53
      · replace hj := iq _ c18 hj
        refine lv_iload_n hx hb dX0_add_35 rfl (lv_at hl 2 rfl) ?_
        refine lv_aload_n hx hb dX0_add_36 rfl (lv_at hl 0 rfl) ?_
        refine x_get hx hb hts hown V inX0 14 rfl rfl 1 (by decide) tw_133 rfl rfl dX0_add_37 ?_
        refine lv_icmp_ge (tgt := 54) hx hb dX0_add_40 (by decide) (fun c19 => ?_) (fun c19 => ?_)
        · replace hj := ip _ c19 hj
          refine lv_aload_n hx hb dX0_add_54 rfl (lv_at hl 0 rfl) ?_
          refine x_get hx hb hts hown V inX0 14 rfl rfl 1 (by decide) tw_133 rfl rfl dX0_add_55 ?_
          obtain ⟨x20, ex20, hj⟩ := nm_some hj
          refine x_topi ex20 ?_
          refine lv_istore_n (lv' := [(3, .int x20), (0, .ref (ad 14)), (1, .int v1), (2, .int v2)]) hx hb dX0_add_58 rfl hl (by decide) rfl (fun ls hl => ?_)
          exact lp_X0_add_59 ad ta us T sh hRf hRl C hret   100 u v1 v2 x20 hj _ _ _ V (lv_sub hl [1, 2, 3, 0] rfl)
        · replace hj := iq _ c19 hj
          refine lv_aload_n hx hb dX0_add_43 rfl (lv_at hl 0 rfl) ?_
          refine x_get hx hb hts hown V inX0 14 rfl rfl 0 (by decide) tw_131 rfl rfl dX0_add_44 ?_
          refine lv_iload_n hx hb dX0_add_47 rfl (lv_at hl 2 rfl) ?_
          obtain ⟨i21, hj⟩ := gd_some hj
          refine x_iald hx hb V 15 rfl i21 dX0_add_48 ?_
          refine lv_iload_n hx hb dX0_add_49 rfl (lv_at hl 1 rfl) ?_
          refine lv_icmp_ne (tgt := 54) hx hb dX0_add_50 (by decide) (fun c22 => ?_) (fun c22 => ?_)
          · replace hj := iq _ c22 hj
            refine lv_aload_n hx hb dX0_add_54 rfl (lv_at hl 0 rfl) ?_
            refine x_get hx hb hts hown V inX0 14 rfl rfl 1 (by decide) tw_133 rfl rfl dX0_add_55 ?_
            obtain ⟨x23, ex23, hj⟩ := nm_some hj
            refine x_topi ex23 ?_
            refine lv_istore_n (lv' := [(3, .int x23), (0, .ref (ad 14)), (1, .int v1), (2, .int v2)]) hx hb dX0_add_58 rfl hl (by decide) rfl (fun ls hl => ?_)
            exact lp_X0_add_59 ad ta us T sh hRf hRl C hret   100 u v1 v2 x23 hj _ _ _ V (lv_sub hl [1, 2, 3, 0] rfl)
          · replace hj := ip _ c22 hj
            exact hret u hj V dX0_add_53
    · replace hj := iq _ c17 hj
      obtain ⟨x24, ex24, hj⟩ := nm_some hj
      refine lv_iinc (v := x24) (lv' := [(2, .int x24), (0, .ref (ad 14)), (1, .int v1)]) hx hb dX0_add_20 hl (k := 2) rfl (by rw [ex24]; rfl) (by decide) rfl (fun ls hl => ?_)
      refine lv_goto (tgt := 2) hx hb dX0_add_23 (by decide) ?_
      exact hk_2 u v1 x24 hj _ _ _ V (lv_sub hl [1, 2, 0] rfl)
def j_X0_add_2  : Nat → St → Int32 → Int32 → Option (St)
  | 0 => fun _ _ _ => none
  | n + 1 => q_X0_add_2  (j_X0_add_2  n)
theorem lp_X0_add_2 {p : Program} {l : Launch} {e : Env} {R : Room} {s : State} {m : MethodId} {args : Array Value} {below : List Frame} {meth : Method} {c : Code} {A : Nat → Prop} {Q : State → Prop} {D : va_G} {tc : Nat → ClassId} (ad ta : Nat → Nat) (us : Int32) (T : TbT) (sh : Nat) (hRf : 0 ≤ R.frames) (hRl : 0 ≤ R.locals) (C : Cx p s m args meth c cX0_add 4 RX0 none) {x0 : St} (hret : RetV p l e R s m args below meth c Q cX0_add D tc A (some x0) (fun x : St => Fw tc ad ta us T sh x))  : ∀ (n : Nat), ∀ (u : St) (v1 : Int32) (v2 : Int32), j_X0_add_2  n u v1 v2 = some x0 → ∀ (H : Heap) (locs : List Loc) (ls : Array Slot), Wd D tc A s H locs (Fw tc ad ta us T sh u) → lv_has ls 4 [(0, .ref (ad 14)), (1, .int v1), (2, .int v2)] → W p l e R s m args below meth c H locs 0 0 Q (F0 m 2 ls []) := by
  intro n
  induction n with
  | zero =>
    intro u v1 v2 hj
    have hj : (none : Option (St)) = some x0 := hj
    cases hj
  | succ n ih =>
    intro u v1 v2 hj
    exact b_X0_add_2 ad ta us T sh hRf hRl C hret   (j_X0_add_2  n) ih u v1 v2 hj
def j_X0_add (u : St) (v1 : Int32) : Option (St) :=
  j_X0_add_2  100 u v1 (0 : Int32)
set_option maxHeartbeats 4000000 in
set_option maxRecDepth 100000 in
theorem k_X0_add (l : Launch) (D : va_G) (tc : Nat → ClassId) (ad ta : Nat → Nat) (us : Int32) (T : TbT) (sh : Nat) (u : St) (v1 : Int32) {x0 : St} (hj : j_X0_add u v1 = some x0) : MetD l D tc yX0_add cX0_add 4 none 0 0 [.ref (ad 14), .int v1] (Fw tc ad ta us T sh u) none (Fw tc ad ta us T sh x0) :=
  x_entV  (fun x : St => Fw tc ad ta us T sh x) (by decide) (own := RX0) rfl (Nat.le_of_ble_eq_true rfl) (fun p e s m args below meth c A Q ls C V hl hret => by
  obtain ⟨hx, hb, hr, hml, hown, hts, hlk, hN⟩ := id C
  have hRf : 0 ≤ (rmz 0 0 0 0).frames := Nat.le_refl _
  have hRl : 0 ≤ (rmz 0 0 0 0).locals := Nat.le_refl _
  generalize (rmz 0 0 0 0) = R at hret hRf hRl ⊢
  generalize s.heap = H at V ⊢
  generalize ([] : List Loc) = locs at V ⊢
  have hl : lv_has ls 4 [(0, .ref (ad 14)), (1, .int v1)] := hl
  unfold j_X0_add at hj
  refine lv_iconst (v := 0) hx hb dX0_add_0 (by decide) ?_
  refine lv_istore_n (lv' := [(2, .int (0 : Int32)), (0, .ref (ad 14)), (1, .int v1)]) hx hb dX0_add_1 rfl hl (by decide) rfl (fun ls hl => ?_)
  exact lp_X0_add_2 ad ta us T sh hRf hRl C hret   100 u v1 (0 : Int32) hj _ _ _ V (lv_sub hl [1, 2, 0] rfl))
