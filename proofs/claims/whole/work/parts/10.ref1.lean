def Mw (tc : Nat → ClassId) (o : Nat) (ad : Nat → Nat) (u : St) : va_W := [(o, .inr (6, [.int (u.1 0), .ref (ad 1), .ref (ad 2), .int (u.1 3), .int (u.1 4), .ref (ad 5), .ref (ad 6), .ref (ad 7), .ref (ad 8), .ref (ad 9), .ref (ad 10), .ref (ad 11), .ref (ad 12), .ref (ad 13), .ref (ad 14), .ref (ad 15), .int (u.1 16), .ref (ad 17), .ref (ad 18), .ref (ad 19), .ref (ad 20), .int (u.1 21), .long (u.2.2 22 0), .int (u.1 23), .int (u.1 24), .ref (ad 25), .int (u.1 26), .int (u.1 27), .ref (ad 28), .int (u.1 29)])), (ad 1, .inl (tc 0, 128, .inl (u.2.1 1))), (ad 2, .inl (tc 0, 128, .inl (u.2.1 2))), (ad 5, .inl (tc 0, 12, .inl (u.2.1 5))), (ad 6, .inl (tc 0, 12, .inl (u.2.1 6))), (ad 7, .inl (tc 0, 12, .inl (u.2.1 7))), (ad 8, .inl (tc 0, 12, .inl (u.2.1 8))), (ad 9, .inl (tc 0, 120, .inl (u.2.1 9))), (ad 10, .inl (tc 0, 120, .inl (u.2.1 10))), (ad 11, .inl (tc 0, 120, .inl (u.2.1 11))), (ad 12, .inl (tc 0, 120, .inl (u.2.1 12))), (ad 13, .inl (tc 0, 120, .inl (u.2.1 13))), (ad 14, .inl (tc 0, 120, .inl (u.2.1 14))), (ad 15, .inl (tc 0, 120, .inl (u.2.1 15))), (ad 17, .inl (tc 0, 132, .inl (u.2.1 17))), (ad 18, .inl (tc 0, 11, .inl (u.2.1 18))), (ad 19, .inl (tc 0, 11, .inl (u.2.1 19))), (ad 20, .inl (tc 0, 10, .inl (u.2.1 20))), (ad 25, .inl (tc 0, 8000, .inl (u.2.1 25))), (ad 28, .inl (tc 0, 10, .inl (u.2.1 28)))]
def j_X7_in (v0 : Int32) (v1 : Int32) (v2 : Int32) : Option (Int32) :=
  if v0 < v1 then some (0 : Int32) else if v2 < v0 then some (0 : Int32) else some (1 : Int32)
set_option maxHeartbeats 4000000 in
set_option maxRecDepth 100000 in
theorem k_X7_in (l : Launch) (D : va_G) (tc : Nat → ClassId) (ws : va_W) (v0 : Int32) (v1 : Int32) (v2 : Int32) {x0 : Int32} (hj : j_X7_in v0 v1 v2 = some x0) : MetD l D tc yX7_in cX7_in 3 (some .boolean) 0 0 [.int v0, .int v1, .int v2] (ws) (some (.int x0)) (ws) :=
  x_entI (fun x => x) (fun _ => ws) (by decide) (own := RX7) rfl (Nat.le_of_ble_eq_true rfl) (fun p e s m args below meth c A Q ls C V hl hret => by
  obtain ⟨hx, hb, hr, hml, hown, hts, hlk, hN⟩ := id C
  have hRf : 0 ≤ (rmz 0 0 0 0).frames := Nat.le_refl _
  have hRl : 0 ≤ (rmz 0 0 0 0).locals := Nat.le_refl _
  generalize (rmz 0 0 0 0) = R at hret hRf hRl ⊢
  generalize s.heap = H at V ⊢
  generalize ([] : List Loc) = locs at V ⊢
  have hl : lv_has ls 3 [(0, .int v0), (1, .int v1), (2, .int v2)] := hl
  unfold j_X7_in at hj
  refine lv_iload_n hx hb dX7_in_0 rfl (lv_at hl 0 rfl) ?_
  refine lv_iload_n hx hb dX7_in_1 rfl (lv_at hl 1 rfl) ?_
  refine lv_icmp_lt (tgt := 14) hx hb dX7_in_2 (by decide) (fun c1 => ?_) (fun c1 => ?_)
  · replace hj := ip _ c1 hj
    refine lv_iconst (v := 0) hx hb dX7_in_14 (by decide) ?_
    exact hret (0 : Int32) hj rfl V dX7_in_15
  · replace hj := iq _ c1 hj
    refine lv_iload_n hx hb dX7_in_5 rfl (lv_at hl 0 rfl) ?_
    refine lv_iload_n hx hb dX7_in_6 rfl (lv_at hl 2 rfl) ?_
    refine lv_icmp_gt (tgt := 14) hx hb dX7_in_7 (by decide) (fun c2 => ?_) (fun c2 => ?_)
    · replace hj := ip _ c2 hj
      refine lv_iconst (v := 0) hx hb dX7_in_14 (by decide) ?_
      exact hret (0 : Int32) hj rfl V dX7_in_15
    · replace hj := iq _ c2 hj
      refine lv_iconst (v := 1) hx hb dX7_in_10 (by decide) ?_
      refine lv_goto (tgt := 15) hx hb dX7_in_11 (by decide) ?_
      exact hret (1 : Int32) hj rfl V dX7_in_15)

def j_X7_isHistory (u : St) (v1 : Int32) : Option (Int32) :=
  (j_X7_in v1 (0 : Int32) ((u.1 4) - (1 : Int32))).bind (fun r1 => some r1)
set_option maxHeartbeats 4000000 in
set_option maxRecDepth 100000 in
theorem k_X7_isHistory (l : Launch) (D : va_G) (tc : Nat → ClassId) (o : Nat) (ad : Nat → Nat) (u : St) (v1 : Int32) {x0 : Int32} (hj : j_X7_isHistory u v1 = some x0) : MetD l D tc yX7_isHistory cX7_isHistory 2 (some .boolean) 1 22 [.ref o, .int v1] (Mw tc o ad u) (some (.int x0)) (Mw tc o ad u) :=
  x_entI (fun x => x) (fun _ => Mw tc o ad u) (by decide) (own := RX7) rfl (Nat.le_of_ble_eq_true rfl) (fun p e s m args below meth c A Q ls C V hl hret => by
  obtain ⟨hx, hb, hr, hml, hown, hts, hlk, hN⟩ := id C
  have hRf : 1 ≤ (rmz 1 0 0 22).frames := Nat.le_refl _
  have hRl : 22 ≤ (rmz 1 0 0 22).locals := Nat.le_refl _
  generalize (rmz 1 0 0 22) = R at hret hRf hRl ⊢
  generalize s.heap = H at V ⊢
  generalize ([] : List Loc) = locs at V ⊢
  have hl : lv_has ls 2 [(0, .ref o), (1, .int v1)] := hl
  unfold j_X7_isHistory at hj
  refine lv_iload_n hx hb dX7_isHistory_0 rfl (lv_at hl 1 rfl) ?_
  refine lv_iconst (v := 0) hx hb dX7_isHistory_1 (by decide) ?_
  refine lv_aload_n hx hb dX7_isHistory_2 rfl (lv_at hl 0 rfl) ?_
  refine x_get hx hb hts hown V inX7 0 rfl rfl 4 (by decide) tw_524 rfl rfl dX7_isHistory_3 ?_
  refine lv_iconst (v := 1) hx hb dX7_isHistory_6 (by decide) ?_
  refine lv_isub hx hb dX7_isHistory_7 ?_
  obtain ⟨r1, hr1, hj⟩ := bd_some hj
  refine x_allI V _ (rg_map _) (x_runS (n := 3) (rest := []) C V _ (rg_map _) (rg_nd _) (k_X7_in l D tc (Mw tc o ad u) v1 (0 : Int32) ((u.1 4) - (1 : Int32)) hr1) tw_619 tw_620 tw_6 tw_621 (by decide +kernel) ⟨Nat.le_trans (Nat.le_of_ble_eq_true rfl) hRf, Nat.le_trans (Nat.le_of_ble_eq_true rfl) hRl⟩ ⟨Nat.zero_le _, Nat.zero_le _⟩ rfl hl.1 rfl (Nat.le_of_ble_eq_true rfl) dX7_isHistory_8) (fun H locs V zr1 => ?_)
  replace V : Wd D tc A s H locs (Mw tc o ad u) := V
  exact hret r1 hj zr1 V dX7_isHistory_11)

def j_X7_isCall (u : St) (v1 : Int32) (v2 : Int32) : Option (Int32) :=
  (j_X7_isHistory u v1).bind (fun r1 => if r1 = (0 : Int32) then some (0 : Int32) else gd v1 12 ((j_X7_in v2 (0 : Int32) ((u.2.1 7 v1.toNatClampNeg) - (1 : Int32))).bind (fun r4 => if r4 = (0 : Int32) then some (0 : Int32) else some (1 : Int32))))
set_option maxHeartbeats 4000000 in
set_option maxRecDepth 100000 in
theorem k_X7_isCall (l : Launch) (D : va_G) (tc : Nat → ClassId) (o : Nat) (ad : Nat → Nat) (u : St) (v1 : Int32) (v2 : Int32) {x0 : Int32} (hj : j_X7_isCall u v1 v2 = some x0) : MetD l D tc yX7_isCall cX7_isCall 3 (some .boolean) 2 43 [.ref o, .int v1, .int v2] (Mw tc o ad u) (some (.int x0)) (Mw tc o ad u) :=
  x_entI (fun x => x) (fun _ => Mw tc o ad u) (by decide) (own := RX7) rfl (Nat.le_of_ble_eq_true rfl) (fun p e s m args below meth c A Q ls C V hl hret => by
  obtain ⟨hx, hb, hr, hml, hown, hts, hlk, hN⟩ := id C
  have hRf : 2 ≤ (rmz 2 0 0 43).frames := Nat.le_refl _
  have hRl : 43 ≤ (rmz 2 0 0 43).locals := Nat.le_refl _
  generalize (rmz 2 0 0 43) = R at hret hRf hRl ⊢
  generalize s.heap = H at V ⊢
  generalize ([] : List Loc) = locs at V ⊢
  have hl : lv_has ls 3 [(0, .ref o), (1, .int v1), (2, .int v2)] := hl
  unfold j_X7_isCall at hj
  refine lv_aload_n hx hb dX7_isCall_0 rfl (lv_at hl 0 rfl) ?_
  refine lv_iload_n hx hb dX7_isCall_1 rfl (lv_at hl 1 rfl) ?_
  obtain ⟨r1, hr1, hj⟩ := bd_some hj
  refine x_allI V _ (rg_map _) (x_runV (n := 1) (rest := []) C V _ (rg_map _) (rg_nd _) (k_X7_isHistory l D tc o ad u v1 hr1) tw_630 tw_632 tp_10 tw_6 tw_633 (by decide +kernel) ⟨Nat.le_trans (Nat.le_of_ble_eq_true rfl) hRf, Nat.le_trans (Nat.le_of_ble_eq_true rfl) hRl⟩ ⟨Nat.zero_le _, Nat.zero_le _⟩ 0 6 rfl rfl rfl hl.1 rfl (Nat.le_of_ble_eq_true rfl) dX7_isCall_2) (fun H locs V zr1 => ?_)
  replace V : Wd D tc A s H locs (Mw tc o ad u) := V
  refine lv_if_eq (tgt := 28) hx hb dX7_isCall_5 (by decide) (fun c2 => ?_) (fun c2 => ?_)
  · replace hj := ip _ c2 hj
    refine lv_iconst (v := 0) hx hb dX7_isCall_28 (by decide) ?_
    exact hret (0 : Int32) hj rfl V dX7_isCall_29
  · replace hj := iq _ c2 hj
    refine lv_iload_n hx hb dX7_isCall_8 rfl (lv_at hl 2 rfl) ?_
    refine lv_iconst (v := 0) hx hb dX7_isCall_9 (by decide) ?_
    refine lv_aload_n hx hb dX7_isCall_10 rfl (lv_at hl 0 rfl) ?_
    refine x_get hx hb hts hown V inX7 0 rfl rfl 7 (by decide) tw_527 rfl rfl dX7_isCall_11 ?_
    refine lv_iload_n hx hb dX7_isCall_14 rfl (lv_at hl 1 rfl) ?_
    obtain ⟨i3, hj⟩ := gd_some hj
    refine x_iald hx hb V 5 rfl i3 dX7_isCall_15 ?_
    refine lv_iconst (v := 1) hx hb dX7_isCall_16 (by decide) ?_
    refine lv_isub hx hb dX7_isCall_17 ?_
    obtain ⟨r4, hr4, hj⟩ := bd_some hj
    refine x_allI V _ (rg_map _) (x_runS (n := 3) (rest := []) C V _ (rg_map _) (rg_nd _) (k_X7_in l D tc (Mw tc o ad u) v2 (0 : Int32) ((u.2.1 7 v1.toNatClampNeg) - (1 : Int32)) hr4) tw_619 tw_620 tw_6 tw_621 (by decide +kernel) ⟨Nat.le_trans (Nat.le_of_ble_eq_true rfl) hRf, Nat.le_trans (Nat.le_of_ble_eq_true rfl) hRl⟩ ⟨Nat.zero_le _, Nat.zero_le _⟩ rfl hl.1 rfl (Nat.le_of_ble_eq_true rfl) dX7_isCall_18) (fun H locs V zr4 => ?_)
    replace V : Wd D tc A s H locs (Mw tc o ad u) := V
    refine lv_if_eq (tgt := 28) hx hb dX7_isCall_21 (by decide) (fun c5 => ?_) (fun c5 => ?_)
    · replace hj := ip _ c5 hj
      refine lv_iconst (v := 0) hx hb dX7_isCall_28 (by decide) ?_
      exact hret (0 : Int32) hj rfl V dX7_isCall_29
    · replace hj := iq _ c5 hj
      refine lv_iconst (v := 1) hx hb dX7_isCall_24 (by decide) ?_
      refine lv_goto (tgt := 29) hx hb dX7_isCall_25 (by decide) ?_
      exact hret (1 : Int32) hj rfl V dX7_isCall_29)

def q_X7_isQuiet_3 (u : St) (k_3 : Int32 → Int32 → Int32 → Int32 → Option (Int32)) (v1 : Int32) (v2 : Int32) (v3 : Int32) (v4 : Int32) : Option (Int32) :=
  gd v1 12 (if (u.2.1 7 v1.toNatClampNeg) ≤ v4 then some (1 : Int32) else nm (((10 : Int32) * v1) + v4) (fun x3 => if ((v2 >>> (v4 &&& 31)) &&& (1 : Int32)) = (1 : Int32) then gd x3 120 (if v3 < (u.2.1 13 x3.toNatClampNeg) then nm (v4 + 1) (fun x8 => k_3 v1 v2 v3 x8) else gd x3 120 (if (u.2.1 14 x3.toNatClampNeg) = (0 : Int32) then some (0 : Int32) else gd x3 120 (if (u.2.1 14 x3.toNatClampNeg) ≤ v3 then nm (v4 + 1) (fun x13 => k_3 v1 v2 v3 x13) else some (0 : Int32)))) else nm (v4 + 1) (fun x5 => k_3 v1 v2 v3 x5)))
set_option maxHeartbeats 4000000 in
set_option maxRecDepth 100000 in
theorem b_X7_isQuiet_3 {p : Program} {l : Launch} {e : Env} {R : Room} {s : State} {m : MethodId} {args : Array Value} {below : List Frame} {meth : Method} {c : Code} {A : Nat → Prop} {Q : State → Prop} {D : va_G} {tc : Nat → ClassId} (o : Nat) (ad : Nat → Nat) (u : St) (hRf : 0 ≤ R.frames) (hRl : 0 ≤ R.locals) (C : Cx p s m args meth c cX7_isQuiet 6 RX7 (some .boolean)) {x0 : Int32} (hret : RetI p l e R s m args below meth c Q cX7_isQuiet D tc A .boolean (some x0) (fun x => x) (fun _ => Mw tc o ad u)) (k_3 : Int32 → Int32 → Int32 → Int32 → Option (Int32)) (hk_3 : ∀ (v1 : Int32) (v2 : Int32) (v3 : Int32) (v4 : Int32), k_3 v1 v2 v3 v4 = some x0 → ∀ (H : Heap) (locs : List Loc) (ls : Array Slot), Wd D tc A s H locs (Mw tc o ad u) → lv_has ls 6 [(0, .ref o), (1, .int v1), (2, .int v2), (3, .int v3), (4, .int v4)] → W p l e R s m args below meth c H locs 0 0 Q (F0 m 3 ls [])) : ∀ (v1 : Int32) (v2 : Int32) (v3 : Int32) (v4 : Int32), q_X7_isQuiet_3 u k_3 v1 v2 v3 v4 = some x0 → ∀ (H : Heap) (locs : List Loc) (ls : Array Slot), Wd D tc A s H locs (Mw tc o ad u) → lv_has ls 6 [(0, .ref o), (1, .int v1), (2, .int v2), (3, .int v3), (4, .int v4)] → W p l e R s m args below meth c H locs 0 0 Q (F0 m 3 ls []) := by
  obtain ⟨hx, hb, hr, hml, hown, hts, hlk, hN⟩ := id C
  intro v1 v2 v3 v4 hj H locs ls V hl
  unfold q_X7_isQuiet_3 at hj
  refine lv_iload hx hb dX7_isQuiet_3 (lv_at hl 4 rfl) ?_
  refine lv_aload_n hx hb dX7_isQuiet_5 rfl (lv_at hl 0 rfl) ?_
  refine x_get hx hb hts hown V inX7 0 rfl rfl 7 (by decide) tw_527 rfl rfl dX7_isQuiet_6 ?_
  refine lv_iload_n hx hb dX7_isQuiet_9 rfl (lv_at hl 1 rfl) ?_
  obtain ⟨i1, hj⟩ := gd_some hj
  refine x_iald hx hb V 5 rfl i1 dX7_isQuiet_10 ?_
  refine lv_icmp_ge (tgt := 73) hx hb dX7_isQuiet_11 (by decide) (fun c2 => ?_) (fun c2 => ?_)
  · replace hj := ip _ c2 hj
    refine lv_iconst (v := 1) hx hb dX7_isQuiet_73 (by decide) ?_
    exact hret (1 : Int32) hj rfl V dX7_isQuiet_74
  · replace hj := iq _ c2 hj
    refine lv_bipush (v := 10) hx hb dX7_isQuiet_14 (by decide) ?_
    refine lv_iload_n hx hb dX7_isQuiet_16 rfl (lv_at hl 1 rfl) ?_
    refine lv_imul hx hb dX7_isQuiet_17 ?_
    refine lv_iload hx hb dX7_isQuiet_18 (lv_at hl 4 rfl) ?_
    refine lv_iadd hx hb dX7_isQuiet_20 ?_
    obtain ⟨x3, ex3, hj⟩ := nm_some hj
    refine x_topi ex3 ?_
    refine lv_istore (lv' := [(5, .int x3), (0, .ref o), (1, .int v1), (2, .int v2), (3, .int v3), (4, .int v4)]) hx hb dX7_isQuiet_21 hl (by decide) rfl (fun ls hl => ?_)
    refine lv_iload_n hx hb dX7_isQuiet_23 rfl (lv_at hl 3 rfl) ?_
    refine lv_iload hx hb dX7_isQuiet_24 (lv_at hl 5 rfl) ?_
    refine lv_ishr hx hb dX7_isQuiet_26 ?_
    refine lv_iconst (v := 1) hx hb dX7_isQuiet_27 (by decide) ?_
    refine lv_iand hx hb dX7_isQuiet_28 ?_
    refine lv_iconst (v := 1) hx hb dX7_isQuiet_29 (by decide) ?_
    refine lv_icmp_ne (tgt := 67) hx hb dX7_isQuiet_30 (by decide) (fun c4 => ?_) (fun c4 => ?_)
    · replace hj := iq _ c4 hj
      obtain ⟨x5, ex5, hj⟩ := nm_some hj
      refine lv_iinc (v := x5) (lv' := [(4, .int x5), (5, .int x3), (0, .ref o), (1, .int v1), (2, .int v2), (3, .int v3)]) hx hb dX7_isQuiet_67 hl (k := 5) rfl (by rw [ex5]; rfl) (by decide) rfl (fun ls hl => ?_)
      refine lv_goto (tgt := 3) hx hb dX7_isQuiet_70 (by decide) ?_
      exact hk_3 v1 v2 v3 x5 hj _ _ _ V (lv_sub hl [2, 3, 4, 5, 0] rfl)
    · replace hj := ip _ c4 hj
      refine lv_aload_n hx hb dX7_isQuiet_33 rfl (lv_at hl 1 rfl) ?_
      refine x_get hx hb hts hown V inX7 0 rfl rfl 13 (by decide) tw_533 rfl rfl dX7_isQuiet_34 ?_
      refine lv_iload hx hb dX7_isQuiet_37 (lv_at hl 0 rfl) ?_
      obtain ⟨i6, hj⟩ := gd_some hj
      refine x_iald hx hb V 11 rfl i6 dX7_isQuiet_39 ?_
      refine lv_iload_n hx hb dX7_isQuiet_40 rfl (lv_at hl 4 rfl) ?_
      refine lv_icmp_gt (tgt := 67) hx hb dX7_isQuiet_41 (by decide) (fun c7 => ?_) (fun c7 => ?_)
      · replace hj := ip _ c7 hj
        obtain ⟨x8, ex8, hj⟩ := nm_some hj
        refine lv_iinc (v := x8) (lv' := [(4, .int x8), (5, .int x3), (0, .ref o), (1, .int v1), (2, .int v2), (3, .int v3)]) hx hb dX7_isQuiet_67 hl (k := 5) rfl (by rw [ex8]; rfl) (by decide) rfl (fun ls hl => ?_)
        refine lv_goto (tgt := 3) hx hb dX7_isQuiet_70 (by decide) ?_
        exact hk_3 v1 v2 v3 x8 hj _ _ _ V (lv_sub hl [2, 3, 4, 5, 0] rfl)
      · replace hj := iq _ c7 hj
        refine lv_aload_n hx hb dX7_isQuiet_44 rfl (lv_at hl 1 rfl) ?_
        refine x_get hx hb hts hown V inX7 0 rfl rfl 14 (by decide) tw_534 rfl rfl dX7_isQuiet_45 ?_
        refine lv_iload hx hb dX7_isQuiet_48 (lv_at hl 0 rfl) ?_
        obtain ⟨i9, hj⟩ := gd_some hj
        refine x_iald hx hb V 12 rfl i9 dX7_isQuiet_50 ?_
        refine lv_if_eq (tgt := 65) hx hb dX7_isQuiet_51 (by decide) (fun c10 => ?_) (fun c10 => ?_)
        · replace hj := ip _ c10 hj
          refine lv_iconst (v := 0) hx hb dX7_isQuiet_65 (by decide) ?_
          exact hret (0 : Int32) hj rfl V dX7_isQuiet_66
        · replace hj := iq _ c10 hj
          refine lv_aload_n hx hb dX7_isQuiet_54 rfl (lv_at hl 1 rfl) ?_
          refine x_get hx hb hts hown V inX7 0 rfl rfl 14 (by decide) tw_534 rfl rfl dX7_isQuiet_55 ?_
          refine lv_iload hx hb dX7_isQuiet_58 (lv_at hl 0 rfl) ?_
          obtain ⟨i11, hj⟩ := gd_some hj
          refine x_iald hx hb V 12 rfl i11 dX7_isQuiet_60 ?_
          refine lv_iload_n hx hb dX7_isQuiet_61 rfl (lv_at hl 4 rfl) ?_
          refine lv_icmp_le (tgt := 67) hx hb dX7_isQuiet_62 (by decide) (fun c12 => ?_) (fun c12 => ?_)
          · replace hj := ip _ c12 hj
            obtain ⟨x13, ex13, hj⟩ := nm_some hj
            refine lv_iinc (v := x13) (lv' := [(4, .int x13), (5, .int x3), (0, .ref o), (1, .int v1), (2, .int v2), (3, .int v3)]) hx hb dX7_isQuiet_67 hl (k := 5) rfl (by rw [ex13]; rfl) (by decide) rfl (fun ls hl => ?_)
            refine lv_goto (tgt := 3) hx hb dX7_isQuiet_70 (by decide) ?_
            exact hk_3 v1 v2 v3 x13 hj _ _ _ V (lv_sub hl [2, 3, 4, 5, 0] rfl)
          · replace hj := iq _ c12 hj
            refine lv_iconst (v := 0) hx hb dX7_isQuiet_65 (by decide) ?_
            exact hret (0 : Int32) hj rfl V dX7_isQuiet_66
def j_X7_isQuiet_3 (u : St) : Nat → Int32 → Int32 → Int32 → Int32 → Option (Int32)
  | 0 => fun _ _ _ _ => none
  | n + 1 => q_X7_isQuiet_3 u (j_X7_isQuiet_3 u n)
theorem lp_X7_isQuiet_3 {p : Program} {l : Launch} {e : Env} {R : Room} {s : State} {m : MethodId} {args : Array Value} {below : List Frame} {meth : Method} {c : Code} {A : Nat → Prop} {Q : State → Prop} {D : va_G} {tc : Nat → ClassId} (o : Nat) (ad : Nat → Nat) (u : St) (hRf : 0 ≤ R.frames) (hRl : 0 ≤ R.locals) (C : Cx p s m args meth c cX7_isQuiet 6 RX7 (some .boolean)) {x0 : Int32} (hret : RetI p l e R s m args below meth c Q cX7_isQuiet D tc A .boolean (some x0) (fun x => x) (fun _ => Mw tc o ad u))  : ∀ (n : Nat), ∀ (v1 : Int32) (v2 : Int32) (v3 : Int32) (v4 : Int32), j_X7_isQuiet_3 u n v1 v2 v3 v4 = some x0 → ∀ (H : Heap) (locs : List Loc) (ls : Array Slot), Wd D tc A s H locs (Mw tc o ad u) → lv_has ls 6 [(0, .ref o), (1, .int v1), (2, .int v2), (3, .int v3), (4, .int v4)] → W p l e R s m args below meth c H locs 0 0 Q (F0 m 3 ls []) := by
  intro n
  induction n with
  | zero =>
    intro v1 v2 v3 v4 hj
    have hj : (none : Option (Int32)) = some x0 := hj
    cases hj
  | succ n ih =>
    intro v1 v2 v3 v4 hj
    exact b_X7_isQuiet_3 o ad u hRf hRl C hret   (j_X7_isQuiet_3 u n) ih v1 v2 v3 v4 hj
def j_X7_isQuiet (u : St) (v1 : Int32) (v2 : Int32) (v3 : Int32) : Option (Int32) :=
  j_X7_isQuiet_3 u 100 v1 v2 v3 (0 : Int32)
set_option maxHeartbeats 4000000 in
set_option maxRecDepth 100000 in
theorem k_X7_isQuiet (l : Launch) (D : va_G) (tc : Nat → ClassId) (o : Nat) (ad : Nat → Nat) (u : St) (v1 : Int32) (v2 : Int32) (v3 : Int32) {x0 : Int32} (hj : j_X7_isQuiet u v1 v2 v3 = some x0) : MetD l D tc yX7_isQuiet cX7_isQuiet 6 (some .boolean) 0 0 [.ref o, .int v1, .int v2, .int v3] (Mw tc o ad u) (some (.int x0)) (Mw tc o ad u) :=
  x_entI (fun x => x) (fun _ => Mw tc o ad u) (by decide) (own := RX7) rfl (Nat.le_of_ble_eq_true rfl) (fun p e s m args below meth c A Q ls C V hl hret => by
  obtain ⟨hx, hb, hr, hml, hown, hts, hlk, hN⟩ := id C
  have hRf : 0 ≤ (rmz 0 0 0 0).frames := Nat.le_refl _
  have hRl : 0 ≤ (rmz 0 0 0 0).locals := Nat.le_refl _
  generalize (rmz 0 0 0 0) = R at hret hRf hRl ⊢
  generalize s.heap = H at V ⊢
  generalize ([] : List Loc) = locs at V ⊢
  have hl : lv_has ls 6 [(0, .ref o), (1, .int v1), (2, .int v2), (3, .int v3)] := hl
  unfold j_X7_isQuiet at hj
  refine lv_iconst (v := 0) hx hb dX7_isQuiet_0 (by decide) ?_
  refine lv_istore (lv' := [(4, .int (0 : Int32)), (0, .ref o), (1, .int v1), (2, .int v2), (3, .int v3)]) hx hb dX7_isQuiet_1 hl (by decide) rfl (fun ls hl => ?_)
  exact lp_X7_isQuiet_3 o ad u hRf hRl C hret   100 v1 v2 v3 (0 : Int32) hj _ _ _ V (lv_sub hl [1, 2, 3, 4, 0] rfl))
