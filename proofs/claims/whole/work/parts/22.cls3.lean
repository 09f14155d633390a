def j_X4_isWhole (u : St) (v1 : Int32) : Option (Int32) :=
  if ((u.1 12) &&& (v1 ^^^ (-1 : Int32))) = (0 : Int32) then some (1 : Int32) else some (0 : Int32)
set_option maxHeartbeats 4000000 in
set_option maxRecDepth 100000 in
theorem k_X4_isWhole (l : Launch) (D : va_G) (tc : Nat → ClassId) (ad ta : Nat → Nat) (us : Int32) (T : TbT) (sh : Nat) (u : St) (v1 : Int32) {x0 : Int32} (hj : j_X4_isWhole u v1 = some x0) : MetD l D tc yX4_isWhole cX4_isWhole 2 (some .boolean) 0 0 [.ref (ad 0), .int v1] (Fw tc ad ta us T sh u) (some (.int x0)) (Fw tc ad ta us T sh u) :=
  x_entI (fun x : Int32 => x) (fun _ : Int32 => Fw tc ad ta us T sh u) (by decide) (own := RX4) rfl (Nat.le_of_ble_eq_true rfl) (fun p e s m args below meth c A Q ls C V hl hret => by
  obtain ⟨hx, hb, hr, hml, hown, hts, hlk, hN⟩ := id C
  have hRf : 0 ≤ (rmz 0 0 0 0).frames := Nat.le_refl _
  have hRl : 0 ≤ (rmz 0 0 0 0).locals := Nat.le_refl _
  generalize (rmz 0 0 0 0) = R at hret hRf hRl ⊢
  generalize s.heap = H at V ⊢
  generalize ([] : List Loc) = locs at V ⊢
  have hl : lv_has ls 2 [(0, .ref (ad 0)), (1, .int v1)] := hl
  unfold j_X4_isWhole at hj
  refine lv_aload_n hx hb dX4_isWhole_0 rfl (lv_at hl 0 rfl) ?_
  refine x_get hx hb hts hown V inX4 0 rfl rfl 2 (by decide) tw_108 rfl rfl dX4_isWhole_1 ?_
  refine lv_iload_n hx hb dX4_isWhole_4 rfl (lv_at hl 1 rfl) ?_
  refine lv_iconst (v := (-1)) hx hb dX4_isWhole_5 (by decide) ?_
  refine lv_ixor hx hb dX4_isWhole_6 ?_
  refine lv_iand hx hb dX4_isWhole_7 ?_
  refine lv_if_ne (tgt := 15) hx hb dX4_isWhole_8 (by decide) (fun c1 => ?_) (fun c1 => ?_)
  · replace hj := iq _ c1 hj
    refine lv_iconst (v := 0) hx hb dX4_isWhole_15 (by decide) ?_
    exact hret (0 : Int32) hj zn_0 V dX4_isWhole_16
  · replace hj := ip _ c1 hj
    refine lv_iconst (v := 1) hx hb dX4_isWhole_11 (by decide) ?_
    refine lv_goto (tgt := 16) hx hb dX4_isWhole_12 (by decide) ?_
    exact hret (1 : Int32) hj zn_1 V dX4_isWhole_16)

def j_X4_fits (T : TbT) (u : St) (v1 : Int32) (v2 : Int32) (v3 : Int64) : Option (Int32) :=
  (j_X1_hasCall u v1).bind (fun r1 => if r1 = (0 : Int32) then some (0 : Int32) else (j_X6_holds ((u.1 11) &&& (v2 ^^^ (-1 : Int32))) v1).bind (fun r3 => if r3 = (0 : Int32) then some (0 : Int32) else gd v1 10 (if ((u.2.1 13 v1.toNatClampNeg) &&& (v2 ^^^ (-1 : Int32))) = (0 : Int32) then (j_X1_isOpen u v1).bind (fun r7 => if r7 = (0 : Int32) then (j_X3_reply T u v1 v3).bind (fun r9 => gd v1 10 (if r9 = (u.2.1 10 v1.toNatClampNeg) then some (1 : Int32) else some (0 : Int32))) else some (1 : Int32)) else some (0 : Int32))))
set_option maxHeartbeats 4000000 in
set_option maxRecDepth 100000 in
theorem k_X4_fits (l : Launch) (D : va_G) (tc : Nat → ClassId) (ad ta : Nat → Nat) (us : Int32) (T : TbT) (sh : Nat) (u : St) (v1 : Int32) (v2 : Int32) (v3 : Int64) {x0 : Int32} (hj : j_X4_fits T u v1 v2 v3 = some x0) : MetD l D tc yX4_fits cX4_fits 5 (some .boolean) 4 88 [.ref (ad 0), .int v1, .int v2, .long v3] (Fw tc ad ta us T (ad 6) u) (some (.int x0)) (Fw tc ad ta us T (ad 6) u) :=
  x_entI (fun x : Int32 => x) (fun _ : Int32 => Fw tc ad ta us T (ad 6) u) (by decide) (own := RX4) rfl (Nat.le_of_ble_eq_true rfl) (fun p e s m args below meth c A Q ls C V hl hret => by
  obtain ⟨hx, hb, hr, hml, hown, hts, hlk, hN⟩ := id C
  have hRf : 4 ≤ (rmz 4 0 0 88).frames := Nat.le_refl _
  have hRl : 88 ≤ (rmz 4 0 0 88).locals := Nat.le_refl _
  generalize (rmz 4 0 0 88) = R at hret hRf hRl ⊢
  generalize s.heap = H at V ⊢
  generalize ([] : List Loc) = locs at V ⊢
  have hl : lv_has ls 5 [(0, .ref (ad 0)), (1, .int v1), (2, .int v2), (3, .long v3)] := hl
  unfold j_X4_fits at hj
  refine lv_aload_n hx hb dX4_fits_0 rfl (lv_at hl 0 rfl) ?_
  refine x_get hx hb hts hown V inX4 0 rfl rfl 0 (by decide) tw_106 rfl rfl dX4_fits_1 ?_
  refine lv_iload_n hx hb dX4_fits_4 rfl (lv_at hl 1 rfl) ?_
  obtain ⟨r1, hr1, hj⟩ := bd_some hj
  refine x_allI V _ (rg_map _) (x_runV (n := 1) (rest := []) C V _ (rg_map _) (rg_nd _) (k_X1_hasCall l D tc ad ta us T (ad 6) u v1 hr1) tw_378 tw_263 tw_264 tw_3 tw_265 (by decide +kernel) ⟨Nat.le_trans (Nat.le_of_ble_eq_true rfl) hRf, Nat.le_trans (Nat.le_of_ble_eq_true rfl) hRl⟩ ⟨Nat.zero_le _, Nat.zero_le _⟩ 6 1 rfl rfl rfl hl.1 rfl (Nat.le_of_ble_eq_true rfl) dX4_fits_5) (fun H locs V zr1 => ?_)
  replace V : Wd D tc A s H locs (Fw tc ad ta us T (ad 6) u) := V
  refine lv_if_eq (tgt := 39) hx hb dX4_fits_8 (by decide) (fun c2 => ?_) (fun c2 => ?_)
  · replace hj := ip _ c2 hj
    refine lv_iconst (v := 0) hx hb dX4_fits_39 (by decide) ?_
    exact hret (0 : Int32) hj zn_0 V dX4_fits_40
  · replace hj := iq _ c2 hj
    refine lv_aload_n hx hb dX4_fits_11 rfl (lv_at hl 0 rfl) ?_
    refine x_get hx hb hts hown V inX4 0 rfl rfl 1 (by decide) tw_107 rfl rfl dX4_fits_12 ?_
    refine lv_iload_n hx hb dX4_fits_15 rfl (lv_at hl 2 rfl) ?_
    refine lv_iconst (v := (-1)) hx hb dX4_fits_16 (by decide) ?_
    refine lv_ixor hx hb dX4_fits_17 ?_
    refine lv_iand hx hb dX4_fits_18 ?_
    refine lv_iload_n hx hb dX4_fits_19 rfl (lv_at hl 1 rfl) ?_
    obtain ⟨r3, hr3, hj⟩ := bd_some hj
    refine x_allI V _ (rg_map _) (x_runSN (n := 2) (rest := []) C V _ (rg_map _) (rg_nd _) (k_X6_holds l D tc (Fw tc ad ta us T (ad 6) u) ((u.1 11) &&& (v2 ^^^ (-1 : Int32))) v1 hr3) hN.2.2.2.2.2 tw_326 tw_1 tw_327 (by decide +kernel) ⟨Nat.le_trans (Nat.le_of_ble_eq_true rfl) hRf, Nat.le_trans (Nat.le_of_ble_eq_true rfl) hRl⟩ ⟨Nat.zero_le _, Nat.zero_le _⟩ rfl hl.1 rfl (Nat.le_of_ble_eq_true rfl) dX4_fits_20) (fun H locs V zr3 => ?_)
    replace V : Wd D tc A s H locs (Fw tc ad ta us T (ad 6) u) := V
    refine lv_if_eq (tgt := 39) hx hb dX4_fits_23 (by decide) (fun c4 => ?_) (fun c4 => ?_)
    · replace hj := ip _ c4 hj
      refine lv_iconst (v := 0) hx hb dX4_fits_39 (by decide) ?_
      exact hret (0 : Int32) hj zn_0 V dX4_fits_40
    · replace hj := iq _ c4 hj
      refine lv_aload_n hx hb dX4_fits_26 rfl (lv_at hl 0 rfl) ?_
      refine x_get hx hb hts hown V inX4 0 rfl rfl 3 (by decide) tw_109 rfl rfl dX4_fits_27 ?_
      refine lv_iload_n hx hb dX4_fits_30 rfl (lv_at hl 1 rfl) ?_
      obtain ⟨i5, hj⟩ := gd_some hj
      refine x_iald hx hb V 1 rfl i5 dX4_fits_31 ?_
      refine lv_iload_n hx hb dX4_fits_32 rfl (lv_at hl 2 rfl) ?_
      refine lv_iconst (v := (-1)) hx hb dX4_fits_33 (by decide) ?_
      refine lv_ixor hx hb dX4_fits_34 ?_
      refine lv_iand hx hb dX4_fits_35 ?_
      refine lv_if_eq (tgt := 41) hx hb dX4_fits_36 (by decide) (fun c6 => ?_) (fun c6 => ?_)
      · replace hj := ip _ c6 hj
        refine lv_aload_n hx hb dX4_fits_41 rfl (lv_at hl 0 rfl) ?_
        refine x_get hx hb hts hown V inX4 0 rfl rfl 0 (by decide) tw_106 rfl rfl dX4_fits_42 ?_
        refine lv_iload_n hx hb dX4_fits_45 rfl (lv_at hl 1 rfl) ?_
        obtain ⟨r7, hr7, hj⟩ := bd_some hj
        refine x_allI V _ (rg_map _) (x_runV (n := 1) (rest := []) C V _ (rg_map _) (rg_nd _) (k_X1_isOpen l D tc ad ta us T (ad 6) u v1 hr7) tw_379 tw_267 tw_268 tw_3 tw_269 (by decide +kernel) ⟨Nat.le_trans (Nat.le_of_ble_eq_true rfl) hRf, Nat.le_trans (Nat.le_of_ble_eq_true rfl) hRl⟩ ⟨Nat.zero_le _, Nat.zero_le _⟩ 6 1 rfl rfl rfl hl.1 rfl (Nat.le_of_ble_eq_true rfl) dX4_fits_46) (fun H locs V zr7 => ?_)
        replace V : Wd D tc A s H locs (Fw tc ad ta us T (ad 6) u) := V
        refine lv_if_ne (tgt := 73) hx hb dX4_fits_49 (by decide) (fun c8 => ?_) (fun c8 => ?_)
        · replace hj := iq _ c8 hj
          refine lv_iconst (v := 1) hx hb dX4_fits_73 (by decide) ?_
          refine lv_goto (tgt := 78) hx hb dX4_fits_74 (by decide) ?_
          exact hret (1 : Int32) hj zn_1 V dX4_fits_78
        · replace hj := ip _ c8 hj
          refine lv_aload_n hx hb dX4_fits_52 rfl (lv_at hl 0 rfl) ?_
          refine x_get hx hb hts hown V inX4 0 rfl rfl 0 (by decide) tw_106 rfl rfl dX4_fits_53 ?_
          refine lv_iload_n hx hb dX4_fits_56 rfl (lv_at hl 1 rfl) ?_
          refine lv_lload_n hx hb dX4_fits_57 rfl (lv_at hl 3 rfl) ?_
          obtain ⟨r9, hr9, hj⟩ := bd_some hj
          refine x_allI V _ (rg_map _) (x_runS (n := 3) (rest := []) C V _ (rg_map _) (rg_nd _) (k_X3_reply l D tc ad ta us T (ad 6) u v1 v3 hr9) tw_380 tw_381 tw_8 tw_382 (by decide +kernel) ⟨Nat.le_trans (Nat.le_of_ble_eq_true rfl) hRf, Nat.le_trans (Nat.le_of_ble_eq_true rfl) hRl⟩ ⟨Nat.zero_le _, Nat.zero_le _⟩ rfl hl.1 rfl (Nat.le_of_ble_eq_true rfl) dX4_fits_58) (fun H locs V zr9 => ?_)
          replace V : Wd D tc A s H locs (Fw tc ad ta us T (ad 6) u) := V
          refine lv_aload_n hx hb dX4_fits_61 rfl (lv_at hl 0 rfl) ?_
          refine x_get hx hb hts hown V inX4 0 rfl rfl 0 (by decide) tw_106 rfl rfl dX4_fits_62 ?_
          refine x_get hx hb hts hown V inX1 6 rfl rfl 10 (by decide) tw_61 rfl rfl dX4_fits_65 ?_
          refine lv_iload_n hx hb dX4_fits_68 rfl (lv_at hl 1 rfl) ?_
          obtain ⟨i10, hj⟩ := gd_some hj
          refine x_iald hx hb V 13 rfl i10 dX4_fits_69 ?_
          refine lv_icmp_ne (tgt := 77) hx hb dX4_fits_70 (by decide) (fun c11 => ?_) (fun c11 => ?_)
          · replace hj := iq _ c11 hj
            refine lv_iconst (v := 0) hx hb dX4_fits_77 (by decide) ?_
            exact hret (0 : Int32) hj zn_0 V dX4_fits_78
          · replace hj := ip _ c11 hj
            refine lv_iconst (v := 1) hx hb dX4_fits_73 (by decide) ?_
            refine lv_goto (tgt := 78) hx hb dX4_fits_74 (by decide) ?_
            exact hret (1 : Int32) hj zn_1 V dX4_fits_78
      · replace hj := iq _ c6 hj
        refine lv_iconst (v := 0) hx hb dX4_fits_39 (by decide) ?_
        exact hret (0 : Int32) hj zn_0 V dX4_fits_40)

def q_X4_open_72 (k_52 : St → Int32 → Int32 → Int32 → Int32 → Option (St)) (k_72 : St → Int32 → Int32 → Int32 → Int32 → Int32 → Option (St)) (u : St) (v2 : Int32) (v3 : Int32) (v5 : Int32) (v6 : Int32) (v7 : Int32) : Option (St) :=
  if v6 ≤ v7 then nm (v6 + 1) (fun x13 => k_52 u v2 v3 v5 x13) else (j_X6_holds v3 v7).bind (fun r14 => if r14 = (0 : Int32) then nm (v7 + 1) (fun x16 => k_72 u v2 v3 v5 v6 x16) else (j_X1_isAhead u v2 v5 v7 v6).bind (fun r17 => if r17 = (0 : Int32) then nm (v7 + 1) (fun x19 => k_72 u v2 v3 v5 v6 x19) else gd v6 10 (gd v6 10 (nm (sA u 13 v6.toNatClampNeg ((u.2.1 13 v6.toNatClampNeg) ||| ((1 : Int32) <<< (v7 &&& 31)))) (fun u22 => nm (v7 + 1) (fun x23 => k_72 u22 v2 v3 v5 v6 x23))))))
set_option maxHeartbeats 4000000 in
set_option maxRecDepth 100000 in
theorem b_X4_open_72 {p : Program} {l : Launch} {e : Env} {R : Room} {s : State} {m : MethodId} {args : Array Value} {below : List Frame} {meth : Method} {c : Code} {A : Nat → Prop} {Q : State → Prop} {D : va_G} {tc : Nat → ClassId} (ad ta : Nat → Nat) (us : Int32) (T : TbT) (sh : Nat) (hRf : 3 ≤ R.frames) (hRl : 68 ≤ R.locals) (C : Cx p s m args meth c cX4_open 8 RX4 none) {x0 : St} (hret : RetV p l e R s m args below meth c Q cX4_open D tc A (some x0) (fun x : St => Fw tc ad ta us T (ad 6) x)) (k_52 : St → Int32 → Int32 → Int32 → Int32 → Option (St)) (hk_52 : ∀ (u : St) (v2 : Int32) (v3 : Int32) (v5 : Int32) (v6 : Int32), k_52 u v2 v3 v5 v6 = some x0 → ∀ (H : Heap) (locs : List Loc) (ls : Array Slot), Wd D tc A s H locs (Fw tc ad ta us T (ad 6) u) → lv_has ls 8 [(0, .ref (ad 0)), (1, .ref (ad 6)), (2, .int v2), (3, .int v3), (5, .int v5), (6, .int v6)] → W p l e R s m args below meth c H locs 0 0 Q (F0 m 52 ls [])) (k_72 : St → Int32 → Int32 → Int32 → Int32 → Int32 → Option (St)) (hk_72 : ∀ (u : St) (v2 : Int32) (v3 : Int32) (v5 : Int32) (v6 : Int32) (v7 : Int32), k_72 u v2 v3 v5 v6 v7 = some x0 → ∀ (H : Heap) (locs : List Loc) (ls : Array Slot), Wd D tc A s H locs (Fw tc ad ta us T (ad 6) u) → lv_has ls 8 [(0, .ref (ad 0)), (1, .ref (ad 6)), (2, .int v2), (3, .int v3), (5, .int v5), (6, .int v6), (7, .int v7)] → W p l e R s m args below meth c H locs 0 0 Q (F0 m 72 ls [])) : ∀ (u : St) (v2 : Int32) (v3 : Int32) (v5 : Int32) (v6 : Int32) (v7 : Int32), q_X4_open_72 k_52 k_72 u v2 v3 v5 v6 v7 = some x0 → ∀ (H : Heap) (locs : List Loc) (ls : Array Slot), Wd D tc A s H locs (Fw tc ad ta us T (ad 6) u) → lv_has ls 8 [(0, .ref (ad 0)), (1, .ref (ad 6)), (2, .int v2), (3, .int v3), (5, .int v5), (6, .int v6), (7, .int v7)] → W p l e R s m args below meth c H locs 0 0 Q (F0 m 72 ls []) := by
  obtain ⟨hx, hb, hr, hml, hown, hts, hlk, hN⟩ := id C
  intro u v2 v3 v5 v6 v7 hj H locs ls V hl
  unfold q_X4_open_72 at hj
  refine lv_iload hx hb dX4_open_72 (lv_at hl 6 rfl) ?_
  refine lv_iload hx hb dX4_open_74 (lv_at hl 5 rfl) ?_
  refine lv_icmp_ge (tgt := 122) hx hb dX4_open_76 (by decide) (fun c12 => ?_) (fun c12 => ?_)
  · replace hj := ip _ c12 hj
    obtain ⟨x13, ex13, hj⟩ := nm_some hj
    refine lv_iinc (v := x13) (lv' := [(6, .int x13), (0, .ref (ad 0)), (1, .ref (ad 6)), (2, .int v2), (3, .int v3), (5, .int v5), (7, .int v7)]) hx hb dX4_open_122 hl (k := 5) rfl (by rw [ex13]; rfl) (by decide) rfl (fun ls hl => ?_)
    refine lv_goto (tgt := 52) hx hb dX4_open_125 (by decide) ?_
    exact hk_52 u v2 v3 v5 x13 hj _ _ _ V (lv_sub hl [1, 2, 3, 4, 5, 0] rfl)
  · replace hj := iq _ c12 hj
    refine lv_iload_n hx hb dX4_open_79 rfl (lv_at hl 3 rfl) ?_
    refine lv_iload hx hb dX4_open_80 (lv_at hl 6 rfl) ?_
    obtain ⟨r14, hr14, hj⟩ := bd_some hj
    refine x_allI V _ (rg_map _) (x_runSN (n := 2) (rest := []) C V _ (rg_map _) (rg_nd _) (k_X6_holds l D tc (Fw tc ad ta us T (ad 6) u) v3 v7 hr14) hN.2.2.2.2.2 tw_326 tw_1 tw_327 (by decide +kernel) ⟨Nat.le_trans (Nat.le_of_ble_eq_true rfl) hRf, Nat.le_trans (Nat.le_of_ble_eq_true rfl) hRl⟩ ⟨Nat.zero_le _, Nat.zero_le _⟩ rfl hl.1 rfl (Nat.le_of_ble_eq_true rfl) dX4_open_82) (fun H locs V zr14 => ?_)
    replace V : Wd D tc A s H locs (Fw tc ad ta us T (ad 6) u) := V
    refine lv_if_eq (tgt := 116) hx hb dX4_open_85 (by decide) (fun c15 => ?_) (fun c15 => ?_)
    · replace hj := ip _ c15 hj
      obtain ⟨x16, ex16, hj⟩ := nm_some hj
      refine lv_iinc (v := x16) (lv' := [(7, .int x16), (0, .ref (ad 0)), (1, .ref (ad 6)), (2, .int v2), (3, .int v3), (5, .int v5), (6, .int v6)]) hx hb dX4_open_116 hl (k := 6) rfl (by rw [ex16]; rfl) (by decide) rfl (fun ls hl => ?_)
      refine lv_goto (tgt := 72) hx hb dX4_open_119 (by decide) ?_
      exact hk_72 u v2 v3 v5 v6 x16 hj _ _ _ V (lv_sub hl [1, 2, 3, 4, 5, 6, 0] rfl)
    · replace hj := iq _ c15 hj
      refine lv_aload_n hx hb dX4_open_88 rfl (lv_at hl 1 rfl) ?_
      refine lv_iload_n hx hb dX4_open_89 rfl (lv_at hl 2 rfl) ?_
      refine lv_iload hx hb dX4_open_90 (lv_at hl 4 rfl) ?_
      refine lv_iload hx hb dX4_open_92 (lv_at hl 6 rfl) ?_
      refine lv_iload hx hb dX4_open_94 (lv_at hl 5 rfl) ?_
      obtain ⟨r17, hr17, hj⟩ := bd_some hj
      refine x_allI V _ (rg_map _) (x_runV (n := 4) (rest := []) C V _ (rg_map _) (rg_nd _) (k_X1_isAhead l D tc ad ta us T (ad 6) u v2 v5 v7 v6 hr17) tw_352 tw_329 tw_330 tw_3 tw_331 (by decide +kernel) ⟨Nat.le_trans (Nat.le_of_ble_eq_true rfl) hRf, Nat.le_trans (Nat.le_of_ble_eq_true rfl) hRl⟩ ⟨Nat.zero_le _, Nat.zero_le _⟩ 6 1 rfl rfl rfl hl.1 rfl (Nat.le_of_ble_eq_true rfl) dX4_open_96) (fun H locs V zr17 => ?_)
      replace V : Wd D tc A s H locs (Fw tc ad ta us T (ad 6) u) := V
      refine lv_if_eq (tgt := 116) hx hb dX4_open_99 (by decide) (fun c18 => ?_) (fun c18 => ?_)
      · replace hj := ip _ c18 hj
        obtain ⟨x19, ex19, hj⟩ := nm_some hj
        refine lv_iinc (v := x19) (lv' := [(7, .int x19), (0, .ref (ad 0)), (1, .ref (ad 6)), (2, .int v2), (3, .int v3), (5, .int v5), (6, .int v6)]) hx hb dX4_open_116 hl (k := 6) rfl (by rw [ex19]; rfl) (by decide) rfl (fun ls hl => ?_)
        refine lv_goto (tgt := 72) hx hb dX4_open_119 (by decide) ?_
        exact hk_72 u v2 v3 v5 v6 x19 hj _ _ _ V (lv_sub hl [1, 2, 3, 4, 5, 6, 0] rfl)
      · replace hj := iq _ c18 hj
        refine lv_aload_n hx hb dX4_open_102 rfl (lv_at hl 0 rfl) ?_
        refine x_get hx hb hts hown V inX4 0 rfl rfl 3 (by decide) tw_109 rfl rfl dX4_open_103 ?_
        refine lv_iload hx hb dX4_open_106 (lv_at hl 5 rfl) ?_
        refine lv_dup2_11 hx hb dX4_open_108 rfl rfl ?_
        obtain ⟨i20, hj⟩ := gd_some hj
        refine x_iald hx hb V 1 rfl i20 dX4_open_109 ?_
        refine lv_iconst (v := 1) hx hb dX4_open_110 (by decide) ?_
        refine lv_iload hx hb dX4_open_111 (lv_at hl 6 rfl) ?_
        refine lv_ishl hx hb dX4_open_113 ?_
        refine lv_ior hx hb dX4_open_114 ?_
        obtain ⟨i21, hj⟩ := gd_some hj
        obtain ⟨u22, eu22, hj⟩ := nm_some hj
        refine x_iast hx hb V 1 rfl i21 dX4_open_115 (fun H locs V => ?_)
        replace V : Wd D tc A s H locs (Fw tc ad ta us T (ad 6) u22) := by rw [eu22]; exact V
        obtain ⟨x23, ex23, hj⟩ := nm_some hj
        refine lv_iinc (v := x23) (lv' := [(7, .int x23), (0, .ref (ad 0)), (1, .ref (ad 6)), (2, .int v2), (3, .int v3), (5, .int v5), (6, .int v6)]) hx hb dX4_open_116 hl (k := 6) rfl (by rw [ex23]; rfl) (by decide) rfl (fun ls hl => ?_)
        refine lv_goto (tgt := 72) hx hb dX4_open_119 (by decide) ?_
        exact hk_72 u22 v2 v3 v5 v6 x23 hj _ _ _ V (lv_sub hl [1, 2, 3, 4, 5, 6, 0] rfl)
def j_X4_open_72 (k_52 : St → Int32 → Int32 → Int32 → Int32 → Option (St)) : Nat → St → Int32 → Int32 → Int32 → Int32 → Int32 → Option (St)
  | 0 => fun _ _ _ _ _ _ => none
  | n + 1 => q_X4_open_72 k_52 (j_X4_open_72 k_52 n)
theorem lp_X4_open_72 {p : Program} {l : Launch} {e : Env} {R : Room} {s : State} {m : MethodId} {args : Array Value} {below : List Frame} {meth : Method} {c : Code} {A : Nat → Prop} {Q : State → Prop} {D : va_G} {tc : Nat → ClassId} (ad ta : Nat → Nat) (us : Int32) (T : TbT) (sh : Nat) (hRf : 3 ≤ R.frames) (hRl : 68 ≤ R.locals) (C : Cx p s m args meth c cX4_open 8 RX4 none) {x0 : St} (hret : RetV p l e R s m args below meth c Q cX4_open D tc A (some x0) (fun x : St => Fw tc ad ta us T (ad 6) x)) (k_52 : St → Int32 → Int32 → Int32 → Int32 → Option (St)) (hk_52 : ∀ (u : St) (v2 : Int32) (v3 : Int32) (v5 : Int32) (v6 : Int32), k_52 u v2 v3 v5 v6 = some x0 → ∀ (H : Heap) (locs : List Loc) (ls : Array Slot), Wd D tc A s H locs (Fw tc ad ta us T (ad 6) u) → lv_has ls 8 [(0, .ref (ad 0)), (1, .ref (ad 6)), (2, .int v2), (3, .int v3), (5, .int v5), (6, .int v6)] → W p l e R s m args below meth c H locs 0 0 Q (F0 m 52 ls [])) : ∀ (n : Nat), ∀ (u : St) (v2 : Int32) (v3 : Int32) (v5 : Int32) (v6 : Int32) (v7 : Int32), j_X4_open_72 k_52 n u v2 v3 v5 v6 v7 = some x0 → ∀ (H : Heap) (locs : List Loc) (ls : Array Slot), Wd D tc A s H locs (Fw tc ad ta us T (ad 6) u) → lv_has ls 8 [(0, .ref (ad 0)), (1, .ref (ad 6)), (2, .int v2), (3, .int v3), (5, .int v5), (6, .int v6), (7, .int v7)] → W p l e R s m args below meth c H locs 0 0 Q (F0 m 72 ls []) := by
  intro n
  induction n with
  | zero =>
    intro u v2 v3 v5 v6 v7 hj
    have hj : (none : Option (St)) = some x0 := hj
    cases hj
  | succ n ih =>
    intro u v2 v3 v5 v6 v7 hj
    exact b_X4_open_72 ad ta us T sh hRf hRl C hret  k_52 hk_52 (j_X4_open_72 k_52 n) ih u v2 v3 v5 v6 v7 hj
def q_X4_open_52 (k_52 : St → Int32 → Int32 → Int32 → Int32 → Option (St)) (u : St) (v2 : Int32) (v3 : Int32) (v5 : Int32) (v6 : Int32) : Option (St) :=
  if (u.1 2) ≤ v6 then some u else gd v6 10 (nm (sA u 13 v6.toNatClampNeg (0 : Int32)) (fun u11 => j_X4_open_72 k_52 100 u11 v2 v3 v5 v6 (0 : Int32)))
set_option maxHeartbeats 4000000 in
set_option maxRecDepth 100000 in
theorem b_X4_open_52 {p : Program} {l : Launch} {e : Env} {R : Room} {s : State} {m : MethodId} {args : Array Value} {below : List Frame} {meth : Method} {c : Code} {A : Nat → Prop} {Q : State → Prop} {D : va_G} {tc : Nat → ClassId} (ad ta : Nat → Nat) (us : Int32) (T : TbT) (sh : Nat) (hRf : 3 ≤ R.frames) (hRl : 68 ≤ R.locals) (C : Cx p s m args meth c cX4_open 8 RX4 none) {x0 : St} (hret : RetV p l e R s m args below meth c Q cX4_open D tc A (some x0) (fun x : St => Fw tc ad ta us T (ad 6) x)) (k_52 : St → Int32 → Int32 → Int32 → Int32 → Option (St)) (hk_52 : ∀ (u : St) (v2 : Int32) (v3 : Int32) (v5 : Int32) (v6 : Int32), k_52 u v2 v3 v5 v6 = some x0 → ∀ (H : Heap) (locs : List Loc) (ls : Array Slot), Wd D tc A s H locs (Fw tc ad ta us T (ad 6) u) → lv_has ls 8 [(0, .ref (ad 0)), (1, .ref (ad 6)), (2, .int v2), (3, .int v3), (5, .int v5), (6, .int v6)] → W p l e R s m args below meth c H locs 0 0 Q (F0 m 52 ls [])) : ∀ (u : St) (v2 : Int32) (v3 : Int32) (v5 : Int32) (v6 : Int32), q_X4_open_52 k_52 u v2 v3 v5 v6 = some x0 → ∀ (H : Heap) (locs : List Loc) (ls : Array Slot), Wd D tc A s H locs (Fw tc ad ta us T (ad 6) u) → lv_has ls 8 [(0, .ref (ad 0)), (1, .ref (ad 6)), (2, .int v2), (3, .int v3), (5, .int v5), (6, .int v6)] → W p l e R s m args below meth c H locs 0 0 Q (F0 m 52 ls []) := by
  obtain ⟨hx, hb, hr, hml, hown, hts, hlk, hN⟩ := id C
  intro u v2 v3 v5 v6 hj H locs ls V hl
  unfold q_X4_open_52 at hj
  refine lv_iload hx hb dX4_open_52 (lv_at hl 5 rfl) ?_
  refine lv_aload_n hx hb dX4_open_54 rfl (lv_at hl 1 rfl) ?_
  refine x_get hx hb hts hown V inX1 6 rfl rfl 2 (by decide) tw_42 rfl rfl dX4_open_55 ?_
  refine lv_icmp_ge (tgt := 128) hx hb dX4_open_58 (by decide) (fun c9 => ?_) (fun c9 => ?_)
  · replace hj := ip _ c9 hj
    exact hret u hj V dX4_open_128
  · replace hj := iq _ c9 hj
    refine lv_aload_n hx hb dX4_open_61 rfl (lv_at hl 0 rfl) ?_
    refine x_get hx hb hts hown V inX4 0 rfl rfl 3 (by decide) tw_109 rfl rfl dX4_open_62 ?_
    refine lv_iload hx hb dX4_open_65 (lv_at hl 5 rfl) ?_
    refine lv_iconst (v := 0) hx hb dX4_open_67 (by decide) ?_
    obtain ⟨i10, hj⟩ := gd_some hj
    obtain ⟨u11, eu11, hj⟩ := nm_some hj
    refine x_iast hx hb V 1 rfl i10 dX4_open_68 (fun H locs V => ?_)
    replace V : Wd D tc A s H locs (Fw tc ad ta us T (ad 6) u11) := by rw [eu11]; exact V
    refine lv_iconst (v := 0) hx hb dX4_open_69 (by decide) ?_
    refine lv_istore (lv' := [(7, .int (0 : Int32)), (0, .ref (ad 0)), (1, .ref (ad 6)), (2, .int v2), (3, .int v3), (5, .int v5), (6, .int v6)]) hx hb dX4_open_70 hl (by decide) rfl (fun ls hl => ?_)
    exact lp_X4_open_72 ad ta us T sh hRf hRl C hret  k_52 hk_52 100 u11 v2 v3 v5 v6 (0 : Int32) hj _ _ _ V (lv_sub hl [1, 2, 3, 4, 5, 6, 0] rfl)
def j_X4_open_52  : Nat → St → Int32 → Int32 → Int32 → Int32 → Option (St)
  | 0 => fun _ _ _ _ _ => none
  | n + 1 => q_X4_open_52  (j_X4_open_52  n)
theorem lp_X4_open_52 {p : Program} {l : Launch} {e : Env} {R : Room} {s : State} {m : MethodId} {args : Array Value} {below : List Frame} {meth : Method} {c : Code} {A : Nat → Prop} {Q : State → Prop} {D : va_G} {tc : Nat → ClassId} (ad ta : Nat → Nat) (us : Int32) (T : TbT) (sh : Nat) (hRf : 3 ≤ R.frames) (hRl : 68 ≤ R.locals) (C : Cx p s m args meth c cX4_open 8 RX4 none) {x0 : St} (hret : RetV p l e R s m args below meth c Q cX4_open D tc A (some x0) (fun x : St => Fw tc ad ta us T (ad 6) x))  : ∀ (n : Nat), ∀ (u : St) (v2 : Int32) (v3 : Int32) (v5 : Int32) (v6 : Int32), j_X4_open_52  n u v2 v3 v5 v6 = some x0 → ∀ (H : Heap) (locs : List Loc) (ls : Array Slot), Wd D tc A s H locs (Fw tc ad ta us T (ad 6) u) → lv_has ls 8 [(0, .ref (ad 0)), (1, .ref (ad 6)), (2, .int v2), (3, .int v3), (5, .int v5), (6, .int v6)] → W p l e R s m args below meth c H locs 0 0 Q (F0 m 52 ls []) := by
  intro n
  induction n with
  | zero =>
    intro u v2 v3 v5 v6 hj
    have hj : (none : Option (St)) = some x0 := hj
    cases hj
  | succ n ih =>
    intro u v2 v3 v5 v6 hj
    exact b_X4_open_52 ad ta us T sh hRf hRl C hret   (j_X4_open_52  n) ih u v2 v3 v5 v6 hj
def j_X4_open (u : St) (v2 : Int32) (v3 : Int32) (v4 : Int32) : Option (St) :=
  nm (sI u 11 v3) (fun u1 => (j_X1_endedCalls u1).bind (fun r2 => nm (sI u1 12 (v3 &&& r2)) (fun u3 => zg v4 (nm (sI u3 14 v4) (fun u5 => (j_X2_forget u5).bind (fun u7 => if v2 = (1 : Int32) then (j_X1_quietTicks u7 v3).bind (fun r24 => j_X4_open_52  100 u7 v2 v3 r24 (0 : Int32)) else j_X4_open_52  100 u7 v2 v3 (0 : Int32) (0 : Int32)))))))
set_option maxHeartbeats 4000000 in
set_option maxRecDepth 100000 in
theorem k_X4_open (l : Launch) (D : va_G) (tc : Nat → ClassId) (ad ta : Nat → Nat) (us : Int32) (T : TbT) (sh : Nat) (u : St) (v2 : Int32) (v3 : Int32) (v4 : Int32) {x0 : St} (hj : j_X4_open u v2 v3 v4 = some x0) : MetD l D tc yX4_open cX4_open 8 none 3 68 [.ref (ad 0), .ref (ad 6), .int v2, .int v3, .int v4] (Fw tc ad ta us T sh u) none (Fw tc ad ta us T (ad 6) x0) :=
  x_entV  (fun x : St => Fw tc ad ta us T (ad 6) x) (by decide) (own := RX4) rfl (Nat.le_of_ble_eq_true rfl) (fun p e s m args below meth c A Q ls C V hl hret => by
  obtain ⟨hx, hb, hr, hml, hown, hts, hlk, hN⟩ := id C
  have hRf : 3 ≤ (rmz 3 0 0 68).frames := Nat.le_refl _
  have hRl : 68 ≤ (rmz 3 0 0 68).locals := Nat.le_refl _
  generalize (rmz 3 0 0 68) = R at hret hRf hRl ⊢
  generalize s.heap = H at V ⊢
  generalize ([] : List Loc) = locs at V ⊢
  have hl : lv_has ls 8 [(0, .ref (ad 0)), (1, .ref (ad 6)), (2, .int v2), (3, .int v3), (4, .int v4)] := hl
  unfold j_X4_open at hj
  refine lv_aload_n hx hb dX4_open_0 rfl (lv_at hl 0 rfl) ?_
  refine lv_aload_n hx hb dX4_open_1 rfl (lv_at hl 1 rfl) ?_
  refine x_put hx hb hts hown V inX4 tyX4_ok nmX4 0 rfl rfl 0 (by decide) tw_106 rfl rfl rfl rfl (Nat.le_of_ble_eq_true rfl) dX4_open_2 (fun H locs V => ?_)
  replace V : Wd D tc A s H locs (Fw tc ad ta us T (ad 6) u) := V
  refine lv_aload_n hx hb dX4_open_5 rfl (lv_at hl 0 rfl) ?_
  refine lv_iload_n hx hb dX4_open_6 rfl (lv_at hl 3 rfl) ?_
  refine x_put hx hb hts hown V inX4 tyX4_ok nmX4 0 rfl rfl 1 (by decide) tw_107 rfl rfl rfl rfl (Nat.le_of_ble_eq_true rfl) dX4_open_7 (fun H locs V => ?_)
  obtain ⟨u1, eu1, hj⟩ := nm_some hj
  replace V : Wd D tc A s H locs (Fw tc ad ta us T (ad 6) u1) := by rw [eu1]; exact V
  refine lv_aload_n hx hb dX4_open_10 rfl (lv_at hl 0 rfl) ?_
  refine lv_iload_n hx hb dX4_open_11 rfl (lv_at hl 3 rfl) ?_
  refine lv_aload_n hx hb dX4_open_12 rfl (lv_at hl 1 rfl) ?_
  obtain ⟨r2, hr2, hj⟩ := bd_some hj
  refine x_allI V _ (rg_map _) (x_runV (n := 0) (rest := [.int v3, .ref (ad 0)]) C V _ (rg_map _) (rg_nd _) (k_X1_endedCalls l D tc ad ta us T (ad 6) u1 hr2) tw_345 tw_297 tw_298 tw_3 tw_299 (by decide +kernel) ⟨Nat.le_trans (Nat.le_of_ble_eq_true rfl) hRf, Nat.le_trans (Nat.le_of_ble_eq_true rfl) hRl⟩ ⟨Nat.zero_le _, Nat.zero_le _⟩ 6 1 rfl rfl rfl hl.1 rfl (Nat.le_of_ble_eq_true rfl) dX4_open_13) (fun H locs V zr2 => ?_)
  replace V : Wd D tc A s H locs (Fw tc ad ta us T (ad 6) u1) := V
  refine lv_iand hx hb dX4_open_16 ?_
  refine x_put hx hb hts hown V inX4 tyX4_ok nmX4 0 rfl rfl 2 (by decide) tw_108 rfl rfl rfl rfl (Nat.le_of_ble_eq_true rfl) dX4_open_17 (fun H locs V => ?_)
  obtain ⟨u3, eu3, hj⟩ := nm_some hj
  replace V : Wd D tc A s H locs (Fw tc ad ta us T (ad 6) u3) := by rw [eu3]; exact V
  refine lv_aload_n hx hb dX4_open_20 rfl (lv_at hl 0 rfl) ?_
  refine lv_iload hx hb dX4_open_21 (lv_at hl 4 rfl) ?_
  obtain ⟨z4, fz4, hj⟩ := zg_some2 hj
  refine x_put hx hb hts hown V inX4 tyX4_ok nmX4 0 rfl rfl 4 (by decide) tw_110 rfl rfl z4 fz4 (Nat.le_of_ble_eq_true rfl) dX4_open_23 (fun H locs V => ?_)
  obtain ⟨u5, eu5, hj⟩ := nm_some hj
  replace V : Wd D tc A s H locs (Fw tc ad ta us T (ad 6) u5) := by rw [eu5]; exact V
  refine lv_aload_n hx hb dX4_open_26 rfl (lv_at hl 0 rfl) ?_
  refine x_get hx hb hts hown V inX4 0 rfl rfl 5 (by decide) tw_111 rfl rfl dX4_open_27 ?_
  obtain ⟨u7, hr6, hj⟩ := bd_some hj
  refine x_allV V _ (rg_map _) (x_runV (n := 0) (rest := []) C V _ (rg_map _) (rg_nd _) (k_X2_forget l D tc ad ta us T (ad 6) u5 hr6) tw_346 tw_347 tw_348 tw_4 tw_349 (by decide +kernel) ⟨Nat.le_trans (Nat.le_of_ble_eq_true rfl) hRf, Nat.le_trans (Nat.le_of_ble_eq_true rfl) hRl⟩ ⟨Nat.zero_le _, Nat.zero_le _⟩ 2 2 rfl rfl rfl hl.1 rfl (Nat.le_of_ble_eq_true rfl) dX4_open_30) (fun H locs V => ?_)
  replace V : Wd D tc A s H locs (Fw tc ad ta us T (ad 6) u7) := V
  refine lv_iload_n hx hb dX4_open_33 rfl (lv_at hl 2 rfl) ?_
  refine lv_iconst (v := 1) hx hb dX4_open_34 (by decide) ?_
  refine lv_icmp_ne (tgt := 46) hx hb dX4_open_35 (by decide) (fun c8 => ?_) (fun c8 => ?_)
  · replace hj := iq _ c8 hj
    refine lv_iconst (v := 0) hx hb dX4_open_46 (by decide) ?_
    refine lv_istore (lv' := [(5, .int (0 : Int32)), (0, .ref (ad 0)), (1, .ref (ad 6)), (2, .int v2), (3, .int v3), (4, .int v4)]) hx hb dX4_open_47 hl (by decide) rfl (fun ls hl => ?_)
    refine lv_iconst (v := 0) hx hb dX4_open_49 (by decide) ?_
    refine lv_istore (lv' := [(6, .int (0 : Int32)), (5, .int (0 : Int32)), (0, .ref (ad 0)), (1, .ref (ad 6)), (2, .int v2), (3, .int v3), (4, .int v4)]) hx hb dX4_open_50 hl (by decide) rfl (fun ls hl => ?_)
    exact lp_X4_open_52 ad ta us T sh hRf hRl C hret   100 u7 v2 v3 (0 : Int32) (0 : Int32) hj _ _ _ V (lv_sub hl [2, 3, 4, 5, 1, 0] rfl)
  · replace hj := ip _ c8 hj
    refine lv_aload_n hx hb dX4_open_38 rfl (lv_at hl 1 rfl) ?_
    refine lv_iload_n hx hb dX4_open_39 rfl (lv_at hl 3 rfl) ?_
    obtain ⟨r24, hr24, hj⟩ := bd_some hj
    refine x_allI V _ (rg_map _) (x_runV (n := 1) (rest := []) C V _ (rg_map _) (rg_nd _) (k_X1_quietTicks l D tc ad ta us T (ad 6) u7 v3 hr24) tw_350 tw_318 tw_319 tw_3 tw_320 (by decide +kernel) ⟨Nat.le_trans (Nat.le_of_ble_eq_true rfl) hRf, Nat.le_trans (Nat.le_of_ble_eq_true rfl) hRl⟩ ⟨Nat.zero_le _, Nat.zero_le _⟩ 6 1 rfl rfl rfl hl.1 rfl (Nat.le_of_ble_eq_true rfl) dX4_open_40) (fun H locs V zr24 => ?_)
    replace V : Wd D tc A s H locs (Fw tc ad ta us T (ad 6) u7) := V
    refine lv_goto (tgt := 47) hx hb dX4_open_43 (by decide) ?_
    refine lv_istore (lv' := [(5, .int r24), (0, .ref (ad 0)), (1, .ref (ad 6)), (2, .int v2), (3, .int v3), (4, .int v4)]) hx hb dX4_open_47 hl (by decide) rfl (fun ls hl => ?_)
    refine lv_iconst (v := 0) hx hb dX4_open_49 (by decide) ?_
    refine lv_istore (lv' := [(6, .int (0 : Int32)), (5, .int r24), (0, .ref (ad 0)), (1, .ref (ad 6)), (2, .int v2), (3, .int v3), (4, .int v4)]) hx hb dX4_open_50 hl (by decide) rfl (fun ls hl => ?_)
    exact lp_X4_open_52 ad ta us T sh hRf hRl C hret   100 u7 v2 v3 r24 (0 : Int32) hj _ _ _ V (lv_sub hl [2, 3, 4, 5, 1, 0] rfl))

def q_X4_waysFrom_56 (T : TbT) (rc : St → Int32 → Int32 → Int64 → Option (Int64 × St)) (k_56 : St → Int32 → Int32 → Int64 → Int64 → Int64 → Int32 → Option (Int64 × St)) (u : St) (v1 : Int32) (v2 : Int32) (v3 : Int64) (v5 : Int64) (v9 : Int64) (v11 : Int32) : Option (Int64 × St) :=
  if (u.1 2) ≤ v11 then (j_X2_put u v5 v9).bind (fun u9 => some (v9, u9)) else if (u.1 14) = (0 : Int32) then (j_X4_fits T u v11 v2 v3).bind (fun r11 => if r11 = (0 : Int32) then nm (v11 + 1) (fun x13 => k_56 u v1 v2 v3 v5 v9 x13) else (j_X3_after T u v11 v3).bind (fun r14 => (rc u (v1 + (1 : Int32)) (v2 ||| ((1 : Int32) <<< (v11 &&& 31))) r14).bind (fun ⟨r15, u16⟩ => nm (v9 + r15) (fun x17 => nm (v11 + 1) (fun x18 => k_56 u16 v1 v2 v3 v5 x17 x18))))) else if (0 : Int32) < (lg_cmp v9 (0 : Int64)) then (j_X2_put u v5 v9).bind (fun u21 => some (v9, u21)) else (j_X4_fits T u v11 v2 v3).bind (fun r22 => if r22 = (0 : Int32) then nm (v11 + 1) (fun x24 => k_56 u v1 v2 v3 v5 v9 x24) else (j_X3_after T u v11 v3).bind (fun r25 => (rc u (v1 + (1 : Int32)) (v2 ||| ((1 : Int32) <<< (v11 &&& 31))) r25).bind (fun ⟨r26, u27⟩ => nm (v9 + r26) (fun x28 => nm (v11 + 1) (fun x29 => k_56 u27 v1 v2 v3 v5 x28 x29)))))
set_option maxHeartbeats 4000000 in
set_option maxRecDepth 100000 in
theorem b_X4_waysFrom_56 {p : Program} {l : Launch} {e : Env} {R : Room} {s : State} {m : MethodId} {args : Array Value} {below : List Frame} {meth : Method} {c : Code} {A : Nat → Prop} {Q : State → Prop} {D : va_G} {tc : Nat → ClassId} (ad ta : Nat → Nat) (us : Int32) (T : TbT) (sh : Nat) (hRf : 5 ≤ R.frames) (hRl : 112 ≤ R.locals) (C : Cx p s m args meth c cX4_waysFrom 12 RX4 (some .long)) {x0 : Int64 × St} (hret : RetL p l e R s m args below meth c Q cX4_waysFrom D tc A (some x0) (fun x : Int64 × St => x.1) (fun x : Int64 × St => Fw tc ad ta us T (ad 6) x.2)) {frr lor : Nat} (rc : St → Int32 → Int32 → Int64 → Option (Int64 × St)) (hrc : ∀ (u : St) (v1 : Int32) (v2 : Int32) (v3 : Int64) {x1 : Int64 × St}, rc u v1 v2 v3 = some x1 → MetD l D tc yX4_waysFrom cX4_waysFrom 12 (some .long) frr lor [.ref (ad 0), .int v1, .int v2, .long v3] (Fw tc ad ta us T (ad 6) u) (some (.long x1.1)) (Fw tc ad ta us T (ad 6) x1.2)) (hrf : frr + 1 ≤ R.frames) (hrl : 8 + (12 + 11) + lor ≤ R.locals) (k_56 : St → Int32 → Int32 → Int64 → Int64 → Int64 → Int32 → Option (Int64 × St)) (hk_56 : ∀ (u : St) (v1 : Int32) (v2 : Int32) (v3 : Int64) (v5 : Int64) (v9 : Int64) (v11 : Int32), k_56 u v1 v2 v3 v5 v9 v11 = some x0 → ∀ (H : Heap) (locs : List Loc) (ls : Array Slot), Wd D tc A s H locs (Fw tc ad ta us T (ad 6) u) → lv_has ls 12 [(0, .ref (ad 0)), (1, .int v1), (2, .int v2), (3, .long v3), (5, .long v5), (9, .long v9), (11, .int v11)] → W p l e R s m args below meth c H locs 0 0 Q (F0 m 56 ls [])) : ∀ (u : St) (v1 : Int32) (v2 : Int32) (v3 : Int64) (v5 : Int64) (v9 : Int64) (v11 : Int32), q_X4_waysFrom_56 T rc k_56 u v1 v2 v3 v5 v9 v11 = some x0 → ∀ (H : Heap) (locs : List Loc) (ls : Array Slot), Wd D tc A s H locs (Fw tc ad ta us T (ad 6) u) → lv_has ls 12 [(0, .ref (ad 0)), (1, .int v1), (2, .int v2), (3, .long v3), (5, .long v5), (9, .long v9), (11, .int v11)] → W p l e R s m args below meth c H locs 0 0 Q (F0 m 56 ls []) := by
  obtain ⟨hx, hb, hr, hml, hown, hts, hlk, hN⟩ := id C
  intro u v1 v2 v3 v5 v9 v11 hj H locs ls V hl
  unfold q_X4_waysFrom_56 at hj
  refine lv_iload hx hb dX4_waysFrom_56 (lv_at hl 6 rfl) ?_
  refine lv_aload_n hx hb dX4_waysFrom_58 rfl (lv_at hl 0 rfl) ?_
  refine x_get hx hb hts hown V inX4 0 rfl rfl 0 (by decide) tw_106 rfl rfl dX4_waysFrom_59 ?_
  refine x_get hx hb hts hown V inX1 6 rfl rfl 2 (by decide) tw_42 rfl rfl dX4_waysFrom_62 ?_
  refine lv_icmp_ge (tgt := 127) hx hb dX4_waysFrom_65 (by decide) (fun c7 => ?_) (fun c7 => ?_)
  · replace hj := ip _ c7 hj
    refine lv_aload_n hx hb dX4_waysFrom_127 rfl (lv_at hl 0 rfl) ?_
    refine x_get hx hb hts hown V inX4 0 rfl rfl 5 (by decide) tw_111 rfl rfl dX4_waysFrom_128 ?_
    refine lv_lload hx hb dX4_waysFrom_131 (lv_at hl 4 rfl) ?_
    refine lv_lload hx hb dX4_waysFrom_133 (lv_at hl 5 rfl) ?_
    obtain ⟨u9, hr8, hj⟩ := bd_some hj
    refine x_allV V _ (rg_map _) (x_runV (n := 2) (rest := []) C V _ (rg_map _) (rg_nd _) (k_X2_put l D tc ad ta us T (ad 6) u v5 v9 hr8) tw_431 tw_432 tw_433 tw_4 tw_434 (by decide +kernel) ⟨Nat.le_trans (Nat.le_of_ble_eq_true rfl) hRf, Nat.le_trans (Nat.le_of_ble_eq_true rfl) hRl⟩ ⟨Nat.zero_le _, Nat.zero_le _⟩ 2 2 rfl rfl rfl hl.1 rfl (Nat.le_of_ble_eq_true rfl) dX4_waysFrom_135) (fun H locs V => ?_)
    replace V : Wd D tc A s H locs (Fw tc ad ta us T (ad 6) u9) := V
    refine lv_lload hx hb dX4_waysFrom_138 (lv_at hl 5 rfl) ?_
    exact hret (v9, u9) hj V dX4_waysFrom_140
  · replace hj := iq _ c7 hj
    refine lv_aload_n hx hb dX4_waysFrom_68 rfl (lv_at hl 0 rfl) ?_
    refine x_get hx hb hts hown V inX4 0 rfl rfl 4 (by decide) tw_110 rfl rfl dX4_waysFrom_69 ?_
    refine lv_if_eq (tgt := 82) hx hb dX4_waysFrom_72 (by decide) (fun c10 => ?_) (fun c10 => ?_)
    · replace hj := ip _ c10 hj
      refine lv_aload_n hx hb dX4_waysFrom_82 rfl (lv_at hl 0 rfl) ?_
      refine lv_iload hx hb dX4_waysFrom_83 (lv_at hl 6 rfl) ?_
      refine lv_iload_n hx hb dX4_waysFrom_85 rfl (lv_at hl 2 rfl) ?_
      refine lv_lload_n hx hb dX4_waysFrom_86 rfl (lv_at hl 3 rfl) ?_
      obtain ⟨r11, hr11, hj⟩ := bd_some hj
      refine x_allI V _ (rg_map _) (x_runV (n := 3) (rest := []) C V _ (rg_map _) (rg_nd _) (k_X4_fits l D tc ad ta us T (ad 6) u v11 v2 v3 hr11) tw_374 tw_376 tp_7 tw_2 tw_377 (by decide +kernel) ⟨Nat.le_trans (Nat.le_of_ble_eq_true rfl) hRf, Nat.le_trans (Nat.le_of_ble_eq_true rfl) hRl⟩ ⟨Nat.zero_le _, Nat.zero_le _⟩ 0 3 rfl rfl rfl hl.1 rfl (Nat.le_of_ble_eq_true rfl) dX4_waysFrom_87) (fun H locs V zr11 => ?_)
      replace V : Wd D tc A s H locs (Fw tc ad ta us T (ad 6) u) := V
      refine lv_if_eq (tgt := 121) hx hb dX4_waysFrom_90 (by decide) (fun c12 => ?_) (fun c12 => ?_)
      · replace hj := ip _ c12 hj
        obtain ⟨x13, ex13, hj⟩ := nm_some hj
        refine lv_iinc (v := x13) (lv' := [(11, .int x13), (0, .ref (ad 0)), (1, .int v1), (2, .int v2), (3, .long v3), (5, .long v5), (9, .long v9)]) hx hb dX4_waysFrom_121 hl (k := 6) rfl (by rw [ex13]; rfl) (by decide) rfl (fun ls hl => ?_)
        refine lv_goto (tgt := 56) hx hb dX4_waysFrom_124 (by decide) ?_
        exact hk_56 u v1 v2 v3 v5 v9 x13 hj _ _ _ V (lv_sub hl [1, 2, 3, 4, 5, 6, 0] rfl)
      · replace hj := iq _ c12 hj
        refine lv_lload hx hb dX4_waysFrom_93 (lv_at hl 5 rfl) ?_
        refine lv_aload_n hx hb dX4_waysFrom_95 rfl (lv_at hl 0 rfl) ?_
        refine lv_iload_n hx hb dX4_waysFrom_96 rfl (lv_at hl 1 rfl) ?_
        refine lv_iconst (v := 1) hx hb dX4_waysFrom_97 (by decide) ?_
        refine lv_iadd hx hb dX4_waysFrom_98 ?_
        refine lv_iload_n hx hb dX4_waysFrom_99 rfl (lv_at hl 2 rfl) ?_
        refine lv_iconst (v := 1) hx hb dX4_waysFrom_100 (by decide) ?_
        refine lv_iload hx hb dX4_waysFrom_101 (lv_at hl 6 rfl) ?_
        refine lv_ishl hx hb dX4_waysFrom_103 ?_
        refine lv_ior hx hb dX4_waysFrom_104 ?_
        refine lv_aload_n hx hb dX4_waysFrom_105 rfl (lv_at hl 0 rfl) ?_
        refine x_get hx hb hts hown V inX4 0 rfl rfl 0 (by decide) tw_106 rfl rfl dX4_waysFrom_106 ?_
        refine lv_iload hx hb dX4_waysFrom_109 (lv_at hl 6 rfl) ?_
        refine lv_lload_n hx hb dX4_waysFrom_111 rfl (lv_at hl 3 rfl) ?_
        obtain ⟨r14, hr14, hj⟩ := bd_some hj
        refine x_allL V _ (rg_map _) (x_runS (n := 3) (rest := [.int (v2 ||| ((1 : Int32) <<< (v11 &&& 31))), .int (v1 + (1 : Int32)), .ref (ad 0), .long v9]) C V _ (rg_map _) (rg_nd _) (k_X3_after l D tc ad ta us T (ad 6) u v11 v3 hr14) tw_411 tw_412 tw_8 tw_413 (by decide +kernel) ⟨Nat.le_trans (Nat.le_of_ble_eq_true rfl) hRf, Nat.le_trans (Nat.le_of_ble_eq_true rfl) hRl⟩ ⟨Nat.zero_le _, Nat.zero_le _⟩ rfl hl.1 rfl (Nat.le_of_ble_eq_true rfl) dX4_waysFrom_112) (fun H locs V => ?_)
        replace V : Wd D tc A s H locs (Fw tc ad ta us T (ad 6) u) := V
        obtain ⟨⟨r15, u16⟩, hr15, hj⟩ := bd_some hj
        refine x_allL V _ (rg_map _) (x_runV (n := 3) (rest := [.long v9]) C V _ (rg_map _) (rg_nd _) (hrc u (v1 + (1 : Int32)) (v2 ||| ((1 : Int32) <<< (v11 &&& 31))) r14 hr15) tw_353 tw_355 tp_5 tw_2 tw_356 (by decide +kernel) ⟨hrf, hrl⟩ ⟨Nat.zero_le _, Nat.zero_le _⟩ 0 3 rfl rfl rfl hl.1 rfl (Nat.le_of_ble_eq_true rfl) dX4_waysFrom_115) (fun H locs V => ?_)
        replace V : Wd D tc A s H locs (Fw tc ad ta us T (ad 6) u16) := V
        refine lv_ladd hx hb dX4_waysFrom_118 ?_
        obtain ⟨x17, ex17, hj⟩ := nm_some hj
        refine x_topl ex17 ?_
        refine lv_lstore (lv' := [(9, .long x17), (0, .ref (ad 0)), (1, .int v1), (2, .int v2), (3, .long v3), (5, .long v5), (11, .int v11)]) hx hb dX4_waysFrom_119 hl (by decide) rfl (fun ls hl => ?_)
        obtain ⟨x18, ex18, hj⟩ := nm_some hj
        refine lv_iinc (v := x18) (lv' := [(11, .int x18), (9, .long x17), (0, .ref (ad 0)), (1, .int v1), (2, .int v2), (3, .long v3), (5, .long v5)]) hx hb dX4_waysFrom_121 hl (k := 6) rfl (by rw [ex18]; rfl) (by decide) rfl (fun ls hl => ?_)
        refine lv_goto (tgt := 56) hx hb dX4_waysFrom_124 (by decide) ?_
        exact hk_56 u16 v1 v2 v3 v5 x17 x18 hj _ _ _ V (lv_sub hl [2, 3, 4, 5, 6, 1, 0] rfl)
    · replace hj := iq _ c10 hj
      refine lv_lload hx hb dX4_waysFrom_75 (lv_at hl 5 rfl) ?_
      refine lv_lconst (v := 0) hx hb dX4_waysFrom_77 (by decide) ?_
      refine W.lcmp hx hb dX4_waysFrom_78 ?_
      refine lv_if_gt (tgt := 127) hx hb dX4_waysFrom_79 (by decide) (fun c19 => ?_) (fun c19 => ?_)
      · replace hj := ip _ c19 hj
        refine lv_aload_n hx hb dX4_waysFrom_127 rfl (lv_at hl 0 rfl) ?_
        refine x_get hx hb hts hown V inX4 0 rfl rfl 5 (by decide) tw_111 rfl rfl dX4_waysFrom_128 ?_
        refine lv_lload hx hb dX4_waysFrom_131 (lv_at hl 4 rfl) ?_
        refine lv_lload hx hb dX4_waysFrom_133 (lv_at hl 5 rfl) ?_
        obtain ⟨u21, hr20, hj⟩ := bd_some hj
        refine x_allV V _ (rg_map _) (x_runV (n := 2) (rest := []) C V _ (rg_map _) (rg_nd _) (k_X2_put l D tc ad ta us T (ad 6) u v5 v9 hr20) tw_431 tw_432 tw_433 tw_4 tw_434 (by decide +kernel) ⟨Nat.le_trans (Nat.le_of_ble_eq_true rfl) hRf, Nat.le_trans (Nat.le_of_ble_eq_true rfl) hRl⟩ ⟨Nat.zero_le _, Nat.zero_le _⟩ 2 2 rfl rfl rfl hl.1 rfl (Nat.le_of_ble_eq_true rfl) dX4_waysFrom_135) (fun H locs V => ?_)
        replace V : Wd D tc A s H locs (Fw tc ad ta us T (ad 6) u21) := V
        refine lv_lload hx hb dX4_waysFrom_138 (lv_at hl 5 rfl) ?_
        exact hret (v9, u21) hj V dX4_waysFrom_140
      · replace hj := iq _ c19 hj
        refine lv_aload_n hx hb dX4_waysFrom_82 rfl (lv_at hl 0 rfl) ?_
        refine lv_iload hx hb dX4_waysFrom_83 (lv_at hl 6 rfl) ?_
        refine lv_iload_n hx hb dX4_waysFrom_85 rfl (lv_at hl 2 rfl) ?_
        refine lv_lload_n hx hb dX4_waysFrom_86 rfl (lv_at hl 3 rfl) ?_
        obtain ⟨r22, hr22, hj⟩ := bd_some hj
        refine x_allI V _ (rg_map _) (x_runV (n := 3) (rest := []) C V _ (rg_map _) (rg_nd _) (k_X4_fits l D tc ad ta us T (ad 6) u v11 v2 v3 hr22) tw_374 tw_376 tp_7 tw_2 tw_377 (by decide +kernel) ⟨Nat.le_trans (Nat.le_of_ble_eq_true rfl) hRf, Nat.le_trans (Nat.le_of_ble_eq_true rfl) hRl⟩ ⟨Nat.zero_le _, Nat.zero_le _⟩ 0 3 rfl rfl rfl hl.1 rfl (Nat.le_of_ble_eq_true rfl) dX4_waysFrom_87) (fun H locs V zr22 => ?_)
        replace V : Wd D tc A s H locs (Fw tc ad ta us T (ad 6) u) := V
        refine lv_if_eq (tgt := 121) hx hb dX4_waysFrom_90 (by decide) (fun c23 => ?_) (fun c23 => ?_)
        · replace hj := ip _ c23 hj
          obtain ⟨x24, ex24, hj⟩ := nm_some hj
          refine lv_iinc (v := x24) (lv' := [(11, .int x24), (0, .ref (ad 0)), (1, .int v1), (2, .int v2), (3, .long v3), (5, .long v5), (9, .long v9)]) hx hb dX4_waysFrom_121 hl (k := 6) rfl (by rw [ex24]; rfl) (by decide) rfl (fun ls hl => ?_)
          refine lv_goto (tgt := 56) hx hb dX4_waysFrom_124 (by decide) ?_
          exact hk_56 u v1 v2 v3 v5 v9 x24 hj _ _ _ V (lv_sub hl [1, 2, 3, 4, 5, 6, 0] rfl)
        · replace hj := iq _ c23 hj
          refine lv_lload hx hb dX4_waysFrom_93 (lv_at hl 5 rfl) ?_
          refine lv_aload_n hx hb dX4_waysFrom_95 rfl (lv_at hl 0 rfl) ?_
          refine lv_iload_n hx hb dX4_waysFrom_96 rfl (lv_at hl 1 rfl) ?_
          refine lv_iconst (v := 1) hx hb dX4_waysFrom_97 (by decide) ?_
          refine lv_iadd hx hb dX4_waysFrom_98 ?_
          refine lv_iload_n hx hb dX4_waysFrom_99 rfl (lv_at hl 2 rfl) ?_
          refine lv_iconst (v := 1) hx hb dX4_waysFrom_100 (by decide) ?_
          refine lv_iload hx hb dX4_waysFrom_101 (lv_at hl 6 rfl) ?_
          refine lv_ishl hx hb dX4_waysFrom_103 ?_
          refine lv_ior hx hb dX4_waysFrom_104 ?_
          refine lv_aload_n hx hb dX4_waysFrom_105 rfl (lv_at hl 0 rfl) ?_
          refine x_get hx hb hts hown V inX4 0 rfl rfl 0 (by decide) tw_106 rfl rfl dX4_waysFrom_106 ?_
          refine lv_iload hx hb dX4_waysFrom_109 (lv_at hl 6 rfl) ?_
          refine lv_lload_n hx hb dX4_waysFrom_111 rfl (lv_at hl 3 rfl) ?_
          obtain ⟨r25, hr25, hj⟩ := bd_some hj
          refine x_allL V _ (rg_map _) (x_runS (n := 3) (rest := [.int (v2 ||| ((1 : Int32) <<< (v11 &&& 31))), .int (v1 + (1 : Int32)), .ref (ad 0), .long v9]) C V _ (rg_map _) (rg_nd _) (k_X3_after l D tc ad ta us T (ad 6) u v11 v3 hr25) tw_411 tw_412 tw_8 tw_413 (by decide +kernel) ⟨Nat.le_trans (Nat.le_of_ble_eq_true rfl) hRf, Nat.le_trans (Nat.le_of_ble_eq_true rfl) hRl⟩ ⟨Nat.zero_le _, Nat.zero_le _⟩ rfl hl.1 rfl (Nat.le_of_ble_eq_true rfl) dX4_waysFrom_112) (fun H locs V => ?_)
          replace V : Wd D tc A s H locs (Fw tc ad ta us T (ad 6) u) := V
          obtain ⟨⟨r26, u27⟩, hr26, hj⟩ := bd_some hj
          refine x_allL V _ (rg_map _) (x_runV (n := 3) (rest := [.long v9]) C V _ (rg_map _) (rg_nd _) (hrc u (v1 + (1 : Int32)) (v2 ||| ((1 : Int32) <<< (v11 &&& 31))) r25 hr26) tw_353 tw_355 tp_5 tw_2 tw_356 (by decide +kernel) ⟨hrf, hrl⟩ ⟨Nat.zero_le _, Nat.zero_le _⟩ 0 3 rfl rfl rfl hl.1 rfl (Nat.le_of_ble_eq_true rfl) dX4_waysFrom_115) (fun H locs V => ?_)
          replace V : Wd D tc A s H locs (Fw tc ad ta us T (ad 6) u27) := V
          refine lv_ladd hx hb dX4_waysFrom_118 ?_
          obtain ⟨x28, ex28, hj⟩ := nm_some hj
          refine x_topl ex28 ?_
          refine lv_lstore (lv' := [(9, .long x28), (0, .ref (ad 0)), (1, .int v1), (2, .int v2), (3, .long v3), (5, .long v5), (11, .int v11)]) hx hb dX4_waysFrom_119 hl (by decide) rfl (fun ls hl => ?_)
          obtain ⟨x29, ex29, hj⟩ := nm_some hj
          refine lv_iinc (v := x29) (lv' := [(11, .int x29), (9, .long x28), (0, .ref (ad 0)), (1, .int v1), (2, .int v2), (3, .long v3), (5, .long v5)]) hx hb dX4_waysFrom_121 hl (k := 6) rfl (by rw [ex29]; rfl) (by decide) rfl (fun ls hl => ?_)
          refine lv_goto (tgt := 56) hx hb dX4_waysFrom_124 (by decide) ?_
          exact hk_56 u27 v1 v2 v3 v5 x28 x29 hj _ _ _ V (lv_sub hl [2, 3, 4, 5, 6, 1, 0] rfl)
def j_X4_waysFrom_56 (T : TbT) (rc : St → Int32 → Int32 → Int64 → Option (Int64 × St)) : Nat → St → Int32 → Int32 → Int64 → Int64 → Int64 → Int32 → Option (Int64 × St)
  | 0 => fun _ _ _ _ _ _ _ => none
  | n + 1 => q_X4_waysFrom_56 T rc (j_X4_waysFrom_56 T rc n)
theorem lp_X4_waysFrom_56 {p : Program} {l : Launch} {e : Env} {R : Room} {s : State} {m : MethodId} {args : Array Value} {below : List Frame} {meth : Method} {c : Code} {A : Nat → Prop} {Q : State → Prop} {D : va_G} {tc : Nat → ClassId} (ad ta : Nat → Nat) (us : Int32) (T : TbT) (sh : Nat) (hRf : 5 ≤ R.frames) (hRl : 112 ≤ R.locals) (C : Cx p s m args meth c cX4_waysFrom 12 RX4 (some .long)) {x0 : Int64 × St} (hret : RetL p l e R s m args below meth c Q cX4_waysFrom D tc A (some x0) (fun x : Int64 × St => x.1) (fun x : Int64 × St => Fw tc ad ta us T (ad 6) x.2)) {frr lor : Nat} (rc : St → Int32 → Int32 → Int64 → Option (Int64 × St)) (hrc : ∀ (u : St) (v1 : Int32) (v2 : Int32) (v3 : Int64) {x1 : Int64 × St}, rc u v1 v2 v3 = some x1 → MetD l D tc yX4_waysFrom cX4_waysFrom 12 (some .long) frr lor [.ref (ad 0), .int v1, .int v2, .long v3] (Fw tc ad ta us T (ad 6) u) (some (.long x1.1)) (Fw tc ad ta us T (ad 6) x1.2)) (hrf : frr + 1 ≤ R.frames) (hrl : 8 + (12 + 11) + lor ≤ R.locals)  : ∀ (n : Nat), ∀ (u : St) (v1 : Int32) (v2 : Int32) (v3 : Int64) (v5 : Int64) (v9 : Int64) (v11 : Int32), j_X4_waysFrom_56 T rc n u v1 v2 v3 v5 v9 v11 = some x0 → ∀ (H : Heap) (locs : List Loc) (ls : Array Slot), Wd D tc A s H locs (Fw tc ad ta us T (ad 6) u) → lv_has ls 12 [(0, .ref (ad 0)), (1, .int v1), (2, .int v2), (3, .long v3), (5, .long v5), (9, .long v9), (11, .int v11)] → W p l e R s m args below meth c H locs 0 0 Q (F0 m 56 ls []) := by
  intro n
  induction n with
  | zero =>
    intro u v1 v2 v3 v5 v9 v11 hj
    have hj : (none : Option (Int64 × St)) = some x0 := hj
    cases hj
  | succ n ih =>
    intro u v1 v2 v3 v5 v9 v11 hj
    exact b_X4_waysFrom_56 ad ta us T sh hRf hRl C hret rc hrc hrf hrl  (j_X4_waysFrom_56 T rc n) ih u v1 v2 v3 v5 v9 v11 hj
def q_X4_waysFrom_0 (T : TbT) (rc : St → Int32 → Int32 → Int64 → Option (Int64 × St)) (u : St) (v1 : Int32) (v2 : Int32) (v3 : Int64) : Option (Int64 × St) :=
  if v1 ≤ (10 : Int32) then (j_X4_keyOf v2 v3).bind (fun r2 => (j_X2_valueOf u r2).bind (fun r3 => if (lg_cmp r3 (-1 : Int64)) = (0 : Int32) then (j_X4_isWhole u v2).bind (fun r5 => if r5 = (0 : Int32) then j_X4_waysFrom_56 T rc 100 u v1 v2 v3 r2 (0 : Int64) (0 : Int32) else j_X4_waysFrom_56 T rc 100 u v1 v2 v3 r2 (1 : Int64) (0 : Int32)) else some (r3, u))) else some ((0 : Int64), u)
set_option maxHeartbeats 4000000 in
set_option maxRecDepth 100000 in
theorem b_X4_waysFrom_0 {p : Program} {l : Launch} {e : Env} {R : Room} {s : State} {m : MethodId} {args : Array Value} {below : List Frame} {meth : Method} {c : Code} {A : Nat → Prop} {Q : State → Prop} {D : va_G} {tc : Nat → ClassId} (ad ta : Nat → Nat) (us : Int32) (T : TbT) (sh : Nat) (hRf : 5 ≤ R.frames) (hRl : 112 ≤ R.locals) (C : Cx p s m args meth c cX4_waysFrom 12 RX4 (some .long)) {x0 : Int64 × St} (hret : RetL p l e R s m args below meth c Q cX4_waysFrom D tc A (some x0) (fun x : Int64 × St => x.1) (fun x : Int64 × St => Fw tc ad ta us T (ad 6) x.2)) {frr lor : Nat} (rc : St → Int32 → Int32 → Int64 → Option (Int64 × St)) (hrc : ∀ (u : St) (v1 : Int32) (v2 : Int32) (v3 : Int64) {x1 : Int64 × St}, rc u v1 v2 v3 = some x1 → MetD l D tc yX4_waysFrom cX4_waysFrom 12 (some .long) frr lor [.ref (ad 0), .int v1, .int v2, .long v3] (Fw tc ad ta us T (ad 6) u) (some (.long x1.1)) (Fw tc ad ta us T (ad 6) x1.2)) (hrf : frr + 1 ≤ R.frames) (hrl : 8 + (12 + 11) + lor ≤ R.locals)  : ∀ (u : St) (v1 : Int32) (v2 : Int32) (v3 : Int64), q_X4_waysFrom_0 T rc u v1 v2 v3 = some x0 → ∀ (H : Heap) (locs : List Loc) (ls : Array Slot), Wd D tc A s H locs (Fw tc ad ta us T (ad 6) u) → lv_has ls 12 [(0, .ref (ad 0)), (1, .int v1), (2, .int v2), (3, .long v3)] → W p l e R s m args below meth c H locs 0 0 Q (F0 m 0 ls []) := by
  obtain ⟨hx, hb, hr, hml, hown, hts, hlk, hN⟩ := id C
  intro u v1 v2 v3 hj H locs ls V hl
  unfold q_X4_waysFrom_0 at hj
  refine lv_iload_n hx hb dX4_waysFrom_0 rfl (lv_at hl 1 rfl) ?_
  refine lv_bipush (v := 10) hx hb dX4_waysFrom_1 (by decide) ?_
  refine lv_icmp_le (tgt := 8) hx hb dX4_waysFrom_3 (by decide) (fun c1 => ?_) (fun c1 => ?_)
  · replace hj := ip _ c1 hj
    refine lv_iload_n hx hb dX4_waysFrom_8 rfl (lv_at hl 2 rfl) ?_
    refine lv_lload_n hx hb dX4_waysFrom_9 rfl (lv_at hl 3 rfl) ?_
    obtain ⟨r2, hr2, hj⟩ := bd_some hj
    refine x_allL V _ (rg_map _) (x_runS (n := 2) (rest := []) C V _ (rg_map _) (rg_nd _) (k_X4_keyOf l D tc (Fw tc ad ta us T (ad 6) u) v2 v3 hr2) tw_357 tw_358 tw_2 tw_359 (by decide +kernel) ⟨Nat.le_trans (Nat.le_of_ble_eq_true rfl) hRf, Nat.le_trans (Nat.le_of_ble_eq_true rfl) hRl⟩ ⟨Nat.zero_le _, Nat.zero_le _⟩ rfl hl.1 rfl (Nat.le_of_ble_eq_true rfl) dX4_waysFrom_10) (fun H locs V => ?_)
    replace V : Wd D tc A s H locs (Fw tc ad ta us T (ad 6) u) := V
    refine lv_lstore (lv' := [(5, .long r2), (0, .ref (ad 0)), (1, .int v1), (2, .int v2), (3, .long v3)]) hx hb dX4_waysFrom_13 hl (by decide) rfl (fun ls hl => ?_)
    refine lv_aload_n hx hb dX4_waysFrom_15 rfl (lv_at hl 1 rfl) ?_
    refine x_get hx hb hts hown V inX4 0 rfl rfl 5 (by decide) tw_111 rfl rfl dX4_waysFrom_16 ?_
    refine lv_lload hx hb dX4_waysFrom_19 (lv_at hl 0 rfl) ?_
    obtain ⟨r3, hr3, hj⟩ := bd_some hj
    refine x_allL V _ (rg_map _) (x_runV (n := 1) (rest := []) C V _ (rg_map _) (rg_nd _) (k_X2_valueOf l D tc ad ta us T (ad 6) u r2 hr3) tw_360 tw_361 tw_362 tw_4 tw_363 (by decide +kernel) ⟨Nat.le_trans (Nat.le_of_ble_eq_true rfl) hRf, Nat.le_trans (Nat.le_of_ble_eq_true rfl) hRl⟩ ⟨Nat.zero_le _, Nat.zero_le _⟩ 2 2 rfl rfl rfl hl.1 rfl (Nat.le_of_ble_eq_true rfl) dX4_waysFrom_21) (fun H locs V => ?_)
    replace V : Wd D tc A s H locs (Fw tc ad ta us T (ad 6) u) := V
    refine lv_lstore (lv' := [(7, .long r3), (5, .long r2), (0, .ref (ad 0)), (1, .int v1), (2, .int v2), (3, .long v3)]) hx hb dX4_waysFrom_24 hl (by decide) rfl (fun ls hl => ?_)
    refine lv_lload hx hb dX4_waysFrom_26 (lv_at hl 0 rfl) ?_
    refine lv_ldc2 (v := (-1)) hx hb hown (hts _ tw_369) dX4_waysFrom_28 ?_
    refine W.lcmp hx hb dX4_waysFrom_31 ?_
    refine lv_if_eq (tgt := 38) hx hb dX4_waysFrom_32 (by decide) (fun c4 => ?_) (fun c4 => ?_)
    · replace hj := ip _ c4 hj
      refine lv_aload_n hx hb dX4_waysFrom_38 rfl (lv_at hl 2 rfl) ?_
      refine lv_iload_n hx hb dX4_waysFrom_39 rfl (lv_at hl 4 rfl) ?_
      obtain ⟨r5, hr5, hj⟩ := bd_some hj
      refine x_allI V _ (rg_map _) (x_runV (n := 1) (rest := []) C V _ (rg_map _) (rg_nd _) (k_X4_isWhole l D tc ad ta us T (ad 6) u v2 hr5) tw_370 tw_372 tp_6 tw_2 tw_373 (by decide +kernel) ⟨Nat.le_trans (Nat.le_of_ble_eq_true rfl) hRf, Nat.le_trans (Nat.le_of_ble_eq_true rfl) hRl⟩ ⟨Nat.zero_le _, Nat.zero_le _⟩ 0 3 rfl rfl rfl hl.1 rfl (Nat.le_of_ble_eq_true rfl) dX4_waysFrom_40) (fun H locs V zr5 => ?_)
      replace V : Wd D tc A s H locs (Fw tc ad ta us T (ad 6) u) := V
      refine lv_if_eq (tgt := 50) hx hb dX4_waysFrom_43 (by decide) (fun c6 => ?_) (fun c6 => ?_)
      · replace hj := ip _ c6 hj
        refine lv_lconst (v := 0) hx hb dX4_waysFrom_50 (by decide) ?_
        refine lv_lstore (lv' := [(9, .long (0 : Int64)), (7, .long r3), (5, .long r2), (0, .ref (ad 0)), (1, .int v1), (2, .int v2), (3, .long v3)]) hx hb dX4_waysFrom_51 hl (by decide) rfl (fun ls hl => ?_)
        refine lv_iconst (v := 0) hx hb dX4_waysFrom_53 (by decide) ?_
        refine lv_istore (lv' := [(11, .int (0 : Int32)), (9, .long (0 : Int64)), (7, .long r3), (5, .long r2), (0, .ref (ad 0)), (1, .int v1), (2, .int v2), (3, .long v3)]) hx hb dX4_waysFrom_54 hl (by decide) rfl (fun ls hl => ?_)
        exact lp_X4_waysFrom_56 ad ta us T sh hRf hRl C hret rc hrc hrf hrl  100 u v1 v2 v3 r2 (0 : Int64) (0 : Int32) hj _ _ _ V (lv_sub hl [4, 5, 6, 7, 3, 1, 0] rfl)
      · replace hj := iq _ c6 hj
        refine lv_lconst (v := 1) hx hb dX4_waysFrom_46 (by decide) ?_
        refine lv_goto (tgt := 51) hx hb dX4_waysFrom_47 (by decide) ?_
        refine lv_lstore (lv' := [(9, .long (1 : Int64)), (7, .long r3), (5, .long r2), (0, .ref (ad 0)), (1, .int v1), (2, .int v2), (3, .long v3)]) hx hb dX4_waysFrom_51 hl (by decide) rfl (fun ls hl => ?_)
        refine lv_iconst (v := 0) hx hb dX4_waysFrom_53 (by decide) ?_
        refine lv_istore (lv' := [(11, .int (0 : Int32)), (9, .long (1 : Int64)), (7, .long r3), (5, .long r2), (0, .ref (ad 0)), (1, .int v1), (2, .int v2), (3, .long v3)]) hx hb dX4_waysFrom_54 hl (by decide) rfl (fun ls hl => ?_)
        exact lp_X4_waysFrom_56 ad ta us T sh hRf hRl C hret rc hrc hrf hrl  100 u v1 v2 v3 r2 (1 : Int64) (0 : Int32) hj _ _ _ V (lv_sub hl [4, 5, 6, 7, 3, 1, 0] rfl)
    · replace hj := iq _ c4 hj
      refine lv_lload hx hb dX4_waysFrom_35 (lv_at hl 0 rfl) ?_
      exact hret (r3, u) hj V dX4_waysFrom_37
  · replace hj := iq _ c1 hj
    refine lv_lconst (v := 0) hx hb dX4_waysFrom_6 (by decide) ?_
    exact hret ((0 : Int64), u) hj V dX4_waysFrom_7
def j_X4_waysFrom (T : TbT) : Nat → St → Int32 → Int32 → Int64 → Option (Int64 × St)
  | 0 => fun _ _ _ _ => none
  | n + 1 => q_X4_waysFrom_0 T (j_X4_waysFrom T n)
set_option maxHeartbeats 4000000 in
set_option maxRecDepth 100000 in
theorem k_X4_waysFrom (l : Launch) (D : va_G) (tc : Nat → ClassId) (ad ta : Nat → Nat) (us : Int32) (T : TbT) (sh : Nat) : ∀ (d : Nat) (u : St) (v1 : Int32) (v2 : Int32) (v3 : Int64) {x0 : Int64 × St}, j_X4_waysFrom T d u v1 v2 v3 = some x0 → MetD l D tc yX4_waysFrom cX4_waysFrom 12 (some .long) (5 + d) (112 + d * 31) [.ref (ad 0), .int v1, .int v2, .long v3] (Fw tc ad ta us T (ad 6) u) (some (.long x0.1)) (Fw tc ad ta us T (ad 6) x0.2) := by
  intro d
  induction d with
  | zero =>
    intro u v1 v2 v3 x0 hj
    have hj : (none : Option (Int64 × St)) = some x0 := hj
    cases hj
  | succ n ih =>
    intro u v1 v2 v3 x0 hj
    refine x_entL (fun x : Int64 × St => x.1) (fun x : Int64 × St => Fw tc ad ta us T (ad 6) x.2) (by decide) (own := RX4) rfl (Nat.le_of_ble_eq_true rfl) (fun p e s m args below meth c A Q ls C V hl hret => ?_)
    have hl : lv_has ls 12 [(0, .ref (ad 0)), (1, .int v1), (2, .int v2), (3, .long v3)] := hl
    exact b_X4_waysFrom_0 ad ta us T sh (show 5 ≤ 5 + (n + 1) by omega) (show 112 ≤ 112 + (n + 1) * 31 by omega) C hret (j_X4_waysFrom T n) ih (show 5 + n + 1 ≤ 5 + (n + 1) by omega) (show 8 + (12 + 11) + (112 + n * 31) ≤ 112 + (n + 1) * 31 by omega) u v1 v2 v3 hj _ _ _ V hl

def j_X4_takes (T : TbT) (u : St) (v2 : Int32) (v3 : Int32) : Option (Int32 × St) :=
  (j_X4_open u v2 v3 (1 : Int32)).bind (fun u2 => (j_X4_waysFrom T 12 u2 (0 : Int32) (0 : Int32) (0 : Int64)).bind (fun ⟨r3, u4⟩ => if (lg_cmp r3 (0 : Int64)) ≤ (0 : Int32) then some ((0 : Int32), u4) else some ((1 : Int32), u4)))
set_option maxHeartbeats 4000000 in
set_option maxRecDepth 100000 in
theorem k_X4_takes (l : Launch) (D : va_G) (tc : Nat → ClassId) (ad ta : Nat → Nat) (us : Int32) (T : TbT) (sh : Nat) (u : St) (v2 : Int32) (v3 : Int32) {x0 : Int32 × St} (hj : j_X4_takes T u v2 v3 = some x0) : MetD l D tc yX4_takes cX4_takes 4 (some .boolean) 18 515 [.ref (ad 0), .ref (ad 6), .int v2, .int v3] (Fw tc ad ta us T sh u) (some (.int x0.1)) (Fw tc ad ta us T (ad 6) x0.2) :=
  x_entI (fun x : Int32 × St => x.1) (fun x : Int32 × St => Fw tc ad ta us T (ad 6) x.2) (by decide) (own := RX4) rfl (Nat.le_of_ble_eq_true rfl) (fun p e s m args below meth c A Q ls C V hl hret => by
  obtain ⟨hx, hb, hr, hml, hown, hts, hlk, hN⟩ := id C
  have hRf : 18 ≤ (rmz 18 0 0 515).frames := Nat.le_refl _
  have hRl : 515 ≤ (rmz 18 0 0 515).locals := Nat.le_refl _
  generalize (rmz 18 0 0 515) = R at hret hRf hRl ⊢
  generalize s.heap = H at V ⊢
  generalize ([] : List Loc) = locs at V ⊢
  have hl : lv_has ls 4 [(0, .ref (ad 0)), (1, .ref (ad 6)), (2, .int v2), (3, .int v3)] := hl
  unfold j_X4_takes at hj
  refine lv_aload_n hx hb dX4_takes_0 rfl (lv_at hl 0 rfl) ?_
  refine lv_aload_n hx hb dX4_takes_1 rfl (lv_at hl 1 rfl) ?_
  refine lv_iload_n hx hb dX4_takes_2 rfl (lv_at hl 2 rfl) ?_
  refine lv_iload_n hx hb dX4_takes_3 rfl (lv_at hl 3 rfl) ?_
  refine lv_iconst (v := 1) hx hb dX4_takes_4 (by decide) ?_
  obtain ⟨u2, hr1, hj⟩ := bd_some hj
  refine x_allV V _ (rg_map _) (x_runV (n := 4) (rest := []) C V _ (rg_map _) (rg_nd _) (k_X4_open l D tc ad ta us T sh u v2 v3 (1 : Int32) hr1) tw_341 tw_343 tp_4 tw_2 tw_344 (by decide +kernel) ⟨Nat.le_trans (Nat.le_of_ble_eq_true rfl) hRf, Nat.le_trans (Nat.le_of_ble_eq_true rfl) hRl⟩ ⟨Nat.zero_le _, Nat.zero_le _⟩ 0 3 rfl rfl rfl hl.1 rfl (Nat.le_of_ble_eq_true rfl) dX4_takes_5) (fun H locs V => ?_)
  replace V : Wd D tc A s H locs (Fw tc ad ta us T (ad 6) u2) := V
  refine lv_aload_n hx hb dX4_takes_8 rfl (lv_at hl 0 rfl) ?_
  refine lv_iconst (v := 0) hx hb dX4_takes_9 (by decide) ?_
  refine lv_iconst (v := 0) hx hb dX4_takes_10 (by decide) ?_
  refine lv_lconst (v := 0) hx hb dX4_takes_11 (by decide) ?_
  obtain ⟨⟨r3, u4⟩, hr3, hj⟩ := bd_some hj
  refine x_allL V _ (rg_map _) (x_runV (n := 3) (rest := []) C V _ (rg_map _) (rg_nd _) (k_X4_waysFrom l D tc ad ta us T (ad 6) 12 u2 (0 : Int32) (0 : Int32) (0 : Int64) hr3) tw_353 tw_355 tp_5 tw_2 tw_356 (by decide +kernel) ⟨Nat.le_trans (Nat.le_of_ble_eq_true rfl) hRf, Nat.le_trans (Nat.le_of_ble_eq_true rfl) hRl⟩ ⟨Nat.zero_le _, Nat.zero_le _⟩ 0 3 rfl rfl rfl hl.1 rfl (Nat.le_of_ble_eq_true rfl) dX4_takes_12) (fun H locs V => ?_)
  replace V : Wd D tc A s H locs (Fw tc ad ta us T (ad 6) u4) := V
  refine lv_lconst (v := 0) hx hb dX4_takes_15 (by decide) ?_
  refine W.lcmp hx hb dX4_takes_16 ?_
  refine lv_if_le (tgt := 24) hx hb dX4_takes_17 (by decide) (fun c5 => ?_) (fun c5 => ?_)
  · replace hj := ip _ c5 hj
    refine lv_iconst (v := 0) hx hb dX4_takes_24 (by decide) ?_
    exact hret ((0 : Int32), u4) hj zn_0 V dX4_takes_25
  · replace hj := iq _ c5 hj
    refine lv_iconst (v := 1) hx hb dX4_takes_20 (by decide) ?_
    refine lv_goto (tgt := 25) hx hb dX4_takes_21 (by decide) ?_
    exact hret ((1 : Int32), u4) hj zn_1 V dX4_takes_25)

def j_X4_count (T : TbT) (u : St) (v2 : Int32) : Option (Int64 × St) :=
  (j_X1_allCalls u).bind (fun r1 => (j_X4_open u v2 r1 (0 : Int32)).bind (fun u3 => (j_X4_waysFrom T 12 u3 (0 : Int32) (0 : Int32) (0 : Int64)).bind (fun ⟨r4, u5⟩ => some (r4, u5))))
set_option maxHeartbeats 4000000 in
set_option maxRecDepth 100000 in
theorem k_X4_count (l : Launch) (D : va_G) (tc : Nat → ClassId) (ad ta : Nat → Nat) (us : Int32) (T : TbT) (sh : Nat) (u : St) (v2 : Int32) {x0 : Int64 × St} (hj : j_X4_count T u v2 = some x0) : MetD l D tc yX4_count cX4_count 3 (some .long) 18 515 [.ref (ad 0), .ref (ad 6), .int v2] (Fw tc ad ta us T sh u) (some (.long x0.1)) (Fw tc ad ta us T (ad 6) x0.2) :=
  x_entL (fun x : Int64 × St => x.1) (fun x : Int64 × St => Fw tc ad ta us T (ad 6) x.2) (by decide) (own := RX4) rfl (Nat.le_of_ble_eq_true rfl) (fun p e s m args below meth c A Q ls C V hl hret => by
  obtain ⟨hx, hb, hr, hml, hown, hts, hlk, hN⟩ := id C
  have hRf : 18 ≤ (rmz 18 0 0 515).frames := Nat.le_refl _
  have hRl : 515 ≤ (rmz 18 0 0 515).locals := Nat.le_refl _
  generalize (rmz 18 0 0 515) = R at hret hRf hRl ⊢
  generalize s.heap = H at V ⊢
  generalize ([] : List Loc) = locs at V ⊢
  have hl : lv_has ls 3 [(0, .ref (ad 0)), (1, .ref (ad 6)), (2, .int v2)] := hl
  unfold j_X4_count at hj
  refine lv_aload_n hx hb dX4_count_0 rfl (lv_at hl 0 rfl) ?_
  refine lv_aload_n hx hb dX4_count_1 rfl (lv_at hl 1 rfl) ?_
  refine lv_iload_n hx hb dX4_count_2 rfl (lv_at hl 2 rfl) ?_
  refine lv_aload_n hx hb dX4_count_3 rfl (lv_at hl 1 rfl) ?_
  obtain ⟨r1, hr1, hj⟩ := bd_some hj
  refine x_allI V _ (rg_map _) (x_runV (n := 0) (rest := [.int v2, .ref (ad 6), .ref (ad 0)]) C V _ (rg_map _) (rg_nd _) (k_X1_allCalls l D tc ad ta us T sh u hr1) tw_443 tw_314 tw_315 tw_3 tw_316 (by decide +kernel) ⟨Nat.le_trans (Nat.le_of_ble_eq_true rfl) hRf, Nat.le_trans (Nat.le_of_ble_eq_true rfl) hRl⟩ ⟨Nat.zero_le _, Nat.zero_le _⟩ 6 1 rfl rfl rfl hl.1 rfl (Nat.le_of_ble_eq_true rfl) dX4_count_4) (fun H locs V zr1 => ?_)
  replace V : Wd D tc A s H locs (Fw tc ad ta us T sh u) := V
  refine lv_iconst (v := 0) hx hb dX4_count_7 (by decide) ?_
  obtain ⟨u3, hr2, hj⟩ := bd_some hj
  refine x_allV V _ (rg_map _) (x_runV (n := 4) (rest := []) C V _ (rg_map _) (rg_nd _) (k_X4_open l D tc ad ta us T sh u v2 r1 (0 : Int32) hr2) tw_341 tw_343 tp_4 tw_2 tw_344 (by decide +kernel) ⟨Nat.le_trans (Nat.le_of_ble_eq_true rfl) hRf, Nat.le_trans (Nat.le_of_ble_eq_true rfl) hRl⟩ ⟨Nat.zero_le _, Nat.zero_le _⟩ 0 3 rfl rfl rfl hl.1 rfl (Nat.le_of_ble_eq_true rfl) dX4_count_8) (fun H locs V => ?_)
  replace V : Wd D tc A s H locs (Fw tc ad ta us T (ad 6) u3) := V
  refine lv_aload_n hx hb dX4_count_11 rfl (lv_at hl 0 rfl) ?_
  refine lv_iconst (v := 0) hx hb dX4_count_12 (by decide) ?_
  refine lv_iconst (v := 0) hx hb dX4_count_13 (by decide) ?_
  refine lv_lconst (v := 0) hx hb dX4_count_14 (by decide) ?_
  obtain ⟨⟨r4, u5⟩, hr4, hj⟩ := bd_some hj
  refine x_allL V _ (rg_map _) (x_runV (n := 3) (rest := []) C V _ (rg_map _) (rg_nd _) (k_X4_waysFrom l D tc ad ta us T (ad 6) 12 u3 (0 : Int32) (0 : Int32) (0 : Int64) hr4) tw_353 tw_355 tp_5 tw_2 tw_356 (by decide +kernel) ⟨Nat.le_trans (Nat.le_of_ble_eq_true rfl) hRf, Nat.le_trans (Nat.le_of_ble_eq_true rfl) hRl⟩ ⟨Nat.zero_le _, Nat.zero_le _⟩ 0 3 rfl rfl rfl hl.1 rfl (Nat.le_of_ble_eq_true rfl) dX4_count_15) (fun H locs V => ?_)
  replace V : Wd D tc A s H locs (Fw tc ad ta us T (ad 6) u5) := V
  exact hret (r4, u5) hj V dX4_count_18)

def q_X4_firstThatLeadsOn_3 (T : TbT) (k_3 : St → Int32 → Int32 → Int64 → Int32 → Option (Int32 × St)) (u : St) (v1 : Int32) (v2 : Int32) (v3 : Int64) (v5 : Int32) : Option (Int32 × St) :=
  if (u.1 2) ≤ v5 then some ((-1 : Int32), u) else (j_X4_fits T u v5 v2 v3).bind (fun r2 => if r2 = (0 : Int32) then nm (v5 + 1) (fun x4 => k_3 u v1 v2 v3 x4) else (j_X3_after T u v5 v3).bind (fun r5 => (j_X4_waysFrom T 12 u (v1 + (1 : Int32)) (v2 ||| ((1 : Int32) <<< (v5 &&& 31))) r5).bind (fun ⟨r6, u7⟩ => if (lg_cmp r6 (0 : Int64)) ≤ (0 : Int32) then nm (v5 + 1) (fun x9 => k_3 u7 v1 v2 v3 x9) else some (v5, u7))))
set_option maxHeartbeats 4000000 in
set_option maxRecDepth 100000 in
theorem b_X4_firstThatLeadsOn_3 {p : Program} {l : Launch} {e : Env} {R : Room} {s : State} {m : MethodId} {args : Array Value} {below : List Frame} {meth : Method} {c : Code} {A : Nat → Prop} {Q : State → Prop} {D : va_G} {tc : Nat → ClassId} (ad ta : Nat → Nat) (us : Int32) (T : TbT) (sh : Nat) (hRf : 18 ≤ R.frames) (hRl : 515 ≤ R.locals) (C : Cx p s m args meth c cX4_firstThatLeadsOn 6 RX4 (some .int)) {x0 : Int32 × St} (hret : RetI p l e R s m args below meth c Q cX4_firstThatLeadsOn D tc A .int (some x0) (fun x : Int32 × St => x.1) (fun x : Int32 × St => Fw tc ad ta us T (ad 6) x.2)) (k_3 : St → Int32 → Int32 → Int64 → Int32 → Option (Int32 × St)) (hk_3 : ∀ (u : St) (v1 : Int32) (v2 : Int32) (v3 : Int64) (v5 : Int32), k_3 u v1 v2 v3 v5 = some x0 → ∀ (H : Heap) (locs : List Loc) (ls : Array Slot), Wd D tc A s H locs (Fw tc ad ta us T (ad 6) u) → lv_has ls 6 [(0, .ref (ad 0)), (1, .int v1), (2, .int v2), (3, .long v3), (5, .int v5)] → W p l e R s m args below meth c H locs 0 0 Q (F0 m 3 ls [])) : ∀ (u : St) (v1 : Int32) (v2 : Int32) (v3 : Int64) (v5 : Int32), q_X4_firstThatLeadsOn_3 T k_3 u v1 v2 v3 v5 = some x0 → ∀ (H : Heap) (locs : List Loc) (ls : Array Slot), Wd D tc A s H locs (Fw tc ad ta us T (ad 6) u) → lv_has ls 6 [(0, .ref (ad 0)), (1, .int v1), (2, .int v2), (3, .long v3), (5, .int v5)] → W p l e R s m args below meth c H locs 0 0 Q (F0 m 3 ls []) := by
  obtain ⟨hx, hb, hr, hml, hown, hts, hlk, hN⟩ := id C
  intro u v1 v2 v3 v5 hj H locs ls V hl
  unfold q_X4_firstThatLeadsOn_3 at hj
  refine lv_iload hx hb dX4_firstThatLeadsOn_3 (lv_at hl 4 rfl) ?_
  refine lv_aload_n hx hb dX4_firstThatLeadsOn_5 rfl (lv_at hl 0 rfl) ?_
  refine x_get hx hb hts hown V inX4 0 rfl rfl 0 (by decide) tw_106 rfl rfl dX4_firstThatLeadsOn_6 ?_
  refine x_get hx hb hts hown V inX1 6 rfl rfl 2 (by decide) tw_42 rfl rfl dX4_firstThatLeadsOn_9 ?_
  refine lv_icmp_ge (tgt := 63) hx hb dX4_firstThatLeadsOn_12 (by decide) (fun c1 => ?_) (fun c1 => ?_)
  · replace hj := ip _ c1 hj
    refine lv_iconst (v := (-1)) hx hb dX4_firstThatLeadsOn_63 (by decide) ?_
    exact hret ((-1 : Int32), u) hj rfl V dX4_firstThatLeadsOn_64
  · replace hj := iq _ c1 hj
    refine lv_aload_n hx hb dX4_firstThatLeadsOn_15 rfl (lv_at hl 0 rfl) ?_
    refine lv_iload hx hb dX4_firstThatLeadsOn_16 (lv_at hl 4 rfl) ?_
    refine lv_iload_n hx hb dX4_firstThatLeadsOn_18 rfl (lv_at hl 2 rfl) ?_
    refine lv_lload_n hx hb dX4_firstThatLeadsOn_19 rfl (lv_at hl 3 rfl) ?_
    obtain ⟨r2, hr2, hj⟩ := bd_some hj
    refine x_allI V _ (rg_map _) (x_runV (n := 3) (rest := []) C V _ (rg_map _) (rg_nd _) (k_X4_fits l D tc ad ta us T (ad 6) u v5 v2 v3 hr2) tw_374 tw_376 tp_7 tw_2 tw_377 (by decide +kernel) ⟨Nat.le_trans (Nat.le_of_ble_eq_true rfl) hRf, Nat.le_trans (Nat.le_of_ble_eq_true rfl) hRl⟩ ⟨Nat.zero_le _, Nat.zero_le _⟩ 0 3 rfl rfl rfl hl.1 rfl (Nat.le_of_ble_eq_true rfl) dX4_firstThatLeadsOn_20) (fun H locs V zr2 => ?_)
    replace V : Wd D tc A s H locs (Fw tc ad ta us T (ad 6) u) := V
    refine lv_if_eq (tgt := 57) hx hb dX4_firstThatLeadsOn_23 (by decide) (fun c3 => ?_) (fun c3 => ?_)
    · replace hj := ip _ c3 hj
      obtain ⟨x4, ex4, hj⟩ := nm_some hj
      refine lv_iinc (v := x4) (lv' := [(5, .int x4), (0, .ref (ad 0)), (1, .int v1), (2, .int v2), (3, .long v3)]) hx hb dX4_firstThatLeadsOn_57 hl (k := 4) rfl (by rw [ex4]; rfl) (by decide) rfl (fun ls hl => ?_)
      refine lv_goto (tgt := 3) hx hb dX4_firstThatLeadsOn_60 (by decide) ?_
      exact hk_3 u v1 v2 v3 x4 hj _ _ _ V (lv_sub hl [1, 2, 3, 4, 0] rfl)
    · replace hj := iq _ c3 hj
      refine lv_aload_n hx hb dX4_firstThatLeadsOn_26 rfl (lv_at hl 0 rfl) ?_
      refine lv_iload_n hx hb dX4_firstThatLeadsOn_27 rfl (lv_at hl 1 rfl) ?_
      refine lv_iconst (v := 1) hx hb dX4_firstThatLeadsOn_28 (by decide) ?_
      refine lv_iadd hx hb dX4_firstThatLeadsOn_29 ?_
      refine lv_iload_n hx hb dX4_firstThatLeadsOn_30 rfl (lv_at hl 2 rfl) ?_
      refine lv_iconst (v := 1) hx hb dX4_firstThatLeadsOn_31 (by decide) ?_
      refine lv_iload hx hb dX4_firstThatLeadsOn_32 (lv_at hl 4 rfl) ?_
      refine lv_ishl hx hb dX4_firstThatLeadsOn_34 ?_
      refine lv_ior hx hb dX4_firstThatLeadsOn_35 ?_
      refine lv_aload_n hx hb dX4_firstThatLeadsOn_36 rfl (lv_at hl 0 rfl) ?_
      refine x_get hx hb hts hown V inX4 0 rfl rfl 0 (by decide) tw_106 rfl rfl dX4_firstThatLeadsOn_37 ?_
      refine lv_iload hx hb dX4_firstThatLeadsOn_40 (lv_at hl 4 rfl) ?_
      refine lv_lload_n hx hb dX4_firstThatLeadsOn_42 rfl (lv_at hl 3 rfl) ?_
      obtain ⟨r5, hr5, hj⟩ := bd_some hj
      refine x_allL V _ (rg_map _) (x_runS (n := 3) (rest := [.int (v2 ||| ((1 : Int32) <<< (v5 &&& 31))), .int (v1 + (1 : Int32)), .ref (ad 0)]) C V _ (rg_map _) (rg_nd _) (k_X3_after l D tc ad ta us T (ad 6) u v5 v3 hr5) tw_411 tw_412 tw_8 tw_413 (by decide +kernel) ⟨Nat.le_trans (Nat.le_of_ble_eq_true rfl) hRf, Nat.le_trans (Nat.le_of_ble_eq_true rfl) hRl⟩ ⟨Nat.zero_le _, Nat.zero_le _⟩ rfl hl.1 rfl (Nat.le_of_ble_eq_true rfl) dX4_firstThatLeadsOn_43) (fun H locs V => ?_)
      replace V : Wd D tc A s H locs (Fw tc ad ta us T (ad 6) u) := V
      obtain ⟨⟨r6, u7⟩, hr6, hj⟩ := bd_some hj
      refine x_allL V _ (rg_map _) (x_runV (n := 3) (rest := []) C V _ (rg_map _) (rg_nd _) (k_X4_waysFrom l D tc ad ta us T (ad 6) 12 u (v1 + (1 : Int32)) (v2 ||| ((1 : Int32) <<< (v5 &&& 31))) r5 hr6) tw_353 tw_355 tp_5 tw_2 tw_356 (by decide +kernel) ⟨Nat.le_trans (Nat.le_of_ble_eq_true rfl) hRf, Nat.le_trans (Nat.le_of_ble_eq_true rfl) hRl⟩ ⟨Nat.zero_le _, Nat.zero_le _⟩ 0 3 rfl rfl rfl hl.1 rfl (Nat.le_of_ble_eq_true rfl) dX4_firstThatLeadsOn_46) (fun H locs V => ?_)
      replace V : Wd D tc A s H locs (Fw tc ad ta us T (ad 6) u7) := V
      refine lv_lconst (v := 0) hx hb dX4_firstThatLeadsOn_49 (by decide) ?_
      refine W.lcmp hx hb dX4_firstThatLeadsOn_50 ?_
      refine lv_if_le (tgt := 57) hx hb dX4_firstThatLeadsOn_51 (by decide) (fun c8 => ?_) (fun c8 => ?_)
      · replace hj := ip _ c8 hj
        obtain ⟨x9, ex9, hj⟩ := nm_some hj
        refine lv_iinc (v := x9) (lv' := [(5, .int x9), (0, .ref (ad 0)), (1, .int v1), (2, .int v2), (3, .long v3)]) hx hb dX4_firstThatLeadsOn_57 hl (k := 4) rfl (by rw [ex9]; rfl) (by decide) rfl (fun ls hl => ?_)
        refine lv_goto (tgt := 3) hx hb dX4_firstThatLeadsOn_60 (by decide) ?_
        exact hk_3 u7 v1 v2 v3 x9 hj _ _ _ V (lv_sub hl [1, 2, 3, 4, 0] rfl)
      · replace hj := iq _ c8 hj
        refine lv_iload hx hb dX4_firstThatLeadsOn_54 (lv_at hl 4 rfl) ?_
        exact hret (v5, u7) hj rfl V dX4_firstThatLeadsOn_56
def j_X4_firstThatLeadsOn_3 (T : TbT) : Nat → St → Int32 → Int32 → Int64 → Int32 → Option (Int32 × St)
  | 0 => fun _ _ _ _ _ => none
  | n + 1 => q_X4_firstThatLeadsOn_3 T (j_X4_firstThatLeadsOn_3 T n)
theorem lp_X4_firstThatLeadsOn_3 {p : Program} {l : Launch} {e : Env} {R : Room} {s : State} {m : MethodId} {args : Array Value} {below : List Frame} {meth : Method} {c : Code} {A : Nat → Prop} {Q : State → Prop} {D : va_G} {tc : Nat → ClassId} (ad ta : Nat → Nat) (us : Int32) (T : TbT) (sh : Nat) (hRf : 18 ≤ R.frames) (hRl : 515 ≤ R.locals) (C : Cx p s m args meth c cX4_firstThatLeadsOn 6 RX4 (some .int)) {x0 : Int32 × St} (hret : RetI p l e R s m args below meth c Q cX4_firstThatLeadsOn D tc A .int (some x0) (fun x : Int32 × St => x.1) (fun x : Int32 × St => Fw tc ad ta us T (ad 6) x.2))  : ∀ (n : Nat), ∀ (u : St) (v1 : Int32) (v2 : Int32) (v3 : Int64) (v5 : Int32), j_X4_firstThatLeadsOn_3 T n u v1 v2 v3 v5 = some x0 → ∀ (H : Heap) (locs : List Loc) (ls : Array Slot), Wd D tc A s H locs (Fw tc ad ta us T (ad 6) u) → lv_has ls 6 [(0, .ref (ad 0)), (1, .int v1), (2, .int v2), (3, .long v3), (5, .int v5)] → W p l e R s m args below meth c H locs 0 0 Q (F0 m 3 ls []) := by
  intro n
  induction n with
  | zero =>
    intro u v1 v2 v3 v5 hj
    have hj : (none : Option (Int32 × St)) = some x0 := hj
    cases hj
  | succ n ih =>
    intro u v1 v2 v3 v5 hj
    exact b_X4_firstThatLeadsOn_3 ad ta us T sh hRf hRl C hret   (j_X4_firstThatLeadsOn_3 T n) ih u v1 v2 v3 v5 hj
def j_X4_firstThatLeadsOn (T : TbT) (u : St) (v1 : Int32) (v2 : Int32) (v3 : Int64) : Option (Int32 × St) :=
  j_X4_firstThatLeadsOn_3 T 100 u v1 v2 v3 (0 : Int32)
set_option maxHeartbeats 4000000 in
set_option maxRecDepth 100000 in
theorem k_X4_firstThatLeadsOn (l : Launch) (D : va_G) (tc : Nat → ClassId) (ad ta : Nat → Nat) (us : Int32) (T : TbT) (sh : Nat) (u : St) (v1 : Int32) (v2 : Int32) (v3 : Int64) {x0 : Int32 × St} (hj : j_X4_firstThatLeadsOn T u v1 v2 v3 = some x0) : MetD l D tc yX4_firstThatLeadsOn cX4_firstThatLeadsOn 6 (some .int) 18 515 [.ref (ad 0), .int v1, .int v2, .long v3] (Fw tc ad ta us T (ad 6) u) (some (.int x0.1)) (Fw tc ad ta us T (ad 6) x0.2) :=
  x_entI (fun x : Int32 × St => x.1) (fun x : Int32 × St => Fw tc ad ta us T (ad 6) x.2) (by decide) (own := RX4) rfl (Nat.le_of_ble_eq_true rfl) (fun p e s m args below meth c A Q ls C V hl hret => by
  obtain ⟨hx, hb, hr, hml, hown, hts, hlk, hN⟩ := id C
  have hRf : 18 ≤ (rmz 18 0 0 515).frames := Nat.le_refl _
  have hRl : 515 ≤ (rmz 18 0 0 515).locals := Nat.le_refl _
  generalize (rmz 18 0 0 515) = R at hret hRf hRl ⊢
  generalize s.heap = H at V ⊢
  generalize ([] : List Loc) = locs at V ⊢
  have hl : lv_has ls 6 [(0, .ref (ad 0)), (1, .int v1), (2, .int v2), (3, .long v3)] := hl
  unfold j_X4_firstThatLeadsOn at hj
  refine lv_iconst (v := 0) hx hb dX4_firstThatLeadsOn_0 (by decide) ?_
  refine lv_istore (lv' := [(5, .int (0 : Int32)), (0, .ref (ad 0)), (1, .int v1), (2, .int v2), (3, .long v3)]) hx hb dX4_firstThatLeadsOn_1 hl (by decide) rfl (fun ls hl => ?_)
  exact lp_X4_firstThatLeadsOn_3 ad ta us T sh hRf hRl C hret   100 u v1 v2 v3 (0 : Int32) hj _ _ _ V (lv_sub hl [1, 2, 3, 4, 0] rfl))

def q_X4_firstAt_20 (T : TbT) (k_20 : St → Int32 → Int32 → Int64 → Int32 → Option (Int32 × St)) (u : St) (v3 : Int32) (v4 : Int32) (v5 : Int64) (v7 : Int32) : Option (Int32 × St) :=
  if (10 : Int32) ≤ v7 then some ((-1 : Int32), u) else (j_X4_isWhole u v4).bind (fun r5 => if r5 = (0 : Int32) then (j_X4_firstThatLeadsOn T u v7 v4 v5).bind (fun ⟨r7, u8⟩ => if r7 = (-1 : Int32) then some (r7, u8) else if v7 = v3 then some (r7, u8) else (j_X3_after T u8 r7 v5).bind (fun r11 => nm (v4 ||| ((1 : Int32) <<< (r7 &&& 31))) (fun x12 => nm (v7 + 1) (fun x13 => k_20 u8 v3 x12 r11 x13)))) else some ((-1 : Int32), u))
set_option maxHeartbeats 4000000 in
set_option maxRecDepth 100000 in
theorem b_X4_firstAt_20 {p : Program} {l : Launch} {e : Env} {R : Room} {s : State} {m : MethodId} {args : Array Value} {below : List Frame} {meth : Method} {c : Code} {A : Nat → Prop} {Q : State → Prop} {D : va_G} {tc : Nat → ClassId} (ad ta : Nat → Nat) (us : Int32) (T : TbT) (sh : Nat) (hRf : 19 ≤ R.frames) (hRl : 540 ≤ R.locals) (C : Cx p s m args meth c cX4_firstAt 9 RX4 (some .int)) {x0 : Int32 × St} (hret : RetI p l e R s m args below meth c Q cX4_firstAt D tc A .int (some x0) (fun x : Int32 × St => x.1) (fun x : Int32 × St => Fw tc ad ta us T (ad 6) x.2)) (k_20 : St → Int32 → Int32 → Int64 → Int32 → Option (Int32 × St)) (hk_20 : ∀ (u : St) (v3 : Int32) (v4 : Int32) (v5 : Int64) (v7 : Int32), k_20 u v3 v4 v5 v7 = some x0 → ∀ (H : Heap) (locs : List Loc) (ls : Array Slot), Wd D tc A s H locs (Fw tc ad ta us T (ad 6) u) → lv_has ls 9 [(0, .ref (ad 0)), (3, .int v3), (4, .int v4), (5, .long v5), (7, .int v7)] → W p l e R s m args below meth c H locs 0 0 Q (F0 m 20 ls [])) : ∀ (u : St) (v3 : Int32) (v4 : Int32) (v5 : Int64) (v7 : Int32), q_X4_firstAt_20 T k_20 u v3 v4 v5 v7 = some x0 → ∀ (H : Heap) (locs : List Loc) (ls : Array Slot), Wd D tc A s H locs (Fw tc ad ta us T (ad 6) u) → lv_has ls 9 [(0, .ref (ad 0)), (3, .int v3), (4, .int v4), (5, .long v5), (7, .int v7)] → W p l e R s m args below meth c H locs 0 0 Q (F0 m 20 ls []) := by
  obtain ⟨hx, hb, hr, hml, hown, hts, hlk, hN⟩ := id C
  intro u v3 v4 v5 v7 hj H locs ls V hl
  unfold q_X4_firstAt_20 at hj
  refine lv_iload hx hb dX4_firstAt_20 (lv_at hl 4 rfl) ?_
  refine lv_bipush (v := 10) hx hb dX4_firstAt_22 (by decide) ?_
  refine lv_icmp_ge (tgt := 91) hx hb dX4_firstAt_24 (by decide) (fun c4 => ?_) (fun c4 => ?_)
  · replace hj := ip _ c4 hj
    refine lv_iconst (v := (-1)) hx hb dX4_firstAt_91 (by decide) ?_
    exact hret ((-1 : Int32), u) hj rfl V dX4_firstAt_92
  · replace hj := iq _ c4 hj
    refine lv_aload_n hx hb dX4_firstAt_27 rfl (lv_at hl 0 rfl) ?_
    refine lv_iload hx hb dX4_firstAt_28 (lv_at hl 2 rfl) ?_
    obtain ⟨r5, hr5, hj⟩ := bd_some hj
    refine x_allI V _ (rg_map _) (x_runV (n := 1) (rest := []) C V _ (rg_map _) (rg_nd _) (k_X4_isWhole l D tc ad ta us T (ad 6) u v4 hr5) tw_370 tw_372 tp_6 tw_2 tw_373 (by decide +kernel) ⟨Nat.le_trans (Nat.le_of_ble_eq_true rfl) hRf, Nat.le_trans (Nat.le_of_ble_eq_true rfl) hRl⟩ ⟨Nat.zero_le _, Nat.zero_le _⟩ 0 3 rfl rfl rfl hl.1 rfl (Nat.le_of_ble_eq_true rfl) dX4_firstAt_30) (fun H locs V zr5 => ?_)
    replace V : Wd D tc A s H locs (Fw tc ad ta us T (ad 6) u) := V
    refine lv_if_ne (tgt := 91) hx hb dX4_firstAt_33 (by decide) (fun c6 => ?_) (fun c6 => ?_)
    · replace hj := iq _ c6 hj
      refine lv_iconst (v := (-1)) hx hb dX4_firstAt_91 (by decide) ?_
      exact hret ((-1 : Int32), u) hj rfl V dX4_firstAt_92
    · replace hj := ip _ c6 hj
      refine lv_aload_n hx hb dX4_firstAt_36 rfl (lv_at hl 0 rfl) ?_
      refine lv_iload hx hb dX4_firstAt_37 (lv_at hl 4 rfl) ?_
      refine lv_iload hx hb dX4_firstAt_39 (lv_at hl 2 rfl) ?_
      refine lv_lload hx hb dX4_firstAt_41 (lv_at hl 3 rfl) ?_
      obtain ⟨⟨r7, u8⟩, hr7, hj⟩ := bd_some hj
      refine x_allI V _ (rg_map _) (x_runV (n := 3) (rest := []) C V _ (rg_map _) (rg_nd _) (k_X4_firstThatLeadsOn l D tc ad ta us T (ad 6) u v7 v4 v5 hr7) tw_444 tw_446 tp_8 tw_2 tw_447 (by decide +kernel) ⟨Nat.le_trans (Nat.le_of_ble_eq_true rfl) hRf, Nat.le_trans (Nat.le_of_ble_eq_true rfl) hRl⟩ ⟨Nat.zero_le _, Nat.zero_le _⟩ 0 3 rfl rfl rfl hl.1 rfl (Nat.le_of_ble_eq_true rfl) dX4_firstAt_43) (fun H locs V zr7 => ?_)
      replace V : Wd D tc A s H locs (Fw tc ad ta us T (ad 6) u8) := V
      refine lv_istore (lv' := [(8, .int r7), (0, .ref (ad 0)), (3, .int v3), (4, .int v4), (5, .long v5), (7, .int v7)]) hx hb dX4_firstAt_46 hl (by decide) rfl (fun ls hl => ?_)
      refine lv_iload hx hb dX4_firstAt_48 (lv_at hl 0 rfl) ?_
      refine lv_iconst (v := (-1)) hx hb dX4_firstAt_50 (by decide) ?_
      refine lv_icmp_eq (tgt := 60) hx hb dX4_firstAt_51 (by decide) (fun c9 => ?_) (fun c9 => ?_)
      · replace hj := ip _ c9 hj
        refine lv_iload hx hb dX4_firstAt_60 (lv_at hl 0 rfl) ?_
        exact hret (r7, u8) hj rfl V dX4_firstAt_62
      · replace hj := iq _ c9 hj
        refine lv_iload hx hb dX4_firstAt_54 (lv_at hl 5 rfl) ?_
        refine lv_iload_n hx hb dX4_firstAt_56 rfl (lv_at hl 2 rfl) ?_
        refine lv_icmp_ne (tgt := 63) hx hb dX4_firstAt_57 (by decide) (fun c10 => ?_) (fun c10 => ?_)
        · replace hj := iq _ c10 hj
          refine lv_aload_n hx hb dX4_firstAt_63 rfl (lv_at hl 1 rfl) ?_
          refine x_get hx hb hts hown V inX4 0 rfl rfl 0 (by decide) tw_106 rfl rfl dX4_firstAt_64 ?_
          refine lv_iload hx hb dX4_firstAt_67 (lv_at hl 0 rfl) ?_
          refine lv_lload hx hb dX4_firstAt_69 (lv_at hl 4 rfl) ?_
          obtain ⟨r11, hr11, hj⟩ := bd_some hj
          refine x_allL V _ (rg_map _) (x_runS (n := 3) (rest := []) C V _ (rg_map _) (rg_nd _) (k_X3_after l D tc ad ta us T (ad 6) u8 r7 v5 hr11) tw_411 tw_412 tw_8 tw_413 (by decide +kernel) ⟨Nat.le_trans (Nat.le_of_ble_eq_true rfl) hRf, Nat.le_trans (Nat.le_of_ble_eq_true rfl) hRl⟩ ⟨Nat.zero_le _, Nat.zero_le _⟩ rfl hl.1 rfl (Nat.le_of_ble_eq_true rfl) dX4_firstAt_71) (fun H locs V => ?_)
          replace V : Wd D tc A s H locs (Fw tc ad ta us T (ad 6) u8) := V
          refine lv_lstore (lv' := [(5, .long r11), (8, .int r7), (0, .ref (ad 0)), (3, .int v3), (4, .int v4), (7, .int v7)]) hx hb dX4_firstAt_74 hl (by decide) rfl (fun ls hl => ?_)
          refine lv_iload hx hb dX4_firstAt_76 (lv_at hl 4 rfl) ?_
          refine lv_iconst (v := 1) hx hb dX4_firstAt_78 (by decide) ?_
          refine lv_iload hx hb dX4_firstAt_79 (lv_at hl 1 rfl) ?_
          refine lv_ishl hx hb dX4_firstAt_81 ?_
          refine lv_ior hx hb dX4_firstAt_82 ?_
          obtain ⟨x12, ex12, hj⟩ := nm_some hj
          refine x_topi ex12 ?_
          refine lv_istore (lv' := [(4, .int x12), (5, .long r11), (8, .int r7), (0, .ref (ad 0)), (3, .int v3), (7, .int v7)]) hx hb dX4_firstAt_83 hl (by decide) rfl (fun ls hl => ?_)
          obtain ⟨x13, ex13, hj⟩ := nm_some hj
          refine lv_iinc (v := x13) (lv' := [(7, .int x13), (4, .int x12), (5, .long r11), (8, .int r7), (0, .ref (ad 0)), (3, .int v3)]) hx hb dX4_firstAt_85 hl (k := 5) rfl (by rw [ex13]; rfl) (by decide) rfl (fun ls hl => ?_)
          refine lv_goto (tgt := 20) hx hb dX4_firstAt_88 (by decide) ?_
          exact hk_20 u8 v3 x12 r11 x13 hj _ _ _ V (lv_sub hl [4, 5, 1, 2, 0] rfl)
        · replace hj := ip _ c10 hj
          refine lv_iload hx hb dX4_firstAt_60 (lv_at hl 0 rfl) ?_
          exact hret (r7, u8) hj rfl V dX4_firstAt_62
def j_X4_firstAt_20 (T : TbT) : Nat → St → Int32 → Int32 → Int64 → Int32 → Option (Int32 × St)
  | 0 => fun _ _ _ _ _ => none
  | n + 1 => q_X4_firstAt_20 T (j_X4_firstAt_20 T n)
theorem lp_X4_firstAt_20 {p : Program} {l : Launch} {e : Env} {R : Room} {s : State} {m : MethodId} {args : Array Value} {below : List Frame} {meth : Method} {c : Code} {A : Nat → Prop} {Q : State → Prop} {D : va_G} {tc : Nat → ClassId} (ad ta : Nat → Nat) (us : Int32) (T : TbT) (sh : Nat) (hRf : 19 ≤ R.frames) (hRl : 540 ≤ R.locals) (C : Cx p s m args meth c cX4_firstAt 9 RX4 (some .int)) {x0 : Int32 × St} (hret : RetI p l e R s m args below meth c Q cX4_firstAt D tc A .int (some x0) (fun x : Int32 × St => x.1) (fun x : Int32 × St => Fw tc ad ta us T (ad 6) x.2))  : ∀ (n : Nat), ∀ (u : St) (v3 : Int32) (v4 : Int32) (v5 : Int64) (v7 : Int32), j_X4_firstAt_20 T n u v3 v4 v5 v7 = some x0 → ∀ (H : Heap) (locs : List Loc) (ls : Array Slot), Wd D tc A s H locs (Fw tc ad ta us T (ad 6) u) → lv_has ls 9 [(0, .ref (ad 0)), (3, .int v3), (4, .int v4), (5, .long v5), (7, .int v7)] → W p l e R s m args below meth c H locs 0 0 Q (F0 m 20 ls []) := by
  intro n
  induction n with
  | zero =>
    intro u v3 v4 v5 v7 hj
    have hj : (none : Option (Int32 × St)) = some x0 := hj
    cases hj
  | succ n ih =>
    intro u v3 v4 v5 v7 hj
    exact b_X4_firstAt_20 ad ta us T sh hRf hRl C hret   (j_X4_firstAt_20 T n) ih u v3 v4 v5 v7 hj
def j_X4_firstAt (T : TbT) (u : St) (v2 : Int32) (v3 : Int32) : Option (Int32 × St) :=
  (j_X1_allCalls u).bind (fun r1 => (j_X4_open u v2 r1 (1 : Int32)).bind (fun u3 => j_X4_firstAt_20 T 100 u3 v3 (0 : Int32) (0 : Int64) (0 : Int32)))
set_option maxHeartbeats 4000000 in
set_option maxRecDepth 100000 in
theorem k_X4_firstAt (l : Launch) (D : va_G) (tc : Nat → ClassId) (ad ta : Nat → Nat) (us : Int32) (T : TbT) (sh : Nat) (u : St) (v2 : Int32) (v3 : Int32) {x0 : Int32 × St} (hj : j_X4_firstAt T u v2 v3 = some x0) : MetD l D tc yX4_firstAt cX4_firstAt 9 (some .int) 19 540 [.ref (ad 0), .ref (ad 6), .int v2, .int v3] (Fw tc ad ta us T sh u) (some (.int x0.1)) (Fw tc ad ta us T (ad 6) x0.2) :=
  x_entI (fun x : Int32 × St => x.1) (fun x : Int32 × St => Fw tc ad ta us T (ad 6) x.2) (by decide) (own := RX4) rfl (Nat.le_of_ble_eq_true rfl) (fun p e s m args below meth c A Q ls C V hl hret => by
  obtain ⟨hx, hb, hr, hml, hown, hts, hlk, hN⟩ := id C
  have hRf : 19 ≤ (rmz 19 0 0 540).frames := Nat.le_refl _
  have hRl : 540 ≤ (rmz 19 0 0 540).locals := Nat.le_refl _
  generalize (rmz 19 0 0 540) = R at hret hRf hRl ⊢
  generalize s.heap = H at V ⊢
  generalize ([] : List Loc) = locs at V ⊢
  have hl : lv_has ls 9 [(0, .ref (ad 0)), (1, .ref (ad 6)), (2, .int v2), (3, .int v3)] := hl
  unfold j_X4_firstAt at hj
  refine lv_aload_n hx hb dX4_firstAt_0 rfl (lv_at hl 0 rfl) ?_
  refine lv_aload_n hx hb dX4_firstAt_1 rfl (lv_at hl 1 rfl) ?_
  refine lv_iload_n hx hb dX4_firstAt_2 rfl (lv_at hl 2 rfl) ?_
  refine lv_aload_n hx hb dX4_firstAt_3 rfl (lv_at hl 1 rfl) ?_
  obtain ⟨r1, hr1, hj⟩ := bd_some hj
  refine x_allI V _ (rg_map _) (x_runV (n := 0) (rest := [.int v2, .ref (ad 6), .ref (ad 0)]) C V _ (rg_map _) (rg_nd _) (k_X1_allCalls l D tc ad ta us T sh u hr1) tw_443 tw_314 tw_315 tw_3 tw_316 (by decide +kernel) ⟨Nat.le_trans (Nat.le_of_ble_eq_true rfl) hRf, Nat.le_trans (Nat.le_of_ble_eq_true rfl) hRl⟩ ⟨Nat.zero_le _, Nat.zero_le _⟩ 6 1 rfl rfl rfl hl.1 rfl (Nat.le_of_ble_eq_true rfl) dX4_firstAt_4) (fun H locs V zr1 => ?_)
  replace V : Wd D tc A s H locs (Fw tc ad ta us T sh u) := V
  refine lv_iconst (v := 1) hx hb dX4_firstAt_7 (by decide) ?_
  obtain ⟨u3, hr2, hj⟩ := bd_some hj
  refine x_allV V _ (rg_map _) (x_runV (n := 4) (rest := []) C V _ (rg_map _) (rg_nd _) (k_X4_open l D tc ad ta us T sh u v2 r1 (1 : Int32) hr2) tw_341 tw_343 tp_4 tw_2 tw_344 (by decide +kernel) ⟨Nat.le_trans (Nat.le_of_ble_eq_true rfl) hRf, Nat.le_trans (Nat.le_of_ble_eq_true rfl) hRl⟩ ⟨Nat.zero_le _, Nat.zero_le _⟩ 0 3 rfl rfl rfl hl.1 rfl (Nat.le_of_ble_eq_true rfl) dX4_firstAt_8) (fun H locs V => ?_)
  replace V : Wd D tc A s H locs (Fw tc ad ta us T (ad 6) u3) := V
  refine lv_iconst (v := 0) hx hb dX4_firstAt_11 (by decide) ?_
  refine lv_istore (lv' := [(4, .int (0 : Int32)), (0, .ref (ad 0)), (1, .ref (ad 6)), (2, .int v2), (3, .int v3)]) hx hb dX4_firstAt_12 hl (by decide) rfl (fun ls hl => ?_)
  refine lv_lconst (v := 0) hx hb dX4_firstAt_14 (by decide) ?_
  refine lv_lstore (lv' := [(5, .long (0 : Int64)), (4, .int (0 : Int32)), (0, .ref (ad 0)), (1, .ref (ad 6)), (2, .int v2), (3, .int v3)]) hx hb dX4_firstAt_15 hl (by decide) rfl (fun ls hl => ?_)
  refine lv_iconst (v := 0) hx hb dX4_firstAt_17 (by decide) ?_
  refine lv_istore (lv' := [(7, .int (0 : Int32)), (5, .long (0 : Int64)), (4, .int (0 : Int32)), (0, .ref (ad 0)), (1, .ref (ad 6)), (2, .int v2), (3, .int v3)]) hx hb dX4_firstAt_18 hl (by decide) rfl (fun ls hl => ?_)
  exact lp_X4_firstAt_20 ad ta us T sh hRf hRl C hret   100 u3 v3 (0 : Int32) (0 : Int64) (0 : Int32) hj _ _ _ V (lv_sub hl [3, 6, 2, 1, 0] rfl))

def q_X4_leastPart_33 (T : TbT) (k_20 : St → Int32 → Int32 → Int32 → Option (Int32 × St)) (k_33 : St → Int32 → Int32 → Int32 → Int32 → Int32 → Option (Int32 × St)) (u : St) (v2 : Int32) (v3 : Int32) (v4 : Int32) (v5 : Int32) (v6 : Int32) : Option (Int32 × St) :=
  if (u.1 2) ≤ v6 then if v3 = v5 then some (v3, u) else nm (v4 + 1) (fun x8 => k_20 u v2 v3 x8) else nm (v3 &&& (((1 : Int32) <<< (v6 &&& 31)) ^^^ (-1 : Int32))) (fun x9 => if x9 = v3 then nm (v6 + 1) (fun x11 => k_33 u v2 v3 v4 v5 x11) else (j_X4_takes T u v2 x9).bind (fun ⟨r12, u13⟩ => if r12 = (0 : Int32) then nm (v6 + 1) (fun x16 => k_33 u13 v2 x9 v4 v5 x16) else nm (v6 + 1) (fun x15 => k_33 u13 v2 v3 v4 v5 x15)))
set_option maxHeartbeats 4000000 in
set_option maxRecDepth 100000 in
theorem b_X4_leastPart_33 {p : Program} {l : Launch} {e : Env} {R : Room} {s : State} {m : MethodId} {args : Array Value} {below : List Frame} {meth : Method} {c : Code} {A : Nat → Prop} {Q : State → Prop} {D : va_G} {tc : Nat → ClassId} (ad ta : Nat → Nat) (us : Int32) (T : TbT) (sh : Nat) (hRf : 19 ≤ R.frames) (hRl : 538 ≤ R.locals) (C : Cx p s m args meth c cX4_leastPart 8 RX4 (some .int)) {x0 : Int32 × St} (hret : RetI p l e R s m args below meth c Q cX4_leastPart D tc A .int (some x0) (fun x : Int32 × St => x.1) (fun x : Int32 × St => Fw tc ad ta us T (ad 6) x.2)) (k_20 : St → Int32 → Int32 → Int32 → Option (Int32 × St)) (hk_20 : ∀ (u : St) (v2 : Int32) (v3 : Int32) (v4 : Int32), k_20 u v2 v3 v4 = some x0 → ∀ (H : Heap) (locs : List Loc) (ls : Array Slot), Wd D tc A s H locs (Fw tc ad ta us T (ad 6) u) → lv_has ls 8 [(0, .ref (ad 0)), (1, .ref (ad 6)), (2, .int v2), (3, .int v3), (4, .int v4)] → W p l e R s m args below meth c H locs 0 0 Q (F0 m 20 ls [])) (k_33 : St → Int32 → Int32 → Int32 → Int32 → Int32 → Option (Int32 × St)) (hk_33 : ∀ (u : St) (v2 : Int32) (v3 : Int32) (v4 : Int32) (v5 : Int32) (v6 : Int32), k_33 u v2 v3 v4 v5 v6 = some x0 → ∀ (H : Heap) (locs : List Loc) (ls : Array Slot), Wd D tc A s H locs (Fw tc ad ta us T (ad 6) u) → lv_has ls 8 [(0, .ref (ad 0)), (1, .ref (ad 6)), (2, .int v2), (3, .int v3), (4, .int v4), (5, .int v5), (6, .int v6)] → W p l e R s m args below meth c H locs 0 0 Q (F0 m 33 ls [])) : ∀ (u : St) (v2 : Int32) (v3 : Int32) (v4 : Int32) (v5 : Int32) (v6 : Int32), q_X4_leastPart_33 T k_20 k_33 u v2 v3 v4 v5 v6 = some x0 → ∀ (H : Heap) (locs : List Loc) (ls : Array Slot), Wd D tc A s H locs (Fw tc ad ta us T (ad 6) u) → lv_has ls 8 [(0, .ref (ad 0)), (1, .ref (ad 6)), (2, .int v2), (3, .int v3), (4, .int v4), (5, .int v5), (6, .int v6)] → W p l e R s m args below meth c H locs 0 0 Q (F0 m 33 ls []) := by
  obtain ⟨hx, hb, hr, hml, hown, hts, hlk, hN⟩ := id C
  intro u v2 v3 v4 v5 v6 hj H locs ls V hl
  unfold q_X4_leastPart_33 at hj
  refine lv_iload hx hb dX4_leastPart_33 (lv_at hl 6 rfl) ?_
  refine lv_aload_n hx hb dX4_leastPart_35 rfl (lv_at hl 1 rfl) ?_
  refine x_get hx hb hts hown V inX1 6 rfl rfl 2 (by decide) tw_42 rfl rfl dX4_leastPart_36 ?_
  refine lv_icmp_ge (tgt := 78) hx hb dX4_leastPart_39 (by decide) (fun c6 => ?_) (fun c6 => ?_)
  · replace hj := ip _ c6 hj
    refine lv_iload_n hx hb dX4_leastPart_78 rfl (lv_at hl 3 rfl) ?_
    refine lv_iload hx hb dX4_leastPart_79 (lv_at hl 5 rfl) ?_
    refine lv_icmp_ne (tgt := 87) hx hb dX4_leastPart_81 (by decide) (fun c7 => ?_) (fun c7 => ?_)
    · replace hj := iq _ c7 hj
      obtain ⟨x8, ex8, hj⟩ := nm_some hj
      refine lv_iinc (v := x8) (lv' := [(4, .int x8), (0, .ref (ad 0)), (1, .ref (ad 6)), (2, .int v2), (3, .int v3), (5, .int v5), (6, .int v6)]) hx hb dX4_leastPart_87 hl (k := 4) rfl (by rw [ex8]; rfl) (by decide) rfl (fun ls hl => ?_)
      refine lv_goto (tgt := 20) hx hb dX4_leastPart_90 (by decide) ?_
      exact hk_20 u v2 v3 x8 hj _ _ _ V (lv_sub hl [1, 2, 3, 4, 0] rfl)
    · replace hj := ip _ c7 hj
      refine lv_goto (tgt := 93) hx hb dX4_leastPart_84 (by decide) ?_
      refine lv_iload_n hx hb dX4_leastPart_93 rfl (lv_at hl 3 rfl) ?_
      exact hret (v3, u) hj rfl V dX4_leastPart_94
  · replace hj := iq _ c6 hj
    refine lv_iload_n hx hb dX4_leastPart_42 rfl (lv_at hl 3 rfl) ?_
    refine lv_iconst (v := 1) hx hb dX4_leastPart_43 (by decide) ?_
    refine lv_iload hx hb dX4_leastPart_44 (lv_at hl 6 rfl) ?_
    refine lv_ishl hx hb dX4_leastPart_46 ?_
    refine lv_iconst (v := (-1)) hx hb dX4_leastPart_47 (by decide) ?_
    refine lv_ixor hx hb dX4_leastPart_48 ?_
    refine lv_iand hx hb dX4_leastPart_49 ?_
    obtain ⟨x9, ex9, hj⟩ := nm_some hj
    refine x_topi ex9 ?_
    refine lv_istore (lv' := [(7, .int x9), (0, .ref (ad 0)), (1, .ref (ad 6)), (2, .int v2), (3, .int v3), (4, .int v4), (5, .int v5), (6, .int v6)]) hx hb dX4_leastPart_50 hl (by decide) rfl (fun ls hl => ?_)
    refine lv_iload hx hb dX4_leastPart_52 (lv_at hl 0 rfl) ?_
    refine lv_iload_n hx hb dX4_leastPart_54 rfl (lv_at hl 4 rfl) ?_
    refine lv_icmp_eq (tgt := 72) hx hb dX4_leastPart_55 (by decide) (fun c10 => ?_) (fun c10 => ?_)
    · replace hj := ip _ c10 hj
      obtain ⟨x11, ex11, hj⟩ := nm_some hj
      refine lv_iinc (v := x11) (lv' := [(6, .int x11), (7, .int x9), (0, .ref (ad 0)), (1, .ref (ad 6)), (2, .int v2), (3, .int v3), (4, .int v4), (5, .int v5)]) hx hb dX4_leastPart_72 hl (k := 7) rfl (by rw [ex11]; rfl) (by decide) rfl (fun ls hl => ?_)
      refine lv_goto (tgt := 33) hx hb dX4_leastPart_75 (by decide) ?_
      exact hk_33 u v2 v3 v4 v5 x11 hj _ _ _ V (lv_sub hl [2, 3, 4, 5, 6, 7, 0] rfl)
    · replace hj := iq _ c10 hj
      refine lv_aload_n hx hb dX4_leastPart_58 rfl (lv_at hl 1 rfl) ?_
      refine lv_aload_n hx hb dX4_leastPart_59 rfl (lv_at hl 2 rfl) ?_
      refine lv_iload_n hx hb dX4_leastPart_60 rfl (lv_at hl 3 rfl) ?_
      refine lv_iload hx hb dX4_leastPart_61 (lv_at hl 0 rfl) ?_
      obtain ⟨⟨r12, u13⟩, hr12, hj⟩ := bd_some hj
      refine x_allI V _ (rg_map _) (x_runV (n := 3) (rest := []) C V _ (rg_map _) (rg_nd _) (k_X4_takes l D tc ad ta us T (ad 6) u v2 x9 hr12) tw_465 tw_338 tw_339 tw_2 tw_340 (by decide +kernel) ⟨Nat.le_trans (Nat.le_of_ble_eq_true rfl) hRf, Nat.le_trans (Nat.le_of_ble_eq_true rfl) hRl⟩ ⟨Nat.zero_le _, Nat.zero_le _⟩ 0 3 rfl rfl rfl hl.1 rfl (Nat.le_of_ble_eq_true rfl) dX4_leastPart_63) (fun H locs V zr12 => ?_)
      replace V : Wd D tc A s H locs (Fw tc ad ta us T (ad 6) u13) := V
      refine lv_if_ne (tgt := 72) hx hb dX4_leastPart_66 (by decide) (fun c14 => ?_) (fun c14 => ?_)
      · replace hj := iq _ c14 hj
        obtain ⟨x15, ex15, hj⟩ := nm_some hj
        refine lv_iinc (v := x15) (lv' := [(6, .int x15), (7, .int x9), (0, .ref (ad 0)), (1, .ref (ad 6)), (2, .int v2), (3, .int v3), (4, .int v4), (5, .int v5)]) hx hb dX4_leastPart_72 hl (k := 7) rfl (by rw [ex15]; rfl) (by decide) rfl (fun ls hl => ?_)
        refine lv_goto (tgt := 33) hx hb dX4_leastPart_75 (by decide) ?_
        exact hk_33 u13 v2 v3 v4 v5 x15 hj _ _ _ V (lv_sub hl [2, 3, 4, 5, 6, 7, 0] rfl)
      · replace hj := ip _ c14 hj
        refine lv_iload hx hb dX4_leastPart_69 (lv_at hl 0 rfl) ?_
        refine lv_istore_n (lv' := [(3, .int x9), (7, .int x9), (0, .ref (ad 0)), (1, .ref (ad 6)), (2, .int v2), (4, .int v4), (5, .int v5), (6, .int v6)]) hx hb dX4_leastPart_71 rfl hl (by decide) rfl (fun ls hl => ?_)
        obtain ⟨x16, ex16, hj⟩ := nm_some hj
        refine lv_iinc (v := x16) (lv' := [(6, .int x16), (3, .int x9), (7, .int x9), (0, .ref (ad 0)), (1, .ref (ad 6)), (2, .int v2), (4, .int v4), (5, .int v5)]) hx hb dX4_leastPart_72 hl (k := 7) rfl (by rw [ex16]; rfl) (by decide) rfl (fun ls hl => ?_)
        refine lv_goto (tgt := 33) hx hb dX4_leastPart_75 (by decide) ?_
        exact hk_33 u13 v2 x9 v4 v5 x16 hj _ _ _ V (lv_sub hl [3, 4, 5, 1, 6, 7, 0] rfl)
def j_X4_leastPart_33 (T : TbT) (k_20 : St → Int32 → Int32 → Int32 → Option (Int32 × St)) : Nat → St → Int32 → Int32 → Int32 → Int32 → Int32 → Option (Int32 × St)
  | 0 => fun _ _ _ _ _ _ => none
  | n + 1 => q_X4_leastPart_33 T k_20 (j_X4_leastPart_33 T k_20 n)
theorem lp_X4_leastPart_33 {p : Program} {l : Launch} {e : Env} {R : Room} {s : State} {m : MethodId} {args : Array Value} {below : List Frame} {meth : Method} {c : Code} {A : Nat → Prop} {Q : State → Prop} {D : va_G} {tc : Nat → ClassId} (ad ta : Nat → Nat) (us : Int32) (T : TbT) (sh : Nat) (hRf : 19 ≤ R.frames) (hRl : 538 ≤ R.locals) (C : Cx p s m args meth c cX4_leastPart 8 RX4 (some .int)) {x0 : Int32 × St} (hret : RetI p l e R s m args below meth c Q cX4_leastPart D tc A .int (some x0) (fun x : Int32 × St => x.1) (fun x : Int32 × St => Fw tc ad ta us T (ad 6) x.2)) (k_20 : St → Int32 → Int32 → Int32 → Option (Int32 × St)) (hk_20 : ∀ (u : St) (v2 : Int32) (v3 : Int32) (v4 : Int32), k_20 u v2 v3 v4 = some x0 → ∀ (H : Heap) (locs : List Loc) (ls : Array Slot), Wd D tc A s H locs (Fw tc ad ta us T (ad 6) u) → lv_has ls 8 [(0, .ref (ad 0)), (1, .ref (ad 6)), (2, .int v2), (3, .int v3), (4, .int v4)] → W p l e R s m args below meth c H locs 0 0 Q (F0 m 20 ls [])) : ∀ (n : Nat), ∀ (u : St) (v2 : Int32) (v3 : Int32) (v4 : Int32) (v5 : Int32) (v6 : Int32), j_X4_leastPart_33 T k_20 n u v2 v3 v4 v5 v6 = some x0 → ∀ (H : Heap) (locs : List Loc) (ls : Array Slot), Wd D tc A s H locs (Fw tc ad ta us T (ad 6) u) → lv_has ls 8 [(0, .ref (ad 0)), (1, .ref (ad 6)), (2, .int v2), (3, .int v3), (4, .int v4), (5, .int v5), (6, .int v6)] → W p l e R s m args below meth c H locs 0 0 Q (F0 m 33 ls []) := by
  intro n
  induction n with
  | zero =>
    intro u v2 v3 v4 v5 v6 hj
    have hj : (none : Option (Int32 × St)) = some x0 := hj
    cases hj
  | succ n ih =>
    intro u v2 v3 v4 v5 v6 hj
    exact b_X4_leastPart_33 ad ta us T sh hRf hRl C hret  k_20 hk_20 (j_X4_leastPart_33 T k_20 n) ih u v2 v3 v4 v5 v6 hj
def q_X4_leastPart_20 (T : TbT) (k_20 : St → Int32 → Int32 → Int32 → Option (Int32 × St)) (u : St) (v2 : Int32) (v3 : Int32) (v4 : Int32) : Option (Int32 × St) :=
  if (10 : Int32) ≤ v4 then some (v3, u) else j_X4_leastPart_33 T k_20 100 u v2 v3 v4 v3 (0 : Int32)
set_option maxHeartbeats 4000000 in
set_option maxRecDepth 100000 in
theorem b_X4_leastPart_20 {p : Program} {l : Launch} {e : Env} {R : Room} {s : State} {m : MethodId} {args : Array Value} {below : List Frame} {meth : Method} {c : Code} {A : Nat → Prop} {Q : State → Prop} {D : va_G} {tc : Nat → ClassId} (ad ta : Nat → Nat) (us : Int32) (T : TbT) (sh : Nat) (hRf : 19 ≤ R.frames) (hRl : 538 ≤ R.locals) (C : Cx p s m args meth c cX4_leastPart 8 RX4 (some .int)) {x0 : Int32 × St} (hret : RetI p l e R s m args below meth c Q cX4_leastPart D tc A .int (some x0) (fun x : Int32 × St => x.1) (fun x : Int32 × St => Fw tc ad ta us T (ad 6) x.2)) (k_20 : St → Int32 → Int32 → Int32 → Option (Int32 × St)) (hk_20 : ∀ (u : St) (v2 : Int32) (v3 : Int32) (v4 : Int32), k_20 u v2 v3 v4 = some x0 → ∀ (H : Heap) (locs : List Loc) (ls : Array Slot), Wd D tc A s H locs (Fw tc ad ta us T (ad 6) u) → lv_has ls 8 [(0, .ref (ad 0)), (1, .ref (ad 6)), (2, .int v2), (3, .int v3), (4, .int v4)] → W p l e R s m args below meth c H locs 0 0 Q (F0 m 20 ls [])) : ∀ (u : St) (v2 : Int32) (v3 : Int32) (v4 : Int32), q_X4_leastPart_20 T k_20 u v2 v3 v4 = some x0 → ∀ (H : Heap) (locs : List Loc) (ls : Array Slot), Wd D tc A s H locs (Fw tc ad ta us T (ad 6) u) → lv_has ls 8 [(0, .ref (ad 0)), (1, .ref (ad 6)), (2, .int v2), (3, .int v3), (4, .int v4)] → W p l e R s m args below meth c H locs 0 0 Q (F0 m 20 ls []) := by
  obtain ⟨hx, hb, hr, hml, hown, hts, hlk, hN⟩ := id C
  intro u v2 v3 v4 hj H locs ls V hl
  unfold q_X4_leastPart_20 at hj
  refine lv_iload hx hb dX4_leastPart_20 (lv_at hl 4 rfl) ?_
  refine lv_bipush (v := 10) hx hb dX4_leastPart_22 (by decide) ?_
  refine lv_icmp_ge (tgt := 93) hx hb dX4_leastPart_24 (by decide) (fun c5 => ?_) (fun c5 => ?_)
  · replace hj := ip _ c5 hj
    refine lv_iload_n hx hb dX4_leastPart_93 rfl (lv_at hl 3 rfl) ?_
    exact hret (v3, u) hj rfl V dX4_leastPart_94
  · replace hj := iq _ c5 hj
    refine lv_iload_n hx hb dX4_leastPart_27 rfl (lv_at hl 3 rfl) ?_
    refine lv_istore (lv' := [(5, .int v3), (0, .ref (ad 0)), (1, .ref (ad 6)), (2, .int v2), (3, .int v3), (4, .int v4)]) hx hb dX4_leastPart_28 hl (by decide) rfl (fun ls hl => ?_)
    refine lv_iconst (v := 0) hx hb dX4_leastPart_30 (by decide) ?_
    refine lv_istore (lv' := [(6, .int (0 : Int32)), (5, .int v3), (0, .ref (ad 0)), (1, .ref (ad 6)), (2, .int v2), (3, .int v3), (4, .int v4)]) hx hb dX4_leastPart_31 hl (by decide) rfl (fun ls hl => ?_)
    exact lp_X4_leastPart_33 ad ta us T sh hRf hRl C hret  k_20 hk_20 100 u v2 v3 v4 v3 (0 : Int32) hj _ _ _ V (lv_sub hl [2, 3, 4, 5, 6, 1, 0] rfl)
def j_X4_leastPart_20 (T : TbT) : Nat → St → Int32 → Int32 → Int32 → Option (Int32 × St)
  | 0 => fun _ _ _ _ => none
  | n + 1 => q_X4_leastPart_20 T (j_X4_leastPart_20 T n)
theorem lp_X4_leastPart_20 {p : Program} {l : Launch} {e : Env} {R : Room} {s : State} {m : MethodId} {args : Array Value} {below : List Frame} {meth : Method} {c : Code} {A : Nat → Prop} {Q : State → Prop} {D : va_G} {tc : Nat → ClassId} (ad ta : Nat → Nat) (us : Int32) (T : TbT) (sh : Nat) (hRf : 19 ≤ R.frames) (hRl : 538 ≤ R.locals) (C : Cx p s m args meth c cX4_leastPart 8 RX4 (some .int)) {x0 : Int32 × St} (hret : RetI p l e R s m args below meth c Q cX4_leastPart D tc A .int (some x0) (fun x : Int32 × St => x.1) (fun x : Int32 × St => Fw tc ad ta us T (ad 6) x.2))  : ∀ (n : Nat), ∀ (u : St) (v2 : Int32) (v3 : Int32) (v4 : Int32), j_X4_leastPart_20 T n u v2 v3 v4 = some x0 → ∀ (H : Heap) (locs : List Loc) (ls : Array Slot), Wd D tc A s H locs (Fw tc ad ta us T (ad 6) u) → lv_has ls 8 [(0, .ref (ad 0)), (1, .ref (ad 6)), (2, .int v2), (3, .int v3), (4, .int v4)] → W p l e R s m args below meth c H locs 0 0 Q (F0 m 20 ls []) := by
  intro n
  induction n with
  | zero =>
    intro u v2 v3 v4 hj
    have hj : (none : Option (Int32 × St)) = some x0 := hj
    cases hj
  | succ n ih =>
    intro u v2 v3 v4 hj
    exact b_X4_leastPart_20 ad ta us T sh hRf hRl C hret   (j_X4_leastPart_20 T n) ih u v2 v3 v4 hj
def j_X4_leastPart (T : TbT) (u : St) (v2 : Int32) : Option (Int32 × St) :=
  (j_X1_allCalls u).bind (fun r1 => (j_X4_takes T u v2 r1).bind (fun ⟨r2, u3⟩ => if r2 = (0 : Int32) then j_X4_leastPart_20 T 100 u3 v2 r1 (0 : Int32) else some ((0 : Int32), u3)))
set_option maxHeartbeats 4000000 in
set_option maxRecDepth 100000 in
theorem k_X4_leastPart (l : Launch) (D : va_G) (tc : Nat → ClassId) (ad ta : Nat → Nat) (us : Int32) (T : TbT) (sh : Nat) (u : St) (v2 : Int32) {x0 : Int32 × St} (hj : j_X4_leastPart T u v2 = some x0) : MetD l D tc yX4_leastPart cX4_leastPart 8 (some .int) 19 538 [.ref (ad 0), .ref (ad 6), .int v2] (Fw tc ad ta us T sh u) (some (.int x0.1)) (Fw tc ad ta us T (ad 6) x0.2) :=
  x_entI (fun x : Int32 × St => x.1) (fun x : Int32 × St => Fw tc ad ta us T (ad 6) x.2) (by decide) (own := RX4) rfl (Nat.le_of_ble_eq_true rfl) (fun p e s m args below meth c A Q ls C V hl hret => by
  obtain ⟨hx, hb, hr, hml, hown, hts, hlk, hN⟩ := id C
  have hRf : 19 ≤ (rmz 19 0 0 538).frames := Nat.le_refl _
  have hRl : 538 ≤ (rmz 19 0 0 538).locals := Nat.le_refl _
  generalize (rmz 19 0 0 538) = R at hret hRf hRl ⊢
  generalize s.heap = H at V ⊢
  generalize ([] : List Loc) = locs at V ⊢
  have hl : lv_has ls 8 [(0, .ref (ad 0)), (1, .ref (ad 6)), (2, .int v2)] := hl
  unfold j_X4_leastPart at hj
  refine lv_aload_n hx hb dX4_leastPart_0 rfl (lv_at hl 1 rfl) ?_
  obtain ⟨r1, hr1, hj⟩ := bd_some hj
  refine x_allI V _ (rg_map _) (x_runV (n := 0) (rest := []) C V _ (rg_map _) (rg_nd _) (k_X1_allCalls l D tc ad ta us T sh u hr1) tw_443 tw_314 tw_315 tw_3 tw_316 (by decide +kernel) ⟨Nat.le_trans (Nat.le_of_ble_eq_true rfl) hRf, Nat.le_trans (Nat.le_of_ble_eq_true rfl) hRl⟩ ⟨Nat.zero_le _, Nat.zero_le _⟩ 6 1 rfl rfl rfl hl.1 rfl (Nat.le_of_ble_eq_true rfl) dX4_leastPart_1) (fun H locs V zr1 => ?_)
  replace V : Wd D tc A s H locs (Fw tc ad ta us T sh u) := V
  refine lv_istore_n (lv' := [(3, .int r1), (0, .ref (ad 0)), (1, .ref (ad 6)), (2, .int v2)]) hx hb dX4_leastPart_4 rfl hl (by decide) rfl (fun ls hl => ?_)
  refine lv_aload_n hx hb dX4_leastPart_5 rfl (lv_at hl 1 rfl) ?_
  refine lv_aload_n hx hb dX4_leastPart_6 rfl (lv_at hl 2 rfl) ?_
  refine lv_iload_n hx hb dX4_leastPart_7 rfl (lv_at hl 3 rfl) ?_
  refine lv_iload_n hx hb dX4_leastPart_8 rfl (lv_at hl 0 rfl) ?_
  obtain ⟨⟨r2, u3⟩, hr2, hj⟩ := bd_some hj
  refine x_allI V _ (rg_map _) (x_runV (n := 3) (rest := []) C V _ (rg_map _) (rg_nd _) (k_X4_takes l D tc ad ta us T sh u v2 r1 hr2) tw_465 tw_338 tw_339 tw_2 tw_340 (by decide +kernel) ⟨Nat.le_trans (Nat.le_of_ble_eq_true rfl) hRf, Nat.le_trans (Nat.le_of_ble_eq_true rfl) hRl⟩ ⟨Nat.zero_le _, Nat.zero_le _⟩ 0 3 rfl rfl rfl hl.1 rfl (Nat.le_of_ble_eq_true rfl) dX4_leastPart_9) (fun H locs V zr2 => ?_)
  replace V : Wd D tc A s H locs (Fw tc ad ta us T (ad 6) u3) := V
  refine lv_if_eq (tgt := 17) hx hb dX4_leastPart_12 (by decide) (fun c4 => ?_) (fun c4 => ?_)
  · replace hj := ip _ c4 hj
    refine lv_iconst (v := 0) hx hb dX4_leastPart_17 (by decide) ?_
    refine lv_istore (lv' := [(4, .int (0 : Int32)), (3, .int r1), (0, .ref (ad 0)), (1, .ref (ad 6)), (2, .int v2)]) hx hb dX4_leastPart_18 hl (by decide) rfl (fun ls hl => ?_)
    exact lp_X4_leastPart_20 ad ta us T sh hRf hRl C hret   100 u3 v2 r1 (0 : Int32) hj _ _ _ V (lv_sub hl [2, 3, 4, 1, 0] rfl)
  · replace hj := iq _ c4 hj
    refine lv_iconst (v := 0) hx hb dX4_leastPart_15 (by decide) ?_
    exact hret ((0 : Int32), u3) hj rfl V dX4_leastPart_16)

def q_X4_collectFrom_43 (T : TbT) (rc : St → Int32 → Int32 → Int64 → Int32 → Option (St)) (k_43 : St → Int32 → Int32 → Int64 → Int32 → Int32 → Option (St)) (u : St) (v1 : Int32) (v2 : Int32) (v3 : Int64) (v5 : Int32) (v9 : Int32) : Option (St) :=
  if (u.1 2) ≤ v9 then some u else (j_X4_fits T u v9 v2 v3).bind (fun r8 => if r8 = (0 : Int32) then nm (v9 + 1) (fun x10 => k_43 u v1 v2 v3 v5 x10) else nm (v2 ||| ((1 : Int32) <<< (v9 &&& 31))) (fun x11 => (j_X3_after T u v9 v3).bind (fun r12 => if v9 = v5 then (j_X4_waysFrom T 12 u (v1 + (1 : Int32)) x11 r12).bind (fun ⟨r14, u15⟩ => if (lg_cmp r14 (0 : Int64)) ≤ (0 : Int32) then nm (v9 + 1) (fun x17 => k_43 u15 v1 v2 v3 v5 x17) else (j_X3_reply T u15 v9 v3).bind (fun r18 => (j_X0_add u15 r18).bind (fun u20 => nm (v9 + 1) (fun x21 => k_43 u20 v1 v2 v3 v5 x21)))) else (rc u (v1 + (1 : Int32)) x11 r12 v5).bind (fun u23 => nm (v9 + 1) (fun x24 => k_43 u23 v1 v2 v3 v5 x24)))))
set_option maxHeartbeats 4000000 in
set_option maxRecDepth 100000 in
theorem b_X4_collectFrom_43 {p : Program} {l : Launch} {e : Env} {R : Room} {s : State} {m : MethodId} {args : Array Value} {below : List Frame} {meth : Method} {c : Code} {A : Nat → Prop} {Q : State → Prop} {D : va_G} {tc : Nat → ClassId} (ad ta : Nat → Nat) (us : Int32) (T : TbT) (sh : Nat) (hRf : 18 ≤ R.frames) (hRl : 515 ≤ R.locals) (C : Cx p s m args meth c cX4_collectFrom 13 RX4 none) {x0 : St} (hret : RetV p l e R s m args below meth c Q cX4_collectFrom D tc A (some x0) (fun x : St => Fw tc ad ta us T (ad 6) x)) {frr lor : Nat} (rc : St → Int32 → Int32 → Int64 → Int32 → Option (St)) (hrc : ∀ (u : St) (v1 : Int32) (v2 : Int32) (v3 : Int64) (v5 : Int32) {x1 : St}, rc u v1 v2 v3 v5 = some x1 → MetD l D tc yX4_collectFrom cX4_collectFrom 13 none frr lor [.ref (ad 0), .int v1, .int v2, .long v3, .int v5, .ref (ad 14)] (Fw tc ad ta us T (ad 6) u) none (Fw tc ad ta us T (ad 6) x1)) (hrf : frr + 1 ≤ R.frames) (hrl : 8 + (13 + 11) + lor ≤ R.locals) (k_43 : St → Int32 → Int32 → Int64 → Int32 → Int32 → Option (St)) (hk_43 : ∀ (u : St) (v1 : Int32) (v2 : Int32) (v3 : Int64) (v5 : Int32) (v9 : Int32), k_43 u v1 v2 v3 v5 v9 = some x0 → ∀ (H : Heap) (locs : List Loc) (ls : Array Slot), Wd D tc A s H locs (Fw tc ad ta us T (ad 6) u) → lv_has ls 13 [(0, .ref (ad 0)), (1, .int v1), (2, .int v2), (3, .long v3), (5, .int v5), (6, .ref (ad 14)), (9, .int v9)] → W p l e R s m args below meth c H locs 0 0 Q (F0 m 43 ls [])) : ∀ (u : St) (v1 : Int32) (v2 : Int32) (v3 : Int64) (v5 : Int32) (v9 : Int32), q_X4_collectFrom_43 T rc k_43 u v1 v2 v3 v5 v9 = some x0 → ∀ (H : Heap) (locs : List Loc) (ls : Array Slot), Wd D tc A s H locs (Fw tc ad ta us T (ad 6) u) → lv_has ls 13 [(0, .ref (ad 0)), (1, .int v1), (2, .int v2), (3, .long v3), (5, .int v5), (6, .ref (ad 14)), (9, .int v9)] → W p l e R s m args below meth c H locs 0 0 Q (F0 m 43 ls []) := by
  obtain ⟨hx, hb, hr, hml, hown, hts, hlk, hN⟩ := id C
  intro u v1 v2 v3 v5 v9 hj H locs ls V hl
  unfold q_X4_collectFrom_43 at hj
  refine lv_iload hx hb dX4_collectFrom_43 (lv_at hl 6 rfl) ?_
  refine lv_aload_n hx hb dX4_collectFrom_45 rfl (lv_at hl 0 rfl) ?_
  refine x_get hx hb hts hown V inX4 0 rfl rfl 0 (by decide) tw_106 rfl rfl dX4_collectFrom_46 ?_
  refine x_get hx hb hts hown V inX1 6 rfl rfl 2 (by decide) tw_42 rfl rfl dX4_collectFrom_49 ?_
  refine lv_icmp_ge (tgt := 148) hx hb dX4_collectFrom_52 (by decide) (fun c7 => ?_) (fun c7 => ?_)
  · replace hj := ip _ c7 hj
    exact hret u hj V dX4_collectFrom_148
  · replace hj := iq _ c7 hj
    refine lv_aload_n hx hb dX4_collectFrom_55 rfl (lv_at hl 0 rfl) ?_
    refine lv_iload hx hb dX4_collectFrom_56 (lv_at hl 6 rfl) ?_
    refine lv_iload_n hx hb dX4_collectFrom_58 rfl (lv_at hl 2 rfl) ?_
    refine lv_lload_n hx hb dX4_collectFrom_59 rfl (lv_at hl 3 rfl) ?_
    obtain ⟨r8, hr8, hj⟩ := bd_some hj
    refine x_allI V _ (rg_map _) (x_runV (n := 3) (rest := []) C V _ (rg_map _) (rg_nd _) (k_X4_fits l D tc ad ta us T (ad 6) u v9 v2 v3 hr8) tw_374 tw_376 tp_7 tw_2 tw_377 (by decide +kernel) ⟨Nat.le_trans (Nat.le_of_ble_eq_true rfl) hRf, Nat.le_trans (Nat.le_of_ble_eq_true rfl) hRl⟩ ⟨Nat.zero_le _, Nat.zero_le _⟩ 0 3 rfl rfl rfl hl.1 rfl (Nat.le_of_ble_eq_true rfl) dX4_collectFrom_60) (fun H locs V zr8 => ?_)
    replace V : Wd D tc A s H locs (Fw tc ad ta us T (ad 6) u) := V
    refine lv_if_eq (tgt := 142) hx hb dX4_collectFrom_63 (by decide) (fun c9 => ?_) (fun c9 => ?_)
    · replace hj := ip _ c9 hj
      obtain ⟨x10, ex10, hj⟩ := nm_some hj
      refine lv_iinc (v := x10) (lv' := [(9, .int x10), (0, .ref (ad 0)), (1, .int v1), (2, .int v2), (3, .long v3), (5, .int v5), (6, .ref (ad 14))]) hx hb dX4_collectFrom_142 hl (k := 6) rfl (by rw [ex10]; rfl) (by decide) rfl (fun ls hl => ?_)
      refine lv_goto (tgt := 43) hx hb dX4_collectFrom_145 (by decide) ?_
      exact hk_43 u v1 v2 v3 v5 x10 hj _ _ _ V (lv_sub hl [1, 2, 3, 4, 5, 6, 0] rfl)
    · replace hj := iq _ c9 hj
      refine lv_iload_n hx hb dX4_collectFrom_66 rfl (lv_at hl 2 rfl) ?_
      refine lv_iconst (v := 1) hx hb dX4_collectFrom_67 (by decide) ?_
      refine lv_iload hx hb dX4_collectFrom_68 (lv_at hl 6 rfl) ?_
      refine lv_ishl hx hb dX4_collectFrom_70 ?_
      refine lv_ior hx hb dX4_collectFrom_71 ?_
      obtain ⟨x11, ex11, hj⟩ := nm_some hj
      refine x_topi ex11 ?_
      refine lv_istore (lv' := [(10, .int x11), (0, .ref (ad 0)), (1, .int v1), (2, .int v2), (3, .long v3), (5, .int v5), (6, .ref (ad 14)), (9, .int v9)]) hx hb dX4_collectFrom_72 hl (by decide) rfl (fun ls hl => ?_)
      refine lv_aload_n hx hb dX4_collectFrom_74 rfl (lv_at hl 1 rfl) ?_
      refine x_get hx hb hts hown V inX4 0 rfl rfl 0 (by decide) tw_106 rfl rfl dX4_collectFrom_75 ?_
      refine lv_iload hx hb dX4_collectFrom_78 (lv_at hl 7 rfl) ?_
      refine lv_lload_n hx hb dX4_collectFrom_80 rfl (lv_at hl 4 rfl) ?_
      obtain ⟨r12, hr12, hj⟩ := bd_some hj
      refine x_allL V _ (rg_map _) (x_runS (n := 3) (rest := []) C V _ (rg_map _) (rg_nd _) (k_X3_after l D tc ad ta us T (ad 6) u v9 v3 hr12) tw_411 tw_412 tw_8 tw_413 (by decide +kernel) ⟨Nat.le_trans (Nat.le_of_ble_eq_true rfl) hRf, Nat.le_trans (Nat.le_of_ble_eq_true rfl) hRl⟩ ⟨Nat.zero_le _, Nat.zero_le _⟩ rfl hl.1 rfl (Nat.le_of_ble_eq_true rfl) dX4_collectFrom_81) (fun H locs V => ?_)
      replace V : Wd D tc A s H locs (Fw tc ad ta us T (ad 6) u) := V
      refine lv_lstore (lv' := [(11, .long r12), (10, .int x11), (0, .ref (ad 0)), (1, .int v1), (2, .int v2), (3, .long v3), (5, .int v5), (6, .ref (ad 14)), (9, .int v9)]) hx hb dX4_collectFrom_84 hl (by decide) rfl (fun ls hl => ?_)
      refine lv_iload hx hb dX4_collectFrom_86 (lv_at hl 8 rfl) ?_
      refine lv_iload hx hb dX4_collectFrom_88 (lv_at hl 6 rfl) ?_
      refine lv_icmp_eq (tgt := 111) hx hb dX4_collectFrom_90 (by decide) (fun c13 => ?_) (fun c13 => ?_)
      · replace hj := ip _ c13 hj
        refine lv_aload_n hx hb dX4_collectFrom_111 rfl (lv_at hl 2 rfl) ?_
        refine lv_iload_n hx hb dX4_collectFrom_112 rfl (lv_at hl 3 rfl) ?_
        refine lv_iconst (v := 1) hx hb dX4_collectFrom_113 (by decide) ?_
        refine lv_iadd hx hb dX4_collectFrom_114 ?_
        refine lv_iload hx hb dX4_collectFrom_115 (lv_at hl 1 rfl) ?_
        refine lv_lload hx hb dX4_collectFrom_117 (lv_at hl 0 rfl) ?_
        obtain ⟨⟨r14, u15⟩, hr14, hj⟩ := bd_some hj
        refine x_allL V _ (rg_map _) (x_runV (n := 3) (rest := []) C V _ (rg_map _) (rg_nd _) (k_X4_waysFrom l D tc ad ta us T (ad 6) 12 u (v1 + (1 : Int32)) x11 r12 hr14) tw_353 tw_355 tp_5 tw_2 tw_356 (by decide +kernel) ⟨Nat.le_trans (Nat.le_of_ble_eq_true rfl) hRf, Nat.le_trans (Nat.le_of_ble_eq_true rfl) hRl⟩ ⟨Nat.zero_le _, Nat.zero_le _⟩ 0 3 rfl rfl rfl hl.1 rfl (Nat.le_of_ble_eq_true rfl) dX4_collectFrom_119) (fun H locs V => ?_)
        replace V : Wd D tc A s H locs (Fw tc ad ta us T (ad 6) u15) := V
        refine lv_lconst (v := 0) hx hb dX4_collectFrom_122 (by decide) ?_
        refine W.lcmp hx hb dX4_collectFrom_123 ?_
        refine lv_if_le (tgt := 142) hx hb dX4_collectFrom_124 (by decide) (fun c16 => ?_) (fun c16 => ?_)
        · replace hj := ip _ c16 hj
          obtain ⟨x17, ex17, hj⟩ := nm_some hj
          refine lv_iinc (v := x17) (lv' := [(9, .int x17), (11, .long r12), (10, .int x11), (0, .ref (ad 0)), (1, .int v1), (2, .int v2), (3, .long v3), (5, .int v5), (6, .ref (ad 14))]) hx hb dX4_collectFrom_142 hl (k := 8) rfl (by rw [ex17]; rfl) (by decide) rfl (fun ls hl => ?_)
          refine lv_goto (tgt := 43) hx hb dX4_collectFrom_145 (by decide) ?_
          exact hk_43 u15 v1 v2 v3 v5 x17 hj _ _ _ V (lv_sub hl [3, 4, 5, 6, 7, 8, 0] rfl)
        · replace hj := iq _ c16 hj
          refine lv_aload hx hb dX4_collectFrom_127 (lv_at hl 7 rfl) ?_
          refine lv_aload_n hx hb dX4_collectFrom_129 rfl (lv_at hl 2 rfl) ?_
          refine x_get hx hb hts hown V inX4 0 rfl rfl 0 (by decide) tw_106 rfl rfl dX4_collectFrom_130 ?_
          refine lv_iload hx hb dX4_collectFrom_133 (lv_at hl 8 rfl) ?_
          refine lv_lload_n hx hb dX4_collectFrom_135 rfl (lv_at hl 5 rfl) ?_
          obtain ⟨r18, hr18, hj⟩ := bd_some hj
          refine x_allI V _ (rg_map _) (x_runS (n := 3) (rest := [.ref (ad 14)]) C V _ (rg_map _) (rg_nd _) (k_X3_reply l D tc ad ta us T (ad 6) u15 v9 v3 hr18) tw_380 tw_381 tw_8 tw_382 (by decide +kernel) ⟨Nat.le_trans (Nat.le_of_ble_eq_true rfl) hRf, Nat.le_trans (Nat.le_of_ble_eq_true rfl) hRl⟩ ⟨Nat.zero_le _, Nat.zero_le _⟩ rfl hl.1 rfl (Nat.le_of_ble_eq_true rfl) dX4_collectFrom_136) (fun H locs V zr18 => ?_)
          replace V : Wd D tc A s H locs (Fw tc ad ta us T (ad 6) u15) := V
          obtain ⟨u20, hr19, hj⟩ := bd_some hj
          refine x_allV V _ (rg_map _) (x_runV (n := 1) (rest := []) C V _ (rg_map _) (rg_nd _) (k_X0_add l D tc ad ta us T (ad 6) u15 r18 hr19) tw_483 tw_484 tw_485 tw_5 tw_486 (by decide +kernel) ⟨Nat.le_trans (Nat.le_of_ble_eq_true rfl) hRf, Nat.le_trans (Nat.le_of_ble_eq_true rfl) hRl⟩ ⟨Nat.zero_le _, Nat.zero_le _⟩ 14 0 rfl rfl rfl hl.1 rfl (Nat.le_of_ble_eq_true rfl) dX4_collectFrom_139) (fun H locs V => ?_)
          replace V : Wd D tc A s H locs (Fw tc ad ta us T (ad 6) u20) := V
          obtain ⟨x21, ex21, hj⟩ := nm_some hj
          refine lv_iinc (v := x21) (lv' := [(9, .int x21), (11, .long r12), (10, .int x11), (0, .ref (ad 0)), (1, .int v1), (2, .int v2), (3, .long v3), (5, .int v5), (6, .ref (ad 14))]) hx hb dX4_collectFrom_142 hl (k := 8) rfl (by rw [ex21]; rfl) (by decide) rfl (fun ls hl => ?_)
          refine lv_goto (tgt := 43) hx hb dX4_collectFrom_145 (by decide) ?_
          exact hk_43 u20 v1 v2 v3 v5 x21 hj _ _ _ V (lv_sub hl [3, 4, 5, 6, 7, 8, 0] rfl)
      · replace hj := iq _ c13 hj
        refine lv_aload_n hx hb dX4_collectFrom_93 rfl (lv_at hl 2 rfl) ?_
        refine lv_iload_n hx hb dX4_collectFrom_94 rfl (lv_at hl 3 rfl) ?_
        refine lv_iconst (v := 1) hx hb dX4_collectFrom_95 (by decide) ?_
        refine lv_iadd hx hb dX4_collectFrom_96 ?_
        refine lv_iload hx hb dX4_collectFrom_97 (lv_at hl 1 rfl) ?_
        refine lv_lload hx hb dX4_collectFrom_99 (lv_at hl 0 rfl) ?_
        refine lv_iload hx hb dX4_collectFrom_101 (lv_at hl 6 rfl) ?_
        refine lv_aload hx hb dX4_collectFrom_103 (lv_at hl 7 rfl) ?_
        obtain ⟨u23, hr22, hj⟩ := bd_some hj
        refine x_allV V _ (rg_map _) (x_runV (n := 5) (rest := []) C V _ (rg_map _) (rg_nd _) (hrc u (v1 + (1 : Int32)) x11 r12 v5 hr22) tw_479 tw_481 tp_9 tw_2 tw_482 (by decide +kernel) ⟨hrf, hrl⟩ ⟨Nat.zero_le _, Nat.zero_le _⟩ 0 3 rfl rfl rfl hl.1 rfl (Nat.le_of_ble_eq_true rfl) dX4_collectFrom_105) (fun H locs V => ?_)
        replace V : Wd D tc A s H locs (Fw tc ad ta us T (ad 6) u23) := V
        refine lv_goto (tgt := 142) hx hb dX4_collectFrom_108 (by decide) ?_
        obtain ⟨x24, ex24, hj⟩ := nm_some hj
        refine lv_iinc (v := x24) (lv' := [(9, .int x24), (11, .long r12), (10, .int x11), (0, .ref (ad 0)), (1, .int v1), (2, .int v2), (3, .long v3), (5, .int v5), (6, .ref (ad 14))]) hx hb dX4_collectFrom_142 hl (k := 8) rfl (by rw [ex24]; rfl) (by decide) rfl (fun ls hl => ?_)
        refine lv_goto (tgt := 43) hx hb dX4_collectFrom_145 (by decide) ?_
        exact hk_43 u23 v1 v2 v3 v5 x24 hj _ _ _ V (lv_sub hl [3, 4, 5, 6, 7, 8, 0] rfl)
def j_X4_collectFrom_43 (T : TbT) (rc : St → Int32 → Int32 → Int64 → Int32 → Option (St)) : Nat → St → Int32 → Int32 → Int64 → Int32 → Int32 → Option (St)
  | 0 => fun _ _ _ _ _ _ => none
  | n + 1 => q_X4_collectFrom_43 T rc (j_X4_collectFrom_43 T rc n)
theorem lp_X4_collectFrom_43 {p : Program} {l : Launch} {e : Env} {R : Room} {s : State} {m : MethodId} {args : Array Value} {below : List Frame} {meth : Method} {c : Code} {A : Nat → Prop} {Q : State → Prop} {D : va_G} {tc : Nat → ClassId} (ad ta : Nat → Nat) (us : Int32) (T : TbT) (sh : Nat) (hRf : 18 ≤ R.frames) (hRl : 515 ≤ R.locals) (C : Cx p s m args meth c cX4_collectFrom 13 RX4 none) {x0 : St} (hret : RetV p l e R s m args below meth c Q cX4_collectFrom D tc A (some x0) (fun x : St => Fw tc ad ta us T (ad 6) x)) {frr lor : Nat} (rc : St → Int32 → Int32 → Int64 → Int32 → Option (St)) (hrc : ∀ (u : St) (v1 : Int32) (v2 : Int32) (v3 : Int64) (v5 : Int32) {x1 : St}, rc u v1 v2 v3 v5 = some x1 → MetD l D tc yX4_collectFrom cX4_collectFrom 13 none frr lor [.ref (ad 0), .int v1, .int v2, .long v3, .int v5, .ref (ad 14)] (Fw tc ad ta us T (ad 6) u) none (Fw tc ad ta us T (ad 6) x1)) (hrf : frr + 1 ≤ R.frames) (hrl : 8 + (13 + 11) + lor ≤ R.locals)  : ∀ (n : Nat), ∀ (u : St) (v1 : Int32) (v2 : Int32) (v3 : Int64) (v5 : Int32) (v9 : Int32), j_X4_collectFrom_43 T rc n u v1 v2 v3 v5 v9 = some x0 → ∀ (H : Heap) (locs : List Loc) (ls : Array Slot), Wd D tc A s H locs (Fw tc ad ta us T (ad 6) u) → lv_has ls 13 [(0, .ref (ad 0)), (1, .int v1), (2, .int v2), (3, .long v3), (5, .int v5), (6, .ref (ad 14)), (9, .int v9)] → W p l e R s m args below meth c H locs 0 0 Q (F0 m 43 ls []) := by
  intro n
  induction n with
  | zero =>
    intro u v1 v2 v3 v5 v9 hj
    have hj : (none : Option (St)) = some x0 := hj
    cases hj
  | succ n ih =>
    intro u v1 v2 v3 v5 v9 hj
    exact b_X4_collectFrom_43 ad ta us T sh hRf hRl C hret rc hrc hrf hrl  (j_X4_collectFrom_43 T rc n) ih u v1 v2 v3 v5 v9 hj
def q_X4_collectFrom_0 (T : TbT) (rc : St → Int32 → Int32 → Int64 → Int32 → Option (St)) (u : St) (v1 : Int32) (v2 : Int32) (v3 : Int64) (v5 : Int32) : Option (St) :=
  (j_X4_keyOf v2 v3).bind (fun r1 => if (10 : Int32) < v1 then some u else (j_X2_valueOf u r1).bind (fun r3 => if (lg_cmp r3 (-1 : Int64)) = (0 : Int32) then (j_X2_put u r1 (0 : Int64)).bind (fun u6 => j_X4_collectFrom_43 T rc 100 u6 v1 v2 v3 v5 (0 : Int32)) else some u))
set_option maxHeartbeats 4000000 in
set_option maxRecDepth 100000 in
theorem b_X4_collectFrom_0 {p : Program} {l : Launch} {e : Env} {R : Room} {s : State} {m : MethodId} {args : Array Value} {below : List Frame} {meth : Method} {c : Code} {A : Nat → Prop} {Q : State → Prop} {D : va_G} {tc : Nat → ClassId} (ad ta : Nat → Nat) (us : Int32) (T : TbT) (sh : Nat) (hRf : 18 ≤ R.frames) (hRl : 515 ≤ R.locals) (C : Cx p s m args meth c cX4_collectFrom 13 RX4 none) {x0 : St} (hret : RetV p l e R s m args below meth c Q cX4_collectFrom D tc A (some x0) (fun x : St => Fw tc ad ta us T (ad 6) x)) {frr lor : Nat} (rc : St → Int32 → Int32 → Int64 → Int32 → Option (St)) (hrc : ∀ (u : St) (v1 : Int32) (v2 : Int32) (v3 : Int64) (v5 : Int32) {x1 : St}, rc u v1 v2 v3 v5 = some x1 → MetD l D tc yX4_collectFrom cX4_collectFrom 13 none frr lor [.ref (ad 0), .int v1, .int v2, .long v3, .int v5, .ref (ad 14)] (Fw tc ad ta us T (ad 6) u) none (Fw tc ad ta us T (ad 6) x1)) (hrf : frr + 1 ≤ R.frames) (hrl : 8 + (13 + 11) + lor ≤ R.locals)  : ∀ (u : St) (v1 : Int32) (v2 : Int32) (v3 : Int64) (v5 : Int32), q_X4_collectFrom_0 T rc u v1 v2 v3 v5 = some x0 → ∀ (H : Heap) (locs : List Loc) (ls : Array Slot), Wd D tc A s H locs (Fw tc ad ta us T (ad 6) u) → lv_has ls 13 [(0, .ref (ad 0)), (1, .int v1), (2, .int v2), (3, .long v3), (5, .int v5), (6, .ref (ad 14))] → W p l e R s m args below meth c H locs 0 0 Q (F0 m 0 ls []) := by
  obtain ⟨hx, hb, hr, hml, hown, hts, hlk, hN⟩ := id C
  intro u v1 v2 v3 v5 hj H locs ls V hl
  unfold q_X4_collectFrom_0 at hj
  refine lv_iload_n hx hb dX4_collectFrom_0 rfl (lv_at hl 2 rfl) ?_
  refine lv_lload_n hx hb dX4_collectFrom_1 rfl (lv_at hl 3 rfl) ?_
  obtain ⟨r1, hr1, hj⟩ := bd_some hj
  refine x_allL V _ (rg_map _) (x_runS (n := 2) (rest := []) C V _ (rg_map _) (rg_nd _) (k_X4_keyOf l D tc (Fw tc ad ta us T (ad 6) u) v2 v3 hr1) tw_357 tw_358 tw_2 tw_359 (by decide +kernel) ⟨Nat.le_trans (Nat.le_of_ble_eq_true rfl) hRf, Nat.le_trans (Nat.le_of_ble_eq_true rfl) hRl⟩ ⟨Nat.zero_le _, Nat.zero_le _⟩ rfl hl.1 rfl (Nat.le_of_ble_eq_true rfl) dX4_collectFrom_2) (fun H locs V => ?_)
  replace V : Wd D tc A s H locs (Fw tc ad ta us T (ad 6) u) := V
  refine lv_lstore (lv' := [(7, .long r1), (0, .ref (ad 0)), (1, .int v1), (2, .int v2), (3, .long v3), (5, .int v5), (6, .ref (ad 14))]) hx hb dX4_collectFrom_5 hl (by decide) rfl (fun ls hl => ?_)
  refine lv_iload_n hx hb dX4_collectFrom_7 rfl (lv_at hl 2 rfl) ?_
  refine lv_bipush (v := 10) hx hb dX4_collectFrom_8 (by decide) ?_
  refine lv_icmp_gt (tgt := 29) hx hb dX4_collectFrom_10 (by decide) (fun c2 => ?_) (fun c2 => ?_)
  · replace hj := ip _ c2 hj
    exact hret u hj V dX4_collectFrom_29
  · replace hj := iq _ c2 hj
    refine lv_aload_n hx hb dX4_collectFrom_13 rfl (lv_at hl 1 rfl) ?_
    refine x_get hx hb hts hown V inX4 0 rfl rfl 5 (by decide) tw_111 rfl rfl dX4_collectFrom_14 ?_
    refine lv_lload hx hb dX4_collectFrom_17 (lv_at hl 0 rfl) ?_
    obtain ⟨r3, hr3, hj⟩ := bd_some hj
    refine x_allL V _ (rg_map _) (x_runV (n := 1) (rest := []) C V _ (rg_map _) (rg_nd _) (k_X2_valueOf l D tc ad ta us T (ad 6) u r1 hr3) tw_360 tw_361 tw_362 tw_4 tw_363 (by decide +kernel) ⟨Nat.le_trans (Nat.le_of_ble_eq_true rfl) hRf, Nat.le_trans (Nat.le_of_ble_eq_true rfl) hRl⟩ ⟨Nat.zero_le _, Nat.zero_le _⟩ 2 2 rfl rfl rfl hl.1 rfl (Nat.le_of_ble_eq_true rfl) dX4_collectFrom_19) (fun H locs V => ?_)
    replace V : Wd D tc A s H locs (Fw tc ad ta us T (ad 6) u) := V
    refine lv_ldc2 (v := (-1)) hx hb hown (hts _ tw_369) dX4_collectFrom_22 ?_
    refine W.lcmp hx hb dX4_collectFrom_25 ?_
    refine lv_if_eq (tgt := 30) hx hb dX4_collectFrom_26 (by decide) (fun c4 => ?_) (fun c4 => ?_)
    · replace hj := ip _ c4 hj
      refine lv_aload_n hx hb dX4_collectFrom_30 rfl (lv_at hl 1 rfl) ?_
      refine x_get hx hb hts hown V inX4 0 rfl rfl 5 (by decide) tw_111 rfl rfl dX4_collectFrom_31 ?_
      refine lv_lload hx hb dX4_collectFrom_34 (lv_at hl 0 rfl) ?_
      refine lv_lconst (v := 0) hx hb dX4_collectFrom_36 (by decide) ?_
      obtain ⟨u6, hr5, hj⟩ := bd_some hj
      refine x_allV V _ (rg_map _) (x_runV (n := 2) (rest := []) C V _ (rg_map _) (rg_nd _) (k_X2_put l D tc ad ta us T (ad 6) u r1 (0 : Int64) hr5) tw_431 tw_432 tw_433 tw_4 tw_434 (by decide +kernel) ⟨Nat.le_trans (Nat.le_of_ble_eq_true rfl) hRf, Nat.le_trans (Nat.le_of_ble_eq_true rfl) hRl⟩ ⟨Nat.zero_le _, Nat.zero_le _⟩ 2 2 rfl rfl rfl hl.1 rfl (Nat.le_of_ble_eq_true rfl) dX4_collectFrom_37) (fun H locs V => ?_)
      replace V : Wd D tc A s H locs (Fw tc ad ta us T (ad 6) u6) := V
      refine lv_iconst (v := 0) hx hb dX4_collectFrom_40 (by decide) ?_
      refine lv_istore (lv' := [(9, .int (0 : Int32)), (7, .long r1), (0, .ref (ad 0)), (1, .int v1), (2, .int v2), (3, .long v3), (5, .int v5), (6, .ref (ad 14))]) hx hb dX4_collectFrom_41 hl (by decide) rfl (fun ls hl => ?_)
      exact lp_X4_collectFrom_43 ad ta us T sh hRf hRl C hret rc hrc hrf hrl  100 u6 v1 v2 v3 v5 (0 : Int32) hj _ _ _ V (lv_sub hl [2, 3, 4, 5, 6, 7, 0] rfl)
    · replace hj := iq _ c4 hj
      exact hret u hj V dX4_collectFrom_29
def j_X4_collectFrom (T : TbT) : Nat → St → Int32 → Int32 → Int64 → Int32 → Option (St)
  | 0 => fun _ _ _ _ _ => none
  | n + 1 => q_X4_collectFrom_0 T (j_X4_collectFrom T n)
set_option maxHeartbeats 4000000 in
set_option maxRecDepth 100000 in
theorem k_X4_collectFrom (l : Launch) (D : va_G) (tc : Nat → ClassId) (ad ta : Nat → Nat) (us : Int32) (T : TbT) (sh : Nat) : ∀ (d : Nat) (u : St) (v1 : Int32) (v2 : Int32) (v3 : Int64) (v5 : Int32) {x0 : St}, j_X4_collectFrom T d u v1 v2 v3 v5 = some x0 → MetD l D tc yX4_collectFrom cX4_collectFrom 13 none (18 + d) (515 + d * 32) [.ref (ad 0), .int v1, .int v2, .long v3, .int v5, .ref (ad 14)] (Fw tc ad ta us T (ad 6) u) none (Fw tc ad ta us T (ad 6) x0) := by
  intro d
  induction d with
  | zero =>
    intro u v1 v2 v3 v5 x0 hj
    have hj : (none : Option (St)) = some x0 := hj
    cases hj
  | succ n ih =>
    intro u v1 v2 v3 v5 x0 hj
    refine x_entV  (fun x : St => Fw tc ad ta us T (ad 6) x) (by decide) (own := RX4) rfl (Nat.le_of_ble_eq_true rfl) (fun p e s m args below meth c A Q ls C V hl hret => ?_)
    have hl : lv_has ls 13 [(0, .ref (ad 0)), (1, .int v1), (2, .int v2), (3, .long v3), (5, .int v5), (6, .ref (ad 14))] := hl
    exact b_X4_collectFrom_0 ad ta us T sh (show 18 ≤ 18 + (n + 1) by omega) (show 515 ≤ 515 + (n + 1) * 32 by omega) C hret (j_X4_collectFrom T n) ih (show 18 + n + 1 ≤ 18 + (n + 1) by omega) (show 8 + (13 + 11) + (515 + n * 32) ≤ 515 + (n + 1) * 32 by omega) u v1 v2 v3 v5 hj _ _ _ V hl

def j_X4_collect (T : TbT) (u : St) (v2 : Int32) (v3 : Int32) : Option (St) :=
  (j_X1_allCalls u).bind (fun r1 => (j_X4_open u v2 r1 (1 : Int32)).bind (fun u3 => nm (sI u3 30 (0 : Int32)) (fun u4 => (j_X4_collectFrom T 12 u4 (0 : Int32) (0 : Int32) (0 : Int64) v3).bind (fun u6 => some u6))))
set_option maxHeartbeats 4000000 in
set_option maxRecDepth 100000 in
theorem k_X4_collect (l : Launch) (D : va_G) (tc : Nat → ClassId) (ad ta : Nat → Nat) (us : Int32) (T : TbT) (sh : Nat) (u : St) (v2 : Int32) (v3 : Int32) {x0 : St} (hj : j_X4_collect T u v2 v3 = some x0) : MetD l D tc yX4_collect cX4_collect 5 none 31 931 [.ref (ad 0), .ref (ad 6), .int v2, .int v3, .ref (ad 14)] (Fw tc ad ta us T sh u) none (Fw tc ad ta us T (ad 6) x0) :=
  x_entV  (fun x : St => Fw tc ad ta us T (ad 6) x) (by decide) (own := RX4) rfl (Nat.le_of_ble_eq_true rfl) (fun p e s m args below meth c A Q ls C V hl hret => by
  obtain ⟨hx, hb, hr, hml, hown, hts, hlk, hN⟩ := id C
  have hRf : 31 ≤ (rmz 31 0 0 931).frames := Nat.le_refl _
  have hRl : 931 ≤ (rmz 31 0 0 931).locals := Nat.le_refl _
  generalize (rmz 31 0 0 931) = R at hret hRf hRl ⊢
  generalize s.heap = H at V ⊢
  generalize ([] : List Loc) = locs at V ⊢
  have hl : lv_has ls 5 [(0, .ref (ad 0)), (1, .ref (ad 6)), (2, .int v2), (3, .int v3), (4, .ref (ad 14))] := hl
  unfold j_X4_collect at hj
  refine lv_aload_n hx hb dX4_collect_0 rfl (lv_at hl 0 rfl) ?_
  refine lv_aload_n hx hb dX4_collect_1 rfl (lv_at hl 1 rfl) ?_
  refine lv_iload_n hx hb dX4_collect_2 rfl (lv_at hl 2 rfl) ?_
  refine lv_aload_n hx hb dX4_collect_3 rfl (lv_at hl 1 rfl) ?_
  obtain ⟨r1, hr1, hj⟩ := bd_some hj
  refine x_allI V _ (rg_map _) (x_runV (n := 0) (rest := [.int v2, .ref (ad 6), .ref (ad 0)]) C V _ (rg_map _) (rg_nd _) (k_X1_allCalls l D tc ad ta us T sh u hr1) tw_443 tw_314 tw_315 tw_3 tw_316 (by decide +kernel) ⟨Nat.le_trans (Nat.le_of_ble_eq_true rfl) hRf, Nat.le_trans (Nat.le_of_ble_eq_true rfl) hRl⟩ ⟨Nat.zero_le _, Nat.zero_le _⟩ 6 1 rfl rfl rfl hl.1 rfl (Nat.le_of_ble_eq_true rfl) dX4_collect_4) (fun H locs V zr1 => ?_)
  replace V : Wd D tc A s H locs (Fw tc ad ta us T sh u) := V
  refine lv_iconst (v := 1) hx hb dX4_collect_7 (by decide) ?_
  obtain ⟨u3, hr2, hj⟩ := bd_some hj
  refine x_allV V _ (rg_map _) (x_runV (n := 4) (rest := []) C V _ (rg_map _) (rg_nd _) (k_X4_open l D tc ad ta us T sh u v2 r1 (1 : Int32) hr2) tw_341 tw_343 tp_4 tw_2 tw_344 (by decide +kernel) ⟨Nat.le_trans (Nat.le_of_ble_eq_true rfl) hRf, Nat.le_trans (Nat.le_of_ble_eq_true rfl) hRl⟩ ⟨Nat.zero_le _, Nat.zero_le _⟩ 0 3 rfl rfl rfl hl.1 rfl (Nat.le_of_ble_eq_true rfl) dX4_collect_8) (fun H locs V => ?_)
  replace V : Wd D tc A s H locs (Fw tc ad ta us T (ad 6) u3) := V
  refine lv_aload hx hb dX4_collect_11 (lv_at hl 4 rfl) ?_
  refine lv_iconst (v := 0) hx hb dX4_collect_13 (by decide) ?_
  refine x_put hx hb hts hown V inX0 tyX0_ok nmX0 14 rfl rfl 1 (by decide) tw_134 rfl rfl rfl rfl (Nat.le_of_ble_eq_true rfl) dX4_collect_14 (fun H locs V => ?_)
  obtain ⟨u4, eu4, hj⟩ := nm_some hj
  replace V : Wd D tc A s H locs (Fw tc ad ta us T (ad 6) u4) := by rw [eu4]; exact V
  refine lv_aload_n hx hb dX4_collect_17 rfl (lv_at hl 0 rfl) ?_
  refine lv_iconst (v := 0) hx hb dX4_collect_18 (by decide) ?_
  refine lv_iconst (v := 0) hx hb dX4_collect_19 (by decide) ?_
  refine lv_lconst (v := 0) hx hb dX4_collect_20 (by decide) ?_
  refine lv_iload_n hx hb dX4_collect_21 rfl (lv_at hl 3 rfl) ?_
  refine lv_aload hx hb dX4_collect_22 (lv_at hl 4 rfl) ?_
  obtain ⟨u6, hr5, hj⟩ := bd_some hj
  refine x_allV V _ (rg_map _) (x_runV (n := 5) (rest := []) C V _ (rg_map _) (rg_nd _) (k_X4_collectFrom l D tc ad ta us T (ad 6) 12 u4 (0 : Int32) (0 : Int32) (0 : Int64) v3 hr5) tw_479 tw_481 tp_9 tw_2 tw_482 (by decide +kernel) ⟨Nat.le_trans (Nat.le_of_ble_eq_true rfl) hRf, Nat.le_trans (Nat.le_of_ble_eq_true rfl) hRl⟩ ⟨Nat.zero_le _, Nat.zero_le _⟩ 0 3 rfl rfl rfl hl.1 rfl (Nat.le_of_ble_eq_true rfl) dX4_collect_24) (fun H locs V => ?_)
  replace V : Wd D tc A s H locs (Fw tc ad ta us T (ad 6) u6) := V
  exact hret u6 hj V dX4_collect_27)

def q_X4_firstFault_20 (T : TbT) (k_20 : St → Int32 → Int32 → Int64 → Int32 → Option (Int32 × St)) (u : St) (v4 : Int32) (v5 : Int32) (v6 : Int64) (v8 : Int32) : Option (Int32 × St) :=
  if v4 ≤ v8 then (j_X4_isWhole u v5).bind (fun r5 => if r5 = (0 : Int32) then some (v4, u) else some ((100 : Int32), u)) else if (10 : Int32) ≤ v8 then (j_X4_isWhole u v5).bind (fun r8 => if r8 = (0 : Int32) then some (v4, u) else some ((100 : Int32), u)) else gd v8 10 (nm (u.2.1 32 v8.toNatClampNeg) (fun x11 => (j_X4_fits T u x11 v5 v6).bind (fun r12 => if r12 = (0 : Int32) then some (v8, u) else (j_X3_after T u x11 v6).bind (fun r14 => nm (v5 ||| ((1 : Int32) <<< (x11 &&& 31))) (fun x15 => nm (v8 + 1) (fun x16 => k_20 u v4 x15 r14 x16))))))
set_option maxHeartbeats 4000000 in
set_option maxRecDepth 100000 in
theorem b_X4_firstFault_20 {p : Program} {l : Launch} {e : Env} {R : Room} {s : State} {m : MethodId} {args : Array Value} {below : List Frame} {meth : Method} {c : Code} {A : Nat → Prop} {Q : State → Prop} {D : va_G} {tc : Nat → ClassId} (ad ta : Nat → Nat) (us : Int32) (T : TbT) (sh : Nat) (hRf : 5 ≤ R.frames) (hRl : 112 ≤ R.locals) (C : Cx p s m args meth c cX4_firstFault 10 RX4 (some .int)) {x0 : Int32 × St} (hret : RetI p l e R s m args below meth c Q cX4_firstFault D tc A .int (some x0) (fun x : Int32 × St => x.1) (fun x : Int32 × St => Fw tc ad ta us T (ad 6) x.2)) (k_20 : St → Int32 → Int32 → Int64 → Int32 → Option (Int32 × St)) (hk_20 : ∀ (u : St) (v4 : Int32) (v5 : Int32) (v6 : Int64) (v8 : Int32), k_20 u v4 v5 v6 v8 = some x0 → ∀ (H : Heap) (locs : List Loc) (ls : Array Slot), Wd D tc A s H locs (Fw tc ad ta us T (ad 6) u) → lv_has ls 10 [(0, .ref (ad 0)), (3, .ref (ad 16)), (4, .int v4), (5, .int v5), (6, .long v6), (8, .int v8)] → W p l e R s m args below meth c H locs 0 0 Q (F0 m 20 ls [])) : ∀ (u : St) (v4 : Int32) (v5 : Int32) (v6 : Int64) (v8 : Int32), q_X4_firstFault_20 T k_20 u v4 v5 v6 v8 = some x0 → ∀ (H : Heap) (locs : List Loc) (ls : Array Slot), Wd D tc A s H locs (Fw tc ad ta us T (ad 6) u) → lv_has ls 10 [(0, .ref (ad 0)), (3, .ref (ad 16)), (4, .int v4), (5, .int v5), (6, .long v6), (8, .int v8)] → W p l e R s m args below meth c H locs 0 0 Q (F0 m 20 ls []) := by
  obtain ⟨hx, hb, hr, hml, hown, hts, hlk, hN⟩ := id C
  intro u v4 v5 v6 v8 hj H locs ls V hl
  unfold q_X4_firstFault_20 at hj
  refine lv_iload hx hb dX4_firstFault_20 (lv_at hl 5 rfl) ?_
  refine lv_iload hx hb dX4_firstFault_22 (lv_at hl 2 rfl) ?_
  refine lv_icmp_ge (tgt := 84) hx hb dX4_firstFault_24 (by decide) (fun c4 => ?_) (fun c4 => ?_)
  · replace hj := ip _ c4 hj
    refine lv_aload_n hx hb dX4_firstFault_84 rfl (lv_at hl 0 rfl) ?_
    refine lv_iload hx hb dX4_firstFault_85 (lv_at hl 3 rfl) ?_
    obtain ⟨r5, hr5, hj⟩ := bd_some hj
    refine x_allI V _ (rg_map _) (x_runV (n := 1) (rest := []) C V _ (rg_map _) (rg_nd _) (k_X4_isWhole l D tc ad ta us T (ad 6) u v5 hr5) tw_370 tw_372 tp_6 tw_2 tw_373 (by decide +kernel) ⟨Nat.le_trans (Nat.le_of_ble_eq_true rfl) hRf, Nat.le_trans (Nat.le_of_ble_eq_true rfl) hRl⟩ ⟨Nat.zero_le _, Nat.zero_le _⟩ 0 3 rfl rfl rfl hl.1 rfl (Nat.le_of_ble_eq_true rfl) dX4_firstFault_87) (fun H locs V zr5 => ?_)
    replace V : Wd D tc A s H locs (Fw tc ad ta us T (ad 6) u) := V
    refine lv_if_eq (tgt := 98) hx hb dX4_firstFault_90 (by decide) (fun c6 => ?_) (fun c6 => ?_)
    · replace hj := ip _ c6 hj
      refine lv_iload hx hb dX4_firstFault_98 (lv_at hl 2 rfl) ?_
      exact hret (v4, u) hj rfl V dX4_firstFault_100
    · replace hj := iq _ c6 hj
      refine lv_bipush (v := 100) hx hb dX4_firstFault_93 (by decide) ?_
      refine lv_goto (tgt := 100) hx hb dX4_firstFault_95 (by decide) ?_
      exact hret ((100 : Int32), u) hj rfl V dX4_firstFault_100
  · replace hj := iq _ c4 hj
    refine lv_iload hx hb dX4_firstFault_27 (lv_at hl 5 rfl) ?_
    refine lv_aload_n hx hb dX4_firstFault_29 rfl (lv_at hl 1 rfl) ?_
    refine x_alen (v := 10) hx hb V 16 rfl (by decide) dX4_firstFault_30 ?_
    refine lv_icmp_ge (tgt := 84) hx hb dX4_firstFault_31 (by decide) (fun c7 => ?_) (fun c7 => ?_)
    · replace hj := ip _ c7 hj
      refine lv_aload_n hx hb dX4_firstFault_84 rfl (lv_at hl 0 rfl) ?_
      refine lv_iload hx hb dX4_firstFault_85 (lv_at hl 3 rfl) ?_
      obtain ⟨r8, hr8, hj⟩ := bd_some hj
      refine x_allI V _ (rg_map _) (x_runV (n := 1) (rest := []) C V _ (rg_map _) (rg_nd _) (k_X4_isWhole l D tc ad ta us T (ad 6) u v5 hr8) tw_370 tw_372 tp_6 tw_2 tw_373 (by decide +kernel) ⟨Nat.le_trans (Nat.le_of_ble_eq_true rfl) hRf, Nat.le_trans (Nat.le_of_ble_eq_true rfl) hRl⟩ ⟨Nat.zero_le _, Nat.zero_le _⟩ 0 3 rfl rfl rfl hl.1 rfl (Nat.le_of_ble_eq_true rfl) dX4_firstFault_87) (fun H locs V zr8 => ?_)
      replace V : Wd D tc A s H locs (Fw tc ad ta us T (ad 6) u) := V
      refine lv_if_eq (tgt := 98) hx hb dX4_firstFault_90 (by decide) (fun c9 => ?_) (fun c9 => ?_)
      · replace hj := ip _ c9 hj
        refine lv_iload hx hb dX4_firstFault_98 (lv_at hl 2 rfl) ?_
        exact hret (v4, u) hj rfl V dX4_firstFault_100
      · replace hj := iq _ c9 hj
        refine lv_bipush (v := 100) hx hb dX4_firstFault_93 (by decide) ?_
        refine lv_goto (tgt := 100) hx hb dX4_firstFault_95 (by decide) ?_
        exact hret ((100 : Int32), u) hj rfl V dX4_firstFault_100
    · replace hj := iq _ c7 hj
      refine lv_aload_n hx hb dX4_firstFault_34 rfl (lv_at hl 1 rfl) ?_
      refine lv_iload hx hb dX4_firstFault_35 (lv_at hl 5 rfl) ?_
      obtain ⟨i10, hj⟩ := gd_some hj
      refine x_iald hx hb V 16 rfl i10 dX4_firstFault_37 ?_
      obtain ⟨x11, ex11, hj⟩ := nm_some hj
      refine x_topi ex11 ?_
      refine lv_istore (lv' := [(9, .int x11), (0, .ref (ad 0)), (3, .ref (ad 16)), (4, .int v4), (5, .int v5), (6, .long v6), (8, .int v8)]) hx hb dX4_firstFault_38 hl (by decide) rfl (fun ls hl => ?_)
      refine lv_aload_n hx hb dX4_firstFault_40 rfl (lv_at hl 1 rfl) ?_
      refine lv_iload hx hb dX4_firstFault_41 (lv_at hl 0 rfl) ?_
      refine lv_iload hx hb dX4_firstFault_43 (lv_at hl 4 rfl) ?_
      refine lv_lload hx hb dX4_firstFault_45 (lv_at hl 5 rfl) ?_
      obtain ⟨r12, hr12, hj⟩ := bd_some hj
      refine x_allI V _ (rg_map _) (x_runV (n := 3) (rest := []) C V _ (rg_map _) (rg_nd _) (k_X4_fits l D tc ad ta us T (ad 6) u x11 v5 v6 hr12) tw_374 tw_376 tp_7 tw_2 tw_377 (by decide +kernel) ⟨Nat.le_trans (Nat.le_of_ble_eq_true rfl) hRf, Nat.le_trans (Nat.le_of_ble_eq_true rfl) hRl⟩ ⟨Nat.zero_le _, Nat.zero_le _⟩ 0 3 rfl rfl rfl hl.1 rfl (Nat.le_of_ble_eq_true rfl) dX4_firstFault_47) (fun H locs V zr12 => ?_)
      replace V : Wd D tc A s H locs (Fw tc ad ta us T (ad 6) u) := V
      refine lv_if_ne (tgt := 56) hx hb dX4_firstFault_50 (by decide) (fun c13 => ?_) (fun c13 => ?_)
      · replace hj := iq _ c13 hj
        refine lv_aload_n hx hb dX4_firstFault_56 rfl (lv_at hl 1 rfl) ?_
        refine x_get hx hb hts hown V inX4 0 rfl rfl 0 (by decide) tw_106 rfl rfl dX4_firstFault_57 ?_
        refine lv_iload hx hb dX4_firstFault_60 (lv_at hl 0 rfl) ?_
        refine lv_lload hx hb dX4_firstFault_62 (lv_at hl 5 rfl) ?_
        obtain ⟨r14, hr14, hj⟩ := bd_some hj
        refine x_allL V _ (rg_map _) (x_runS (n := 3) (rest := []) C V _ (rg_map _) (rg_nd _) (k_X3_after l D tc ad ta us T (ad 6) u x11 v6 hr14) tw_411 tw_412 tw_8 tw_413 (by decide +kernel) ⟨Nat.le_trans (Nat.le_of_ble_eq_true rfl) hRf, Nat.le_trans (Nat.le_of_ble_eq_true rfl) hRl⟩ ⟨Nat.zero_le _, Nat.zero_le _⟩ rfl hl.1 rfl (Nat.le_of_ble_eq_true rfl) dX4_firstFault_64) (fun H locs V => ?_)
        replace V : Wd D tc A s H locs (Fw tc ad ta us T (ad 6) u) := V
        refine lv_lstore (lv' := [(6, .long r14), (9, .int x11), (0, .ref (ad 0)), (3, .ref (ad 16)), (4, .int v4), (5, .int v5), (8, .int v8)]) hx hb dX4_firstFault_67 hl (by decide) rfl (fun ls hl => ?_)
        refine lv_iload hx hb dX4_firstFault_69 (lv_at hl 5 rfl) ?_
        refine lv_iconst (v := 1) hx hb dX4_firstFault_71 (by decide) ?_
        refine lv_iload hx hb dX4_firstFault_72 (lv_at hl 1 rfl) ?_
        refine lv_ishl hx hb dX4_firstFault_74 ?_
        refine lv_ior hx hb dX4_firstFault_75 ?_
        obtain ⟨x15, ex15, hj⟩ := nm_some hj
        refine x_topi ex15 ?_
        refine lv_istore (lv' := [(5, .int x15), (6, .long r14), (9, .int x11), (0, .ref (ad 0)), (3, .ref (ad 16)), (4, .int v4), (8, .int v8)]) hx hb dX4_firstFault_76 hl (by decide) rfl (fun ls hl => ?_)
        obtain ⟨x16, ex16, hj⟩ := nm_some hj
        refine lv_iinc (v := x16) (lv' := [(8, .int x16), (5, .int x15), (6, .long r14), (9, .int x11), (0, .ref (ad 0)), (3, .ref (ad 16)), (4, .int v4)]) hx hb dX4_firstFault_78 hl (k := 6) rfl (by rw [ex16]; rfl) (by decide) rfl (fun ls hl => ?_)
        refine lv_goto (tgt := 20) hx hb dX4_firstFault_81 (by decide) ?_
        exact hk_20 u v4 x15 r14 x16 hj _ _ _ V (lv_sub hl [4, 5, 6, 1, 2, 0] rfl)
      · replace hj := ip _ c13 hj
        refine lv_iload hx hb dX4_firstFault_53 (lv_at hl 6 rfl) ?_
        exact hret (v8, u) hj rfl V dX4_firstFault_55
def j_X4_firstFault_20 (T : TbT) : Nat → St → Int32 → Int32 → Int64 → Int32 → Option (Int32 × St)
  | 0 => fun _ _ _ _ _ => none
  | n + 1 => q_X4_firstFault_20 T (j_X4_firstFault_20 T n)
theorem lp_X4_firstFault_20 {p : Program} {l : Launch} {e : Env} {R : Room} {s : State} {m : MethodId} {args : Array Value} {below : List Frame} {meth : Method} {c : Code} {A : Nat → Prop} {Q : State → Prop} {D : va_G} {tc : Nat → ClassId} (ad ta : Nat → Nat) (us : Int32) (T : TbT) (sh : Nat) (hRf : 5 ≤ R.frames) (hRl : 112 ≤ R.locals) (C : Cx p s m args meth c cX4_firstFault 10 RX4 (some .int)) {x0 : Int32 × St} (hret : RetI p l e R s m args below meth c Q cX4_firstFault D tc A .int (some x0) (fun x : Int32 × St => x.1) (fun x : Int32 × St => Fw tc ad ta us T (ad 6) x.2))  : ∀ (n : Nat), ∀ (u : St) (v4 : Int32) (v5 : Int32) (v6 : Int64) (v8 : Int32), j_X4_firstFault_20 T n u v4 v5 v6 v8 = some x0 → ∀ (H : Heap) (locs : List Loc) (ls : Array Slot), Wd D tc A s H locs (Fw tc ad ta us T (ad 6) u) → lv_has ls 10 [(0, .ref (ad 0)), (3, .ref (ad 16)), (4, .int v4), (5, .int v5), (6, .long v6), (8, .int v8)] → W p l e R s m args below meth c H locs 0 0 Q (F0 m 20 ls []) := by
  intro n
  induction n with
  | zero =>
    intro u v4 v5 v6 v8 hj
    have hj : (none : Option (Int32 × St)) = some x0 := hj
    cases hj
  | succ n ih =>
    intro u v4 v5 v6 v8 hj
    exact b_X4_firstFault_20 ad ta us T sh hRf hRl C hret   (j_X4_firstFault_20 T n) ih u v4 v5 v6 v8 hj
def j_X4_firstFault (T : TbT) (u : St) (v2 : Int32) (v4 : Int32) : Option (Int32 × St) :=
  (j_X1_allCalls u).bind (fun r1 => (j_X4_open u v2 r1 (1 : Int32)).bind (fun u3 => j_X4_firstFault_20 T 100 u3 v4 (0 : Int32) (0 : Int64) (0 : Int32)))
set_option maxHeartbeats 4000000 in
set_option maxRecDepth 100000 in
theorem k_X4_firstFault (l : Launch) (D : va_G) (tc : Nat → ClassId) (ad ta : Nat → Nat) (us : Int32) (T : TbT) (sh : Nat) (u : St) (v2 : Int32) (v4 : Int32) {x0 : Int32 × St} (hj : j_X4_firstFault T u v2 v4 = some x0) : MetD l D tc yX4_firstFault cX4_firstFault 10 (some .int) 5 112 [.ref (ad 0), .ref (ad 6), .int v2, .ref (ad 16), .int v4] (Fw tc ad ta us T sh u) (some (.int x0.1)) (Fw tc ad ta us T (ad 6) x0.2) :=
  x_entI (fun x : Int32 × St => x.1) (fun x : Int32 × St => Fw tc ad ta us T (ad 6) x.2) (by decide) (own := RX4) rfl (Nat.le_of_ble_eq_true rfl) (fun p e s m args below meth c A Q ls C V hl hret => by
  obtain ⟨hx, hb, hr, hml, hown, hts, hlk, hN⟩ := id C
  have hRf : 5 ≤ (rmz 5 0 0 112).frames := Nat.le_refl _
  have hRl : 112 ≤ (rmz 5 0 0 112).locals := Nat.le_refl _
  generalize (rmz 5 0 0 112) = R at hret hRf hRl ⊢
  generalize s.heap = H at V ⊢
  generalize ([] : List Loc) = locs at V ⊢
  have hl : lv_has ls 10 [(0, .ref (ad 0)), (1, .ref (ad 6)), (2, .int v2), (3, .ref (ad 16)), (4, .int v4)] := hl
  unfold j_X4_firstFault at hj
  refine lv_aload_n hx hb dX4_firstFault_0 rfl (lv_at hl 0 rfl) ?_
  refine lv_aload_n hx hb dX4_firstFault_1 rfl (lv_at hl 1 rfl) ?_
  refine lv_iload_n hx hb dX4_firstFault_2 rfl (lv_at hl 2 rfl) ?_
  refine lv_aload_n hx hb dX4_firstFault_3 rfl (lv_at hl 1 rfl) ?_
  obtain ⟨r1, hr1, hj⟩ := bd_some hj
  refine x_allI V _ (rg_map _) (x_runV (n := 0) (rest := [.int v2, .ref (ad 6), .ref (ad 0)]) C V _ (rg_map _) (rg_nd _) (k_X1_allCalls l D tc ad ta us T sh u hr1) tw_443 tw_314 tw_315 tw_3 tw_316 (by decide +kernel) ⟨Nat.le_trans (Nat.le_of_ble_eq_true rfl) hRf, Nat.le_trans (Nat.le_of_ble_eq_true rfl) hRl⟩ ⟨Nat.zero_le _, Nat.zero_le _⟩ 6 1 rfl rfl rfl hl.1 rfl (Nat.le_of_ble_eq_true rfl) dX4_firstFault_4) (fun H locs V zr1 => ?_)
  replace V : Wd D tc A s H locs (Fw tc ad ta us T sh u) := V
  refine lv_iconst (v := 1) hx hb dX4_firstFault_7 (by decide) ?_
  obtain ⟨u3, hr2, hj⟩ := bd_some hj
  refine x_allV V _ (rg_map _) (x_runV (n := 4) (rest := []) C V _ (rg_map _) (rg_nd _) (k_X4_open l D tc ad ta us T sh u v2 r1 (1 : Int32) hr2) tw_341 tw_343 tp_4 tw_2 tw_344 (by decide +kernel) ⟨Nat.le_trans (Nat.le_of_ble_eq_true rfl) hRf, Nat.le_trans (Nat.le_of_ble_eq_true rfl) hRl⟩ ⟨Nat.zero_le _, Nat.zero_le _⟩ 0 3 rfl rfl rfl hl.1 rfl (Nat.le_of_ble_eq_true rfl) dX4_firstFault_8) (fun H locs V => ?_)
  replace V : Wd D tc A s H locs (Fw tc ad ta us T (ad 6) u3) := V
  refine lv_iconst (v := 0) hx hb dX4_firstFault_11 (by decide) ?_
  refine lv_istore (lv' := [(5, .int (0 : Int32)), (0, .ref (ad 0)), (1, .ref (ad 6)), (2, .int v2), (3, .ref (ad 16)), (4, .int v4)]) hx hb dX4_firstFault_12 hl (by decide) rfl (fun ls hl => ?_)
  refine lv_lconst (v := 0) hx hb dX4_firstFault_14 (by decide) ?_
  refine lv_lstore (lv' := [(6, .long (0 : Int64)), (5, .int (0 : Int32)), (0, .ref (ad 0)), (1, .ref (ad 6)), (2, .int v2), (3, .ref (ad 16)), (4, .int v4)]) hx hb dX4_firstFault_15 hl (by decide) rfl (fun ls hl => ?_)
  refine lv_iconst (v := 0) hx hb dX4_firstFault_17 (by decide) ?_
  refine lv_istore (lv' := [(8, .int (0 : Int32)), (6, .long (0 : Int64)), (5, .int (0 : Int32)), (0, .ref (ad 0)), (1, .ref (ad 6)), (2, .int v2), (3, .ref (ad 16)), (4, .int v4)]) hx hb dX4_firstFault_18 hl (by decide) rfl (fun ls hl => ?_)
  exact lp_X4_firstFault_20 ad ta us T sh hRf hRl C hret   100 u3 v4 (0 : Int32) (0 : Int64) (0 : Int32) hj _ _ _ V (lv_sub hl [3, 6, 7, 2, 1, 0] rfl))
