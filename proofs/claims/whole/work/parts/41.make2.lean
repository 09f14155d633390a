def twS (u : St) : St := (u.1, fun k => va_cpy (u.2.1 k) (fun _ => 0) 0 0 10, u.2.2)
set_option maxHeartbeats 4000000 in
set_option maxRecDepth 100000 in
theorem kc_X6_keep (l : Launch) (D : va_G) (tc : Nat → ClassId) (xo : Nat) (xa ad : Nat → Nat) (f g : Nat → Option Nat) (nT nH : Int32) (t : Nat → Int32) (tl : va_W) (v : Nat) (vs : List Value) (hlt : nH < 12) (hin9 : vp_in nH 12) (qk : Nat) (hv : tl[qk]? = some (v, .inr (1, vs))) : MetG l D tc yX6_keep cX6_keep 2 (some .int) 0 0 0 0 [.ref xo, .ref v] (Bw tc xo xa ad f g nT nH t ++ tl) (fun v0 w => v0 = some (.int (nH + 1 - 1)) ∧ w = Bw tc xo xa ad f (va_up g nH.toNatClampNeg (some v)) nT (nH + 1) t ++ tl) :=
  x_ent (by decide) (own := RX6) rfl (Nat.le_of_ble_eq_true rfl) (fun p e s m args below meth c A sz ls hA _ hin C V hl => by
  obtain ⟨hx, hb, hr, hml, hown, hts, hlk, hN⟩ := id C
  replace hin := hin rfl
  try replace hin := hin rfl
  have hl : lv_has ls 2 [(0, .ref xo), (1, .ref v)] := hl
  generalize s.heap = H at V ⊢
  generalize ([] : List Loc) = locs at V ⊢
  refine lv_aload_n hx hb dX6_keep_0 rfl (lv_at hl 0 rfl) ?_
  refine x_get hx hb hts hown V inX6 0 rfl rfl 3 (by decide) tw_144 rfl rfl dX6_keep_1 ?_
  refine lv_bipush (v := 12) hx hb dX6_keep_4 (by decide) ?_
  refine lv_icmp_lt (tgt := 12) hx hb dX6_keep_6 (by decide) (fun c0 => ?_) (fun c0 => absurd hlt c0)
  refine lv_aload_n hx hb dX6_keep_12 rfl (lv_at hl 0 rfl) ?_
  refine x_get hx hb hts hown V inX6 0 rfl rfl 2 (by decide) tw_143 rfl rfl dX6_keep_13 ?_
  refine lv_aload_n hx hb dX6_keep_16 rfl (lv_at hl 0 rfl) ?_
  refine x_get hx hb hts hown V inX6 0 rfl rfl 3 (by decide) tw_144 rfl rfl dX6_keep_17 ?_
  refine lv_aload_n hx hb dX6_keep_20 rfl (lv_at hl 1 rfl) ?_
  refine x_aast hx hb V 2 2 (qk + 3) 1 rfl rfl hv rfl hin9 dX6_keep_21 (fun H locs V => ?_)
  replace V : Wd D tc A s H locs ([(xo, .inr (5, [.ref (xa 0), .int nT, .ref (xa 1), .int nH, .ref (ad 0), .ref (ad 14), .int (t 42), .ref (ad 16), .int (t 43), .int (t 44)])), ((xa 0), .inl (tc 3, 4, .inr (.inr (.inr (.inr f))))), ((xa 1), .inl (tc 2, 12, .inr (.inr (.inr (.inr (va_up g nH.toNatClampNeg (some v)))))))] ++ tl) := V
  refine lv_aload_n hx hb dX6_keep_22 rfl (lv_at hl 0 rfl) ?_
  refine lv_dup hx hb dX6_keep_23 rfl ?_
  refine x_get hx hb hts hown V inX6 0 rfl rfl 3 (by decide) tw_144 rfl rfl dX6_keep_24 ?_
  refine lv_iconst (v := 1) hx hb dX6_keep_27 (by decide) ?_
  refine lv_iadd hx hb dX6_keep_28 ?_
  refine x_put hx hb hts hown V inX6 tyX6_ok nmX6 0 rfl rfl 3 (by decide) tw_144 rfl rfl rfl rfl (Nat.le_of_ble_eq_true rfl) dX6_keep_29 (fun H locs V => ?_)
  replace V : Wd D tc A s H locs ([(xo, .inr (5, [.ref (xa 0), .int nT, .ref (xa 1), .int (nH + (1 : Int32)), .ref (ad 0), .ref (ad 14), .int (t 42), .ref (ad 16), .int (t 43), .int (t 44)])), ((xa 0), .inl (tc 3, 4, .inr (.inr (.inr (.inr f))))), ((xa 1), .inl (tc 2, 12, .inr (.inr (.inr (.inr (va_up g nH.toNatClampNeg (some v)))))))] ++ tl) := V
  refine lv_aload_n hx hb dX6_keep_32 rfl (lv_at hl 0 rfl) ?_
  refine x_get hx hb hts hown V inX6 0 rfl rfl 3 (by decide) tw_144 rfl rfl dX6_keep_33 ?_
  refine lv_iconst (v := 1) hx hb dX6_keep_36 (by decide) ?_
  refine lv_isub hx hb dX6_keep_37 ?_
  exact x_ireti (RT := _) (Nat.le_of_ble_eq_true rfl) (Nat.le_of_ble_eq_true rfl) C hA rfl ⟨rfl, rfl⟩ V dX6_keep_38)

set_option maxHeartbeats 4000000 in
set_option maxRecDepth 100000 in
theorem kc_X1_twin_N (l : Launch) (D : va_G) (tc : Nat → ClassId) (ha : Nat → Nat) (u : St) : MetG l D tc yX1_twin cX1_twin 2 (some (.object "HistoryCourt$History")) 2 8 81 60 [.ref (ha 6)] (Hw tc ha (.null) u) (fun v w => ∃ hb1 : Nat → Nat, v = some (.ref (hb1 6)) ∧ w = Hw tc ha (.null) u ++ Hw tc hb1 (.null) (twS u)) :=
  x_ent (by decide) (own := RX1) rfl (Nat.le_of_ble_eq_true rfl) (fun p e s m args below meth c A sz ls hA _ hin C V hl => by
  obtain ⟨hx, hb, hr, hml, hown, hts, hlk, hN⟩ := id C
  replace hin := hin rfl
  try replace hin := hin rfl
  have hl : lv_has ls 2 [(0, .ref (ha 6))] := hl
  generalize s.heap = H at V ⊢
  generalize ([] : List Loc) = locs at V ⊢
  refine x_new (fs := [.int 0, .null, .int 0, .int 0, .null, .null, .null, .null, .null, .null, .null]) hx hb hts hown V 1 inX1 tyX1_ok tw_235 tw_31 tw_3 rfl (fun j hj => by rcases (show j = 0 ∨ j = 1 ∨ j = 2 ∨ j = 3 ∨ j = 4 ∨ j = 5 ∨ j = 6 ∨ j = 7 ∨ j = 8 ∨ j = 9 ∨ j = 10 by omega) with rfl | rfl | rfl | rfl | rfl | rfl | rfl | rfl | rfl | rfl | rfl <;> rfl) (Nat.le_of_ble_eq_true rfl) (Nat.le_of_ble_eq_true rfl) dX1_twin_0 (fun q1 H V => ?_)
  replace V : Wd D tc A s H locs ([((ha 6), .inr (1, [.int (u.1 0), .null, .int (u.1 2), .int (u.1 3), .ref (ha 7), .ref (ha 8), .ref (ha 9), .ref (ha 10), .ref (ha 11), .ref (ha 12), .ref (ha 13)])), ((ha 7), .inl (tc 0, 10, .inl (u.2.1 4))), ((ha 8), .inl (tc 0, 10, .inl (u.2.1 5))), ((ha 9), .inl (tc 0, 10, .inl (u.2.1 6))), ((ha 10), .inl (tc 0, 10, .inl (u.2.1 7))), ((ha 11), .inl (tc 0, 10, .inl (u.2.1 8))), ((ha 12), .inl (tc 0, 10, .inl (u.2.1 9))), ((ha 13), .inl (tc 0, 10, .inl (u.2.1 10))), (q1, .inr (1, [.int 0, .null, .int 0, .int 0, .null, .null, .null, .null, .null, .null, .null]))]) := V
  refine lv_dup hx hb dX1_twin_3 rfl ?_
  refine lv_aload_n hx hb dX1_twin_4 rfl (lv_at hl 0 rfl) ?_
  refine x_get hx hb hts hown V inX1 0 rfl rfl 0 (by decide) tw_36 rfl rfl dX1_twin_5 ?_
  refine lv_aload_n hx hb dX1_twin_8 rfl (lv_at hl 0 rfl) ?_
  refine x_get hx hb hts hown V inX1 0 rfl rfl 1 (by decide) tw_39 rfl rfl dX1_twin_9 ?_
  replace V : Wd D tc A s H locs ([((ha 6), .inr (1, [.int (u.1 0), .null, .int (u.1 2), .int (u.1 3), .ref (ha 7), .ref (ha 8), .ref (ha 9), .ref (ha 10), .ref (ha 11), .ref (ha 12), .ref (ha 13)])), ((ha 7), .inl (tc 0, 10, .inl (u.2.1 4))), ((ha 8), .inl (tc 0, 10, .inl (u.2.1 5))), ((ha 9), .inl (tc 0, 10, .inl (u.2.1 6))), ((ha 10), .inl (tc 0, 10, .inl (u.2.1 7))), ((ha 11), .inl (tc 0, 10, .inl (u.2.1 8))), ((ha 12), .inl (tc 0, 10, .inl (u.2.1 9))), ((ha 13), .inl (tc 0, 10, .inl (u.2.1 10)))] ++ ([(q1, .inr (1, [.int 0, .null, .int 0, .int 0, .null, .null, .null, .null, .null, .null, .null]))] ++ [])) := V
  refine x_midG (w0 := [((ha 6), .inr (1, [.int (u.1 0), .null, .int (u.1 2), .int (u.1 3), .ref (ha 7), .ref (ha 8), .ref (ha 9), .ref (ha 10), .ref (ha 11), .ref (ha 12), .ref (ha 13)])), ((ha 7), .inl (tc 0, 10, .inl (u.2.1 4))), ((ha 8), .inl (tc 0, 10, .inl (u.2.1 5))), ((ha 9), .inl (tc 0, 10, .inl (u.2.1 6))), ((ha 10), .inl (tc 0, 10, .inl (u.2.1 7))), ((ha 11), .inl (tc 0, 10, .inl (u.2.1 8))), ((ha 12), .inl (tc 0, 10, .inl (u.2.1 9))), ((ha 13), .inl (tc 0, 10, .inl (u.2.1 10)))]) (wr := []) V (x_runI (n := 2) (rest := [.ref q1]) C V _ (mid_map _ _ _) (mid_nd _ _) (kc_X1_init_N l D tc q1 (u.1 0)) tw_236 tw_33 tw_3 tw_34 rfl (by decide +kernel) ⟨(Nat.le_of_ble_eq_true rfl), (Nat.le_of_ble_eq_true rfl)⟩ ⟨(Nat.le_of_ble_eq_true rfl), (Nat.le_of_ble_eq_true rfl)⟩ rfl hl.1 rfl (Nat.le_of_ble_eq_true rfl) dX1_twin_12) (fun v0 w1 H locs hRT _ V2 => ?_)
  clear V
  obtain ⟨rfl, hb1, rfl, hq9⟩ := hRT
  subst hq9
  have V : Wd D tc A s H locs ([((ha 6), .inr (1, [.int (u.1 0), .null, .int (u.1 2), .int (u.1 3), .ref (ha 7), .ref (ha 8), .ref (ha 9), .ref (ha 10), .ref (ha 11), .ref (ha 12), .ref (ha 13)])), ((ha 7), .inl (tc 0, 10, .inl (u.2.1 4))), ((ha 8), .inl (tc 0, 10, .inl (u.2.1 5))), ((ha 9), .inl (tc 0, 10, .inl (u.2.1 6))), ((ha 10), .inl (tc 0, 10, .inl (u.2.1 7))), ((ha 11), .inl (tc 0, 10, .inl (u.2.1 8))), ((ha 12), .inl (tc 0, 10, .inl (u.2.1 9))), ((ha 13), .inl (tc 0, 10, .inl (u.2.1 10))), ((hb1 6), .inr (1, [.int (u.1 0), .null, .int 0, .int 0, .ref (hb1 7), .ref (hb1 8), .ref (hb1 9), .ref (hb1 10), .ref (hb1 11), .ref (hb1 12), .ref (hb1 13)])), ((hb1 7), .inl (tc 0, 10, .inl (fun _ => 0))), ((hb1 8), .inl (tc 0, 10, .inl (fun _ => 0))), ((hb1 9), .inl (tc 0, 10, .inl (fun _ => 0))), ((hb1 10), .inl (tc 0, 10, .inl (fun _ => 0))), ((hb1 11), .inl (tc 0, 10, .inl (fun _ => 0))), ((hb1 12), .inl (tc 0, 10, .inl (fun _ => 0))), ((hb1 13), .inl (tc 0, 10, .inl (fun _ => 0)))]) := V2
  refine lv_astore_n (lv' := [(1, .ref (hb1 6)), (0, .ref (ha 6))]) hx hb dX1_twin_15 rfl hl (by decide) rfl (fun ls hl => ?_)
  refine lv_aload_n hx hb dX1_twin_16 rfl (lv_at hl 0 rfl) ?_
  refine lv_aload_n hx hb dX1_twin_17 rfl (lv_at hl 1 rfl) ?_
  refine x_get hx hb hts hown V inX1 0 rfl rfl 2 (by decide) tw_41 rfl rfl dX1_twin_18 ?_
  refine x_put hx hb hts hown V inX1 tyX1_ok nmX1 8 rfl rfl 2 (by decide) tw_41 rfl rfl rfl rfl (Nat.le_of_ble_eq_true rfl) dX1_twin_21 (fun H locs V => ?_)
  replace V : Wd D tc A s H locs ([((ha 6), .inr (1, [.int (u.1 0), .null, .int (u.1 2), .int (u.1 3), .ref (ha 7), .ref (ha 8), .ref (ha 9), .ref (ha 10), .ref (ha 11), .ref (ha 12), .ref (ha 13)])), ((ha 7), .inl (tc 0, 10, .inl (u.2.1 4))), ((ha 8), .inl (tc 0, 10, .inl (u.2.1 5))), ((ha 9), .inl (tc 0, 10, .inl (u.2.1 6))), ((ha 10), .inl (tc 0, 10, .inl (u.2.1 7))), ((ha 11), .inl (tc 0, 10, .inl (u.2.1 8))), ((ha 12), .inl (tc 0, 10, .inl (u.2.1 9))), ((ha 13), .inl (tc 0, 10, .inl (u.2.1 10))), ((hb1 6), .inr (1, [.int (u.1 0), .null, .int (u.1 2), .int 0, .ref (hb1 7), .ref (hb1 8), .ref (hb1 9), .ref (hb1 10), .ref (hb1 11), .ref (hb1 12), .ref (hb1 13)])), ((hb1 7), .inl (tc 0, 10, .inl (fun _ => 0))), ((hb1 8), .inl (tc 0, 10, .inl (fun _ => 0))), ((hb1 9), .inl (tc 0, 10, .inl (fun _ => 0))), ((hb1 10), .inl (tc 0, 10, .inl (fun _ => 0))), ((hb1 11), .inl (tc 0, 10, .inl (fun _ => 0))), ((hb1 12), .inl (tc 0, 10, .inl (fun _ => 0))), ((hb1 13), .inl (tc 0, 10, .inl (fun _ => 0)))]) := V
  refine lv_aload_n hx hb dX1_twin_24 rfl (lv_at hl 0 rfl) ?_
  refine lv_aload_n hx hb dX1_twin_25 rfl (lv_at hl 1 rfl) ?_
  refine x_get hx hb hts hown V inX1 0 rfl rfl 3 (by decide) tw_44 rfl rfl dX1_twin_26 ?_
  refine x_put hx hb hts hown V inX1 tyX1_ok nmX1 8 rfl rfl 3 (by decide) tw_44 rfl rfl rfl rfl (Nat.le_of_ble_eq_true rfl) dX1_twin_29 (fun H locs V => ?_)
  replace V : Wd D tc A s H locs ([((ha 6), .inr (1, [.int (u.1 0), .null, .int (u.1 2), .int (u.1 3), .ref (ha 7), .ref (ha 8), .ref (ha 9), .ref (ha 10), .ref (ha 11), .ref (ha 12), .ref (ha 13)])), ((ha 7), .inl (tc 0, 10, .inl (u.2.1 4))), ((ha 8), .inl (tc 0, 10, .inl (u.2.1 5))), ((ha 9), .inl (tc 0, 10, .inl (u.2.1 6))), ((ha 10), .inl (tc 0, 10, .inl (u.2.1 7))), ((ha 11), .inl (tc 0, 10, .inl (u.2.1 8))), ((ha 12), .inl (tc 0, 10, .inl (u.2.1 9))), ((ha 13), .inl (tc 0, 10, .inl (u.2.1 10))), ((hb1 6), .inr (1, [.int (u.1 0), .null, .int (u.1 2), .int (u.1 3), .ref (hb1 7), .ref (hb1 8), .ref (hb1 9), .ref (hb1 10), .ref (hb1 11), .ref (hb1 12), .ref (hb1 13)])), ((hb1 7), .inl (tc 0, 10, .inl (fun _ => 0))), ((hb1 8), .inl (tc 0, 10, .inl (fun _ => 0))), ((hb1 9), .inl (tc 0, 10, .inl (fun _ => 0))), ((hb1 10), .inl (tc 0, 10, .inl (fun _ => 0))), ((hb1 11), .inl (tc 0, 10, .inl (fun _ => 0))), ((hb1 12), .inl (tc 0, 10, .inl (fun _ => 0))), ((hb1 13), .inl (tc 0, 10, .inl (fun _ => 0)))]) := V
  refine lv_aload_n hx hb dX1_twin_32 rfl (lv_at hl 1 rfl) ?_
  refine x_get hx hb hts hown V inX1 0 rfl rfl 4 (by decide) tw_46 rfl rfl dX1_twin_33 ?_
  refine lv_iconst (v := 0) hx hb dX1_twin_36 (by decide) ?_
  refine lv_aload_n hx hb dX1_twin_37 rfl (lv_at hl 0 rfl) ?_
  refine x_get hx hb hts hown V inX1 8 rfl rfl 4 (by decide) tw_46 rfl rfl dX1_twin_38 ?_
  refine lv_iconst (v := 0) hx hb dX1_twin_41 (by decide) ?_
  refine lv_bipush (v := 10) hx hb dX1_twin_42 (by decide) ?_
  refine x_copyI hx hb (by rw [hml]; exact hl.1.symm) hts hown tw_237 tw_239 tw_238 tw_9 V 1 9 rfl rfl (by decide) (by decide) (by decide) (by decide) (by decide) (Nat.le_of_ble_eq_true rfl) (Nat.le_of_ble_eq_true rfl) dX1_twin_44 (fun H locs V => ?_)
  replace V : Wd D tc A s H locs ([((ha 6), .inr (1, [.int (u.1 0), .null, .int (u.1 2), .int (u.1 3), .ref (ha 7), .ref (ha 8), .ref (ha 9), .ref (ha 10), .ref (ha 11), .ref (ha 12), .ref (ha 13)])), ((ha 7), .inl (tc 0, 10, .inl (u.2.1 4))), ((ha 8), .inl (tc 0, 10, .inl (u.2.1 5))), ((ha 9), .inl (tc 0, 10, .inl (u.2.1 6))), ((ha 10), .inl (tc 0, 10, .inl (u.2.1 7))), ((ha 11), .inl (tc 0, 10, .inl (u.2.1 8))), ((ha 12), .inl (tc 0, 10, .inl (u.2.1 9))), ((ha 13), .inl (tc 0, 10, .inl (u.2.1 10))), ((hb1 6), .inr (1, [.int (u.1 0), .null, .int (u.1 2), .int (u.1 3), .ref (hb1 7), .ref (hb1 8), .ref (hb1 9), .ref (hb1 10), .ref (hb1 11), .ref (hb1 12), .ref (hb1 13)])), ((hb1 7), .inl (tc 0, 10, .inl (va_cpy (u.2.1 4) (fun _ => 0) 0 0 10))), ((hb1 8), .inl (tc 0, 10, .inl (fun _ => 0))), ((hb1 9), .inl (tc 0, 10, .inl (fun _ => 0))), ((hb1 10), .inl (tc 0, 10, .inl (fun _ => 0))), ((hb1 11), .inl (tc 0, 10, .inl (fun _ => 0))), ((hb1 12), .inl (tc 0, 10, .inl (fun _ => 0))), ((hb1 13), .inl (tc 0, 10, .inl (fun _ => 0)))]) := V
  refine lv_aload_n hx hb dX1_twin_47 rfl (lv_at hl 1 rfl) ?_
  refine x_get hx hb hts hown V inX1 0 rfl rfl 5 (by decide) tw_48 rfl rfl dX1_twin_48 ?_
  refine lv_iconst (v := 0) hx hb dX1_twin_51 (by decide) ?_
  refine lv_aload_n hx hb dX1_twin_52 rfl (lv_at hl 0 rfl) ?_
  refine x_get hx hb hts hown V inX1 8 rfl rfl 5 (by decide) tw_48 rfl rfl dX1_twin_53 ?_
  refine lv_iconst (v := 0) hx hb dX1_twin_56 (by decide) ?_
  refine lv_bipush (v := 10) hx hb dX1_twin_57 (by decide) ?_
  refine x_copyI hx hb (by rw [hml]; exact hl.1.symm) hts hown tw_237 tw_239 tw_238 tw_9 V 2 10 rfl rfl (by decide) (by decide) (by decide) (by decide) (by decide) (Nat.le_of_ble_eq_true rfl) (Nat.le_of_ble_eq_true rfl) dX1_twin_59 (fun H locs V => ?_)
  replace V : Wd D tc A s H locs ([((ha 6), .inr (1, [.int (u.1 0), .null, .int (u.1 2), .int (u.1 3), .ref (ha 7), .ref (ha 8), .ref (ha 9), .ref (ha 10), .ref (ha 11), .ref (ha 12), .ref (ha 13)])), ((ha 7), .inl (tc 0, 10, .inl (u.2.1 4))), ((ha 8), .inl (tc 0, 10, .inl (u.2.1 5))), ((ha 9), .inl (tc 0, 10, .inl (u.2.1 6))), ((ha 10), .inl (tc 0, 10, .inl (u.2.1 7))), ((ha 11), .inl (tc 0, 10, .inl (u.2.1 8))), ((ha 12), .inl (tc 0, 10, .inl (u.2.1 9))), ((ha 13), .inl (tc 0, 10, .inl (u.2.1 10))), ((hb1 6), .inr (1, [.int (u.1 0), .null, .int (u.1 2), .int (u.1 3), .ref (hb1 7), .ref (hb1 8), .ref (hb1 9), .ref (hb1 10), .ref (hb1 11), .ref (hb1 12), .ref (hb1 13)])), ((hb1 7), .inl (tc 0, 10, .inl (va_cpy (u.2.1 4) (fun _ => 0) 0 0 10))), ((hb1 8), .inl (tc 0, 10, .inl (va_cpy (u.2.1 5) (fun _ => 0) 0 0 10))), ((hb1 9), .inl (tc 0, 10, .inl (fun _ => 0))), ((hb1 10), .inl (tc 0, 10, .inl (fun _ => 0))), ((hb1 11), .inl (tc 0, 10, .inl (fun _ => 0))), ((hb1 12), .inl (tc 0, 10, .inl (fun _ => 0))), ((hb1 13), .inl (tc 0, 10, .inl (fun _ => 0)))]) := V
  refine lv_aload_n hx hb dX1_twin_62 rfl (lv_at hl 1 rfl) ?_
  refine x_get hx hb hts hown V inX1 0 rfl rfl 6 (by decide) tw_51 rfl rfl dX1_twin_63 ?_
  refine lv_iconst (v := 0) hx hb dX1_twin_66 (by decide) ?_
  refine lv_aload_n hx hb dX1_twin_67 rfl (lv_at hl 0 rfl) ?_
  refine x_get hx hb hts hown V inX1 8 rfl rfl 6 (by decide) tw_51 rfl rfl dX1_twin_68 ?_
  refine lv_iconst (v := 0) hx hb dX1_twin_71 (by decide) ?_
  refine lv_bipush (v := 10) hx hb dX1_twin_72 (by decide) ?_
  refine x_copyI hx hb (by rw [hml]; exact hl.1.symm) hts hown tw_237 tw_239 tw_238 tw_9 V 3 11 rfl rfl (by decide) (by decide) (by decide) (by decide) (by decide) (Nat.le_of_ble_eq_true rfl) (Nat.le_of_ble_eq_true rfl) dX1_twin_74 (fun H locs V => ?_)
  replace V : Wd D tc A s H locs ([((ha 6), .inr (1, [.int (u.1 0), .null, .int (u.1 2), .int (u.1 3), .ref (ha 7), .ref (ha 8), .ref (ha 9), .ref (ha 10), .ref (ha 11), .ref (ha 12), .ref (ha 13)])), ((ha 7), .inl (tc 0, 10, .inl (u.2.1 4))), ((ha 8), .inl (tc 0, 10, .inl (u.2.1 5))), ((ha 9), .inl (tc 0, 10, .inl (u.2.1 6))), ((ha 10), .inl (tc 0, 10, .inl (u.2.1 7))), ((ha 11), .inl (tc 0, 10, .inl (u.2.1 8))), ((ha 12), .inl (tc 0, 10, .inl (u.2.1 9))), ((ha 13), .inl (tc 0, 10, .inl (u.2.1 10))), ((hb1 6), .inr (1, [.int (u.1 0), .null, .int (u.1 2), .int (u.1 3), .ref (hb1 7), .ref (hb1 8), .ref (hb1 9), .ref (hb1 10), .ref (hb1 11), .ref (hb1 12), .ref (hb1 13)])), ((hb1 7), .inl (tc 0, 10, .inl (va_cpy (u.2.1 4) (fun _ => 0) 0 0 10))), ((hb1 8), .inl (tc 0, 10, .inl (va_cpy (u.2.1 5) (fun _ => 0) 0 0 10))), ((hb1 9), .inl (tc 0, 10, .inl (va_cpy (u.2.1 6) (fun _ => 0) 0 0 10))), ((hb1 10), .inl (tc 0, 10, .inl (fun _ => 0))), ((hb1 11), .inl (tc 0, 10, .inl (fun _ => 0))), ((hb1 12), .inl (tc 0, 10, .inl (fun _ => 0))), ((hb1 13), .inl (tc 0, 10, .inl (fun _ => 0)))]) := V
  refine lv_aload_n hx hb dX1_twin_77 rfl (lv_at hl 1 rfl) ?_
  refine x_get hx hb hts hown V inX1 0 rfl rfl 7 (by decide) tw_53 rfl rfl dX1_twin_78 ?_
  refine lv_iconst (v := 0) hx hb dX1_twin_81 (by decide) ?_
  refine lv_aload_n hx hb dX1_twin_82 rfl (lv_at hl 0 rfl) ?_
  refine x_get hx hb hts hown V inX1 8 rfl rfl 7 (by decide) tw_53 rfl rfl dX1_twin_83 ?_
  refine lv_iconst (v := 0) hx hb dX1_twin_86 (by decide) ?_
  refine lv_bipush (v := 10) hx hb dX1_twin_87 (by decide) ?_
  refine x_copyI hx hb (by rw [hml]; exact hl.1.symm) hts hown tw_237 tw_239 tw_238 tw_9 V 4 12 rfl rfl (by decide) (by decide) (by decide) (by decide) (by decide) (Nat.le_of_ble_eq_true rfl) (Nat.le_of_ble_eq_true rfl) dX1_twin_89 (fun H locs V => ?_)
  replace V : Wd D tc A s H locs ([((ha 6), .inr (1, [.int (u.1 0), .null, .int (u.1 2), .int (u.1 3), .ref (ha 7), .ref (ha 8), .ref (ha 9), .ref (ha 10), .ref (ha 11), .ref (ha 12), .ref (ha 13)])), ((ha 7), .inl (tc 0, 10, .inl (u.2.1 4))), ((ha 8), .inl (tc 0, 10, .inl (u.2.1 5))), ((ha 9), .inl (tc 0, 10, .inl (u.2.1 6))), ((ha 10), .inl (tc 0, 10, .inl (u.2.1 7))), ((ha 11), .inl (tc 0, 10, .inl (u.2.1 8))), ((ha 12), .inl (tc 0, 10, .inl (u.2.1 9))), ((ha 13), .inl (tc 0, 10, .inl (u.2.1 10))), ((hb1 6), .inr (1, [.int (u.1 0), .null, .int (u.1 2), .int (u.1 3), .ref (hb1 7), .ref (hb1 8), .ref (hb1 9), .ref (hb1 10), .ref (hb1 11), .ref (hb1 12), .ref (hb1 13)])), ((hb1 7), .inl (tc 0, 10, .inl (va_cpy (u.2.1 4) (fun _ => 0) 0 0 10))), ((hb1 8), .inl (tc 0, 10, .inl (va_cpy (u.2.1 5) (fun _ => 0) 0 0 10))), ((hb1 9), .inl (tc 0, 10, .inl (va_cpy (u.2.1 6) (fun _ => 0) 0 0 10))), ((hb1 10), .inl (tc 0, 10, .inl (va_cpy (u.2.1 7) (fun _ => 0) 0 0 10))), ((hb1 11), .inl (tc 0, 10, .inl (fun _ => 0))), ((hb1 12), .inl (tc 0, 10, .inl (fun _ => 0))), ((hb1 13), .inl (tc 0, 10, .inl (fun _ => 0)))]) := V
  refine lv_aload_n hx hb dX1_twin_92 rfl (lv_at hl 1 rfl) ?_
  refine x_get hx hb hts hown V inX1 0 rfl rfl 8 (by decide) tw_55 rfl rfl dX1_twin_93 ?_
  refine lv_iconst (v := 0) hx hb dX1_twin_96 (by decide) ?_
  refine lv_aload_n hx hb dX1_twin_97 rfl (lv_at hl 0 rfl) ?_
  refine x_get hx hb hts hown V inX1 8 rfl rfl 8 (by decide) tw_55 rfl rfl dX1_twin_98 ?_
  refine lv_iconst (v := 0) hx hb dX1_twin_101 (by decide) ?_
  refine lv_bipush (v := 10) hx hb dX1_twin_102 (by decide) ?_
  refine x_copyI hx hb (by rw [hml]; exact hl.1.symm) hts hown tw_237 tw_239 tw_238 tw_9 V 5 13 rfl rfl (by decide) (by decide) (by decide) (by decide) (by decide) (Nat.le_of_ble_eq_true rfl) (Nat.le_of_ble_eq_true rfl) dX1_twin_104 (fun H locs V => ?_)
  replace V : Wd D tc A s H locs ([((ha 6), .inr (1, [.int (u.1 0), .null, .int (u.1 2), .int (u.1 3), .ref (ha 7), .ref (ha 8), .ref (ha 9), .ref (ha 10), .ref (ha 11), .ref (ha 12), .ref (ha 13)])), ((ha 7), .inl (tc 0, 10, .inl (u.2.1 4))), ((ha 8), .inl (tc 0, 10, .inl (u.2.1 5))), ((ha 9), .inl (tc 0, 10, .inl (u.2.1 6))), ((ha 10), .inl (tc 0, 10, .inl (u.2.1 7))), ((ha 11), .inl (tc 0, 10, .inl (u.2.1 8))), ((ha 12), .inl (tc 0, 10, .inl (u.2.1 9))), ((ha 13), .inl (tc 0, 10, .inl (u.2.1 10))), ((hb1 6), .inr (1, [.int (u.1 0), .null, .int (u.1 2), .int (u.1 3), .ref (hb1 7), .ref (hb1 8), .ref (hb1 9), .ref (hb1 10), .ref (hb1 11), .ref (hb1 12), .ref (hb1 13)])), ((hb1 7), .inl (tc 0, 10, .inl (va_cpy (u.2.1 4) (fun _ => 0) 0 0 10))), ((hb1 8), .inl (tc 0, 10, .inl (va_cpy (u.2.1 5) (fun _ => 0) 0 0 10))), ((hb1 9), .inl (tc 0, 10, .inl (va_cpy (u.2.1 6) (fun _ => 0) 0 0 10))), ((hb1 10), .inl (tc 0, 10, .inl (va_cpy (u.2.1 7) (fun _ => 0) 0 0 10))), ((hb1 11), .inl (tc 0, 10, .inl (va_cpy (u.2.1 8) (fun _ => 0) 0 0 10))), ((hb1 12), .inl (tc 0, 10, .inl (fun _ => 0))), ((hb1 13), .inl (tc 0, 10, .inl (fun _ => 0)))]) := V
  refine lv_aload_n hx hb dX1_twin_107 rfl (lv_at hl 1 rfl) ?_
  refine x_get hx hb hts hown V inX1 0 rfl rfl 9 (by decide) tw_57 rfl rfl dX1_twin_108 ?_
  refine lv_iconst (v := 0) hx hb dX1_twin_111 (by decide) ?_
  refine lv_aload_n hx hb dX1_twin_112 rfl (lv_at hl 0 rfl) ?_
  refine x_get hx hb hts hown V inX1 8 rfl rfl 9 (by decide) tw_57 rfl rfl dX1_twin_113 ?_
  refine lv_iconst (v := 0) hx hb dX1_twin_116 (by decide) ?_
  refine lv_bipush (v := 10) hx hb dX1_twin_117 (by decide) ?_
  refine x_copyI hx hb (by rw [hml]; exact hl.1.symm) hts hown tw_237 tw_239 tw_238 tw_9 V 6 14 rfl rfl (by decide) (by decide) (by decide) (by decide) (by decide) (Nat.le_of_ble_eq_true rfl) (Nat.le_of_ble_eq_true rfl) dX1_twin_119 (fun H locs V => ?_)
  replace V : Wd D tc A s H locs ([((ha 6), .inr (1, [.int (u.1 0), .null, .int (u.1 2), .int (u.1 3), .ref (ha 7), .ref (ha 8), .ref (ha 9), .ref (ha 10), .ref (ha 11), .ref (ha 12), .ref (ha 13)])), ((ha 7), .inl (tc 0, 10, .inl (u.2.1 4))), ((ha 8), .inl (tc 0, 10, .inl (u.2.1 5))), ((ha 9), .inl (tc 0, 10, .inl (u.2.1 6))), ((ha 10), .inl (tc 0, 10, .inl (u.2.1 7))), ((ha 11), .inl (tc 0, 10, .inl (u.2.1 8))), ((ha 12), .inl (tc 0, 10, .inl (u.2.1 9))), ((ha 13), .inl (tc 0, 10, .inl (u.2.1 10))), ((hb1 6), .inr (1, [.int (u.1 0), .null, .int (u.1 2), .int (u.1 3), .ref (hb1 7), .ref (hb1 8), .ref (hb1 9), .ref (hb1 10), .ref (hb1 11), .ref (hb1 12), .ref (hb1 13)])), ((hb1 7), .inl (tc 0, 10, .inl (va_cpy (u.2.1 4) (fun _ => 0) 0 0 10))), ((hb1 8), .inl (tc 0, 10, .inl (va_cpy (u.2.1 5) (fun _ => 0) 0 0 10))), ((hb1 9), .inl (tc 0, 10, .inl (va_cpy (u.2.1 6) (fun _ => 0) 0 0 10))), ((hb1 10), .inl (tc 0, 10, .inl (va_cpy (u.2.1 7) (fun _ => 0) 0 0 10))), ((hb1 11), .inl (tc 0, 10, .inl (va_cpy (u.2.1 8) (fun _ => 0) 0 0 10))), ((hb1 12), .inl (tc 0, 10, .inl (va_cpy (u.2.1 9) (fun _ => 0) 0 0 10))), ((hb1 13), .inl (tc 0, 10, .inl (fun _ => 0)))]) := V
  refine lv_aload_n hx hb dX1_twin_122 rfl (lv_at hl 1 rfl) ?_
  refine x_get hx hb hts hown V inX1 0 rfl rfl 10 (by decide) tw_59 rfl rfl dX1_twin_123 ?_
  refine lv_iconst (v := 0) hx hb dX1_twin_126 (by decide) ?_
  refine lv_aload_n hx hb dX1_twin_127 rfl (lv_at hl 0 rfl) ?_
  refine x_get hx hb hts hown V inX1 8 rfl rfl 10 (by decide) tw_59 rfl rfl dX1_twin_128 ?_
  refine lv_iconst (v := 0) hx hb dX1_twin_131 (by decide) ?_
  refine lv_bipush (v := 10) hx hb dX1_twin_132 (by decide) ?_
  refine x_copyI hx hb (by rw [hml]; exact hl.1.symm) hts hown tw_237 tw_239 tw_238 tw_9 V 7 15 rfl rfl (by decide) (by decide) (by decide) (by decide) (by decide) (Nat.le_of_ble_eq_true rfl) (Nat.le_of_ble_eq_true rfl) dX1_twin_134 (fun H locs V => ?_)
  replace V : Wd D tc A s H locs ([((ha 6), .inr (1, [.int (u.1 0), .null, .int (u.1 2), .int (u.1 3), .ref (ha 7), .ref (ha 8), .ref (ha 9), .ref (ha 10), .ref (ha 11), .ref (ha 12), .ref (ha 13)])), ((ha 7), .inl (tc 0, 10, .inl (u.2.1 4))), ((ha 8), .inl (tc 0, 10, .inl (u.2.1 5))), ((ha 9), .inl (tc 0, 10, .inl (u.2.1 6))), ((ha 10), .inl (tc 0, 10, .inl (u.2.1 7))), ((ha 11), .inl (tc 0, 10, .inl (u.2.1 8))), ((ha 12), .inl (tc 0, 10, .inl (u.2.1 9))), ((ha 13), .inl (tc 0, 10, .inl (u.2.1 10))), ((hb1 6), .inr (1, [.int (u.1 0), .null, .int (u.1 2), .int (u.1 3), .ref (hb1 7), .ref (hb1 8), .ref (hb1 9), .ref (hb1 10), .ref (hb1 11), .ref (hb1 12), .ref (hb1 13)])), ((hb1 7), .inl (tc 0, 10, .inl (va_cpy (u.2.1 4) (fun _ => 0) 0 0 10))), ((hb1 8), .inl (tc 0, 10, .inl (va_cpy (u.2.1 5) (fun _ => 0) 0 0 10))), ((hb1 9), .inl (tc 0, 10, .inl (va_cpy (u.2.1 6) (fun _ => 0) 0 0 10))), ((hb1 10), .inl (tc 0, 10, .inl (va_cpy (u.2.1 7) (fun _ => 0) 0 0 10))), ((hb1 11), .inl (tc 0, 10, .inl (va_cpy (u.2.1 8) (fun _ => 0) 0 0 10))), ((hb1 12), .inl (tc 0, 10, .inl (va_cpy (u.2.1 9) (fun _ => 0) 0 0 10))), ((hb1 13), .inl (tc 0, 10, .inl (va_cpy (u.2.1 10) (fun _ => 0) 0 0 10)))]) := V
  refine lv_aload_n hx hb dX1_twin_137 rfl (lv_at hl 0 rfl) ?_
  exact x_areti (RT := _) (Nat.le_of_ble_eq_true rfl) (Nat.le_of_ble_eq_true rfl) C hA (Or.inl ⟨_, rfl⟩) (Or.inr ⟨_, rfl⟩) ⟨hb1, rfl, rfl⟩ V dX1_twin_138)

set_option maxHeartbeats 4000000 in
set_option maxRecDepth 100000 in
theorem kc_X1_twin_R (l : Launch) (D : va_G) (tc : Nat → ClassId) (ha : Nat → Nat) (tb0 : Nat) (u : St) : MetG l D tc yX1_twin cX1_twin 2 (some (.object "HistoryCourt$History")) 2 8 81 60 [.ref (ha 6)] (Hw tc ha (.ref tb0) u) (fun v w => ∃ hb1 : Nat → Nat, v = some (.ref (hb1 6)) ∧ w = Hw tc ha (.ref tb0) u ++ Hw tc hb1 (.ref tb0) (twS u)) :=
  x_ent (by decide) (own := RX1) rfl (Nat.le_of_ble_eq_true rfl) (fun p e s m args below meth c A sz ls hA _ hin C V hl => by
  obtain ⟨hx, hb, hr, hml, hown, hts, hlk, hN⟩ := id C
  replace hin := hin rfl
  try replace hin := hin rfl
  have hl : lv_has ls 2 [(0, .ref (ha 6))] := hl
  generalize s.heap = H at V ⊢
  generalize ([] : List Loc) = locs at V ⊢
  refine x_new (fs := [.int 0, .null, .int 0, .int 0, .null, .null, .null, .null, .null, .null, .null]) hx hb hts hown V 1 inX1 tyX1_ok tw_235 tw_31 tw_3 rfl (fun j hj => by rcases (show j = 0 ∨ j = 1 ∨ j = 2 ∨ j = 3 ∨ j = 4 ∨ j = 5 ∨ j = 6 ∨ j = 7 ∨ j = 8 ∨ j = 9 ∨ j = 10 by omega) with rfl | rfl | rfl | rfl | rfl | rfl | rfl | rfl | rfl | rfl | rfl <;> rfl) (Nat.le_of_ble_eq_true rfl) (Nat.le_of_ble_eq_true rfl) dX1_twin_0 (fun q1 H V => ?_)
  replace V : Wd D tc A s H locs ([((ha 6), .inr (1, [.int (u.1 0), .ref tb0, .int (u.1 2), .int (u.1 3), .ref (ha 7), .ref (ha 8), .ref (ha 9), .ref (ha 10), .ref (ha 11), .ref (ha 12), .ref (ha 13)])), ((ha 7), .inl (tc 0, 10, .inl (u.2.1 4))), ((ha 8), .inl (tc 0, 10, .inl (u.2.1 5))), ((ha 9), .inl (tc 0, 10, .inl (u.2.1 6))), ((ha 10), .inl (tc 0, 10, .inl (u.2.1 7))), ((ha 11), .inl (tc 0, 10, .inl (u.2.1 8))), ((ha 12), .inl (tc 0, 10, .inl (u.2.1 9))), ((ha 13), .inl (tc 0, 10, .inl (u.2.1 10))), (q1, .inr (1, [.int 0, .null, .int 0, .int 0, .null, .null, .null, .null, .null, .null, .null]))]) := V
  refine lv_dup hx hb dX1_twin_3 rfl ?_
  refine lv_aload_n hx hb dX1_twin_4 rfl (lv_at hl 0 rfl) ?_
  refine x_get hx hb hts hown V inX1 0 rfl rfl 0 (by decide) tw_36 rfl rfl dX1_twin_5 ?_
  refine lv_aload_n hx hb dX1_twin_8 rfl (lv_at hl 0 rfl) ?_
  refine x_get hx hb hts hown V inX1 0 rfl rfl 1 (by decide) tw_39 rfl rfl dX1_twin_9 ?_
  replace V : Wd D tc A s H locs ([((ha 6), .inr (1, [.int (u.1 0), .ref tb0, .int (u.1 2), .int (u.1 3), .ref (ha 7), .ref (ha 8), .ref (ha 9), .ref (ha 10), .ref (ha 11), .ref (ha 12), .ref (ha 13)])), ((ha 7), .inl (tc 0, 10, .inl (u.2.1 4))), ((ha 8), .inl (tc 0, 10, .inl (u.2.1 5))), ((ha 9), .inl (tc 0, 10, .inl (u.2.1 6))), ((ha 10), .inl (tc 0, 10, .inl (u.2.1 7))), ((ha 11), .inl (tc 0, 10, .inl (u.2.1 8))), ((ha 12), .inl (tc 0, 10, .inl (u.2.1 9))), ((ha 13), .inl (tc 0, 10, .inl (u.2.1 10)))] ++ ([(q1, .inr (1, [.int 0, .null, .int 0, .int 0, .null, .null, .null, .null, .null, .null, .null]))] ++ [])) := V
  refine x_midG (w0 := [((ha 6), .inr (1, [.int (u.1 0), .ref tb0, .int (u.1 2), .int (u.1 3), .ref (ha 7), .ref (ha 8), .ref (ha 9), .ref (ha 10), .ref (ha 11), .ref (ha 12), .ref (ha 13)])), ((ha 7), .inl (tc 0, 10, .inl (u.2.1 4))), ((ha 8), .inl (tc 0, 10, .inl (u.2.1 5))), ((ha 9), .inl (tc 0, 10, .inl (u.2.1 6))), ((ha 10), .inl (tc 0, 10, .inl (u.2.1 7))), ((ha 11), .inl (tc 0, 10, .inl (u.2.1 8))), ((ha 12), .inl (tc 0, 10, .inl (u.2.1 9))), ((ha 13), .inl (tc 0, 10, .inl (u.2.1 10)))]) (wr := []) V (x_runI (n := 2) (rest := [.ref q1]) C V _ (mid_map _ _ _) (mid_nd _ _) (kc_X1_init_R l D tc q1 (u.1 0) tb0) tw_236 tw_33 tw_3 tw_34 rfl (by decide +kernel) ⟨(Nat.le_of_ble_eq_true rfl), (Nat.le_of_ble_eq_true rfl)⟩ ⟨(Nat.le_of_ble_eq_true rfl), (Nat.le_of_ble_eq_true rfl)⟩ rfl hl.1 rfl (Nat.le_of_ble_eq_true rfl) dX1_twin_12) (fun v0 w1 H locs hRT _ V2 => ?_)
  clear V
  obtain ⟨rfl, hb1, rfl, hq9⟩ := hRT
  subst hq9
  have V : Wd D tc A s H locs ([((ha 6), .inr (1, [.int (u.1 0), .ref tb0, .int (u.1 2), .int (u.1 3), .ref (ha 7), .ref (ha 8), .ref (ha 9), .ref (ha 10), .ref (ha 11), .ref (ha 12), .ref (ha 13)])), ((ha 7), .inl (tc 0, 10, .inl (u.2.1 4))), ((ha 8), .inl (tc 0, 10, .inl (u.2.1 5))), ((ha 9), .inl (tc 0, 10, .inl (u.2.1 6))), ((ha 10), .inl (tc 0, 10, .inl (u.2.1 7))), ((ha 11), .inl (tc 0, 10, .inl (u.2.1 8))), ((ha 12), .inl (tc 0, 10, .inl (u.2.1 9))), ((ha 13), .inl (tc 0, 10, .inl (u.2.1 10))), ((hb1 6), .inr (1, [.int (u.1 0), .ref tb0, .int 0, .int 0, .ref (hb1 7), .ref (hb1 8), .ref (hb1 9), .ref (hb1 10), .ref (hb1 11), .ref (hb1 12), .ref (hb1 13)])), ((hb1 7), .inl (tc 0, 10, .inl (fun _ => 0))), ((hb1 8), .inl (tc 0, 10, .inl (fun _ => 0))), ((hb1 9), .inl (tc 0, 10, .inl (fun _ => 0))), ((hb1 10), .inl (tc 0, 10, .inl (fun _ => 0))), ((hb1 11), .inl (tc 0, 10, .inl (fun _ => 0))), ((hb1 12), .inl (tc 0, 10, .inl (fun _ => 0))), ((hb1 13), .inl (tc 0, 10, .inl (fun _ => 0)))]) := V2
  refine lv_astore_n (lv' := [(1, .ref (hb1 6)), (0, .ref (ha 6))]) hx hb dX1_twin_15 rfl hl (by decide) rfl (fun ls hl => ?_)
  refine lv_aload_n hx hb dX1_twin_16 rfl (lv_at hl 0 rfl) ?_
  refine lv_aload_n hx hb dX1_twin_17 rfl (lv_at hl 1 rfl) ?_
  refine x_get hx hb hts hown V inX1 0 rfl rfl 2 (by decide) tw_41 rfl rfl dX1_twin_18 ?_
  refine x_put hx hb hts hown V inX1 tyX1_ok nmX1 8 rfl rfl 2 (by decide) tw_41 rfl rfl rfl rfl (Nat.le_of_ble_eq_true rfl) dX1_twin_21 (fun H locs V => ?_)
  replace V : Wd D tc A s H locs ([((ha 6), .inr (1, [.int (u.1 0), .ref tb0, .int (u.1 2), .int (u.1 3), .ref (ha 7), .ref (ha 8), .ref (ha 9), .ref (ha 10), .ref (ha 11), .ref (ha 12), .ref (ha 13)])), ((ha 7), .inl (tc 0, 10, .inl (u.2.1 4))), ((ha 8), .inl (tc 0, 10, .inl (u.2.1 5))), ((ha 9), .inl (tc 0, 10, .inl (u.2.1 6))), ((ha 10), .inl (tc 0, 10, .inl (u.2.1 7))), ((ha 11), .inl (tc 0, 10, .inl (u.2.1 8))), ((ha 12), .inl (tc 0, 10, .inl (u.2.1 9))), ((ha 13), .inl (tc 0, 10, .inl (u.2.1 10))), ((hb1 6), .inr (1, [.int (u.1 0), .ref tb0, .int (u.1 2), .int 0, .ref (hb1 7), .ref (hb1 8), .ref (hb1 9), .ref (hb1 10), .ref (hb1 11), .ref (hb1 12), .ref (hb1 13)])), ((hb1 7), .inl (tc 0, 10, .inl (fun _ => 0))), ((hb1 8), .inl (tc 0, 10, .inl (fun _ => 0))), ((hb1 9), .inl (tc 0, 10, .inl (fun _ => 0))), ((hb1 10), .inl (tc 0, 10, .inl (fun _ => 0))), ((hb1 11), .inl (tc 0, 10, .inl (fun _ => 0))), ((hb1 12), .inl (tc 0, 10, .inl (fun _ => 0))), ((hb1 13), .inl (tc 0, 10, .inl (fun _ => 0)))]) := V
  refine lv_aload_n hx hb dX1_twin_24 rfl (lv_at hl 0 rfl) ?_
  refine lv_aload_n hx hb dX1_twin_25 rfl (lv_at hl 1 rfl) ?_
  refine x_get hx hb hts hown V inX1 0 rfl rfl 3 (by decide) tw_44 rfl rfl dX1_twin_26 ?_
  refine x_put hx hb hts hown V inX1 tyX1_ok nmX1 8 rfl rfl 3 (by decide) tw_44 rfl rfl rfl rfl (Nat.le_of_ble_eq_true rfl) dX1_twin_29 (fun H locs V => ?_)
  replace V : Wd D tc A s H locs ([((ha 6), .inr (1, [.int (u.1 0), .ref tb0, .int (u.1 2), .int (u.1 3), .ref (ha 7), .ref (ha 8), .ref (ha 9), .ref (ha 10), .ref (ha 11), .ref (ha 12), .ref (ha 13)])), ((ha 7), .inl (tc 0, 10, .inl (u.2.1 4))), ((ha 8), .inl (tc 0, 10, .inl (u.2.1 5))), ((ha 9), .inl (tc 0, 10, .inl (u.2.1 6))), ((ha 10), .inl (tc 0, 10, .inl (u.2.1 7))), ((ha 11), .inl (tc 0, 10, .inl (u.2.1 8))), ((ha 12), .inl (tc 0, 10, .inl (u.2.1 9))), ((ha 13), .inl (tc 0, 10, .inl (u.2.1 10))), ((hb1 6), .inr (1, [.int (u.1 0), .ref tb0, .int (u.1 2), .int (u.1 3), .ref (hb1 7), .ref (hb1 8), .ref (hb1 9), .ref (hb1 10), .ref (hb1 11), .ref (hb1 12), .ref (hb1 13)])), ((hb1 7), .inl (tc 0, 10, .inl (fun _ => 0))), ((hb1 8), .inl (tc 0, 10, .inl (fun _ => 0))), ((hb1 9), .inl (tc 0, 10, .inl (fun _ => 0))), ((hb1 10), .inl (tc 0, 10, .inl (fun _ => 0))), ((hb1 11), .inl (tc 0, 10, .inl (fun _ => 0))), ((hb1 12), .inl (tc 0, 10, .inl (fun _ => 0))), ((hb1 13), .inl (tc 0, 10, .inl (fun _ => 0)))]) := V
  refine lv_aload_n hx hb dX1_twin_32 rfl (lv_at hl 1 rfl) ?_
  refine x_get hx hb hts hown V inX1 0 rfl rfl 4 (by decide) tw_46 rfl rfl dX1_twin_33 ?_
  refine lv_iconst (v := 0) hx hb dX1_twin_36 (by decide) ?_
  refine lv_aload_n hx hb dX1_twin_37 rfl (lv_at hl 0 rfl) ?_
  refine x_get hx hb hts hown V inX1 8 rfl rfl 4 (by decide) tw_46 rfl rfl dX1_twin_38 ?_
  refine lv_iconst (v := 0) hx hb dX1_twin_41 (by decide) ?_
  refine lv_bipush (v := 10) hx hb dX1_twin_42 (by decide) ?_
  refine x_copyI hx hb (by rw [hml]; exact hl.1.symm) hts hown tw_237 tw_239 tw_238 tw_9 V 1 9 rfl rfl (by decide) (by decide) (by decide) (by decide) (by decide) (Nat.le_of_ble_eq_true rfl) (Nat.le_of_ble_eq_true rfl) dX1_twin_44 (fun H locs V => ?_)
  replace V : Wd D tc A s H locs ([((ha 6), .inr (1, [.int (u.1 0), .ref tb0, .int (u.1 2), .int (u.1 3), .ref (ha 7), .ref (ha 8), .ref (ha 9), .ref (ha 10), .ref (ha 11), .ref (ha 12), .ref (ha 13)])), ((ha 7), .inl (tc 0, 10, .inl (u.2.1 4))), ((ha 8), .inl (tc 0, 10, .inl (u.2.1 5))), ((ha 9), .inl (tc 0, 10, .inl (u.2.1 6))), ((ha 10), .inl (tc 0, 10, .inl (u.2.1 7))), ((ha 11), .inl (tc 0, 10, .inl (u.2.1 8))), ((ha 12), .inl (tc 0, 10, .inl (u.2.1 9))), ((ha 13), .inl (tc 0, 10, .inl (u.2.1 10))), ((hb1 6), .inr (1, [.int (u.1 0), .ref tb0, .int (u.1 2), .int (u.1 3), .ref (hb1 7), .ref (hb1 8), .ref (hb1 9), .ref (hb1 10), .ref (hb1 11), .ref (hb1 12), .ref (hb1 13)])), ((hb1 7), .inl (tc 0, 10, .inl (va_cpy (u.2.1 4) (fun _ => 0) 0 0 10))), ((hb1 8), .inl (tc 0, 10, .inl (fun _ => 0))), ((hb1 9), .inl (tc 0, 10, .inl (fun _ => 0))), ((hb1 10), .inl (tc 0, 10, .inl (fun _ => 0))), ((hb1 11), .inl (tc 0, 10, .inl (fun _ => 0))), ((hb1 12), .inl (tc 0, 10, .inl (fun _ => 0))), ((hb1 13), .inl (tc 0, 10, .inl (fun _ => 0)))]) := V
  refine lv_aload_n hx hb dX1_twin_47 rfl (lv_at hl 1 rfl) ?_
  refine x_get hx hb hts hown V inX1 0 rfl rfl 5 (by decide) tw_48 rfl rfl dX1_twin_48 ?_
  refine lv_iconst (v := 0) hx hb dX1_twin_51 (by decide) ?_
  refine lv_aload_n hx hb dX1_twin_52 rfl (lv_at hl 0 rfl) ?_
  refine x_get hx hb hts hown V inX1 8 rfl rfl 5 (by decide) tw_48 rfl rfl dX1_twin_53 ?_
  refine lv_iconst (v := 0) hx hb dX1_twin_56 (by decide) ?_
  refine lv_bipush (v := 10) hx hb dX1_twin_57 (by decide) ?_
  refine x_copyI hx hb (by rw [hml]; exact hl.1.symm) hts hown tw_237 tw_239 tw_238 tw_9 V 2 10 rfl rfl (by decide) (by decide) (by decide) (by decide) (by decide) (Nat.le_of_ble_eq_true rfl) (Nat.le_of_ble_eq_true rfl) dX1_twin_59 (fun H locs V => ?_)
  replace V : Wd D tc A s H locs ([((ha 6), .inr (1, [.int (u.1 0), .ref tb0, .int (u.1 2), .int (u.1 3), .ref (ha 7), .ref (ha 8), .ref (ha 9), .ref (ha 10), .ref (ha 11), .ref (ha 12), .ref (ha 13)])), ((ha 7), .inl (tc 0, 10, .inl (u.2.1 4))), ((ha 8), .inl (tc 0, 10, .inl (u.2.1 5))), ((ha 9), .inl (tc 0, 10, .inl (u.2.1 6))), ((ha 10), .inl (tc 0, 10, .inl (u.2.1 7))), ((ha 11), .inl (tc 0, 10, .inl (u.2.1 8))), ((ha 12), .inl (tc 0, 10, .inl (u.2.1 9))), ((ha 13), .inl (tc 0, 10, .inl (u.2.1 10))), ((hb1 6), .inr (1, [.int (u.1 0), .ref tb0, .int (u.1 2), .int (u.1 3), .ref (hb1 7), .ref (hb1 8), .ref (hb1 9), .ref (hb1 10), .ref (hb1 11), .ref (hb1 12), .ref (hb1 13)])), ((hb1 7), .inl (tc 0, 10, .inl (va_cpy (u.2.1 4) (fun _ => 0) 0 0 10))), ((hb1 8), .inl (tc 0, 10, .inl (va_cpy (u.2.1 5) (fun _ => 0) 0 0 10))), ((hb1 9), .inl (tc 0, 10, .inl (fun _ => 0))), ((hb1 10), .inl (tc 0, 10, .inl (fun _ => 0))), ((hb1 11), .inl (tc 0, 10, .inl (fun _ => 0))), ((hb1 12), .inl (tc 0, 10, .inl (fun _ => 0))), ((hb1 13), .inl (tc 0, 10, .inl (fun _ => 0)))]) := V
  refine lv_aload_n hx hb dX1_twin_62 rfl (lv_at hl 1 rfl) ?_
  refine x_get hx hb hts hown V inX1 0 rfl rfl 6 (by decide) tw_51 rfl rfl dX1_twin_63 ?_
  refine lv_iconst (v := 0) hx hb dX1_twin_66 (by decide) ?_
  refine lv_aload_n hx hb dX1_twin_67 rfl (lv_at hl 0 rfl) ?_
  refine x_get hx hb hts hown V inX1 8 rfl rfl 6 (by decide) tw_51 rfl rfl dX1_twin_68 ?_
  refine lv_iconst (v := 0) hx hb dX1_twin_71 (by decide) ?_
  refine lv_bipush (v := 10) hx hb dX1_twin_72 (by decide) ?_
  refine x_copyI hx hb (by rw [hml]; exact hl.1.symm) hts hown tw_237 tw_239 tw_238 tw_9 V 3 11 rfl rfl (by decide) (by decide) (by decide) (by decide) (by decide) (Nat.le_of_ble_eq_true rfl) (Nat.le_of_ble_eq_true rfl) dX1_twin_74 (fun H locs V => ?_)
  replace V : Wd D tc A s H locs ([((ha 6), .inr (1, [.int (u.1 0), .ref tb0, .int (u.1 2), .int (u.1 3), .ref (ha 7), .ref (ha 8), .ref (ha 9), .ref (ha 10), .ref (ha 11), .ref (ha 12), .ref (ha 13)])), ((ha 7), .inl (tc 0, 10, .inl (u.2.1 4))), ((ha 8), .inl (tc 0, 10, .inl (u.2.1 5))), ((ha 9), .inl (tc 0, 10, .inl (u.2.1 6))), ((ha 10), .inl (tc 0, 10, .inl (u.2.1 7))), ((ha 11), .inl (tc 0, 10, .inl (u.2.1 8))), ((ha 12), .inl (tc 0, 10, .inl (u.2.1 9))), ((ha 13), .inl (tc 0, 10, .inl (u.2.1 10))), ((hb1 6), .inr (1, [.int (u.1 0), .ref tb0, .int (u.1 2), .int (u.1 3), .ref (hb1 7), .ref (hb1 8), .ref (hb1 9), .ref (hb1 10), .ref (hb1 11), .ref (hb1 12), .ref (hb1 13)])), ((hb1 7), .inl (tc 0, 10, .inl (va_cpy (u.2.1 4) (fun _ => 0) 0 0 10))), ((hb1 8), .inl (tc 0, 10, .inl (va_cpy (u.2.1 5) (fun _ => 0) 0 0 10))), ((hb1 9), .inl (tc 0, 10, .inl (va_cpy (u.2.1 6) (fun _ => 0) 0 0 10))), ((hb1 10), .inl (tc 0, 10, .inl (fun _ => 0))), ((hb1 11), .inl (tc 0, 10, .inl (fun _ => 0))), ((hb1 12), .inl (tc 0, 10, .inl (fun _ => 0))), ((hb1 13), .inl (tc 0, 10, .inl (fun _ => 0)))]) := V
  refine lv_aload_n hx hb dX1_twin_77 rfl (lv_at hl 1 rfl) ?_
  refine x_get hx hb hts hown V inX1 0 rfl rfl 7 (by decide) tw_53 rfl rfl dX1_twin_78 ?_
  refine lv_iconst (v := 0) hx hb dX1_twin_81 (by decide) ?_
  refine lv_aload_n hx hb dX1_twin_82 rfl (lv_at hl 0 rfl) ?_
  refine x_get hx hb hts hown V inX1 8 rfl rfl 7 (by decide) tw_53 rfl rfl dX1_twin_83 ?_
  refine lv_iconst (v := 0) hx hb dX1_twin_86 (by decide) ?_
  refine lv_bipush (v := 10) hx hb dX1_twin_87 (by decide) ?_
  refine x_copyI hx hb (by rw [hml]; exact hl.1.symm) hts hown tw_237 tw_239 tw_238 tw_9 V 4 12 rfl rfl (by decide) (by decide) (by decide) (by decide) (by decide) (Nat.le_of_ble_eq_true rfl) (Nat.le_of_ble_eq_true rfl) dX1_twin_89 (fun H locs V => ?_)
  replace V : Wd D tc A s H locs ([((ha 6), .inr (1, [.int (u.1 0), .ref tb0, .int (u.1 2), .int (u.1 3), .ref (ha 7), .ref (ha 8), .ref (ha 9), .ref (ha 10), .ref (ha 11), .ref (ha 12), .ref (ha 13)])), ((ha 7), .inl (tc 0, 10, .inl (u.2.1 4))), ((ha 8), .inl (tc 0, 10, .inl (u.2.1 5))), ((ha 9), .inl (tc 0, 10, .inl (u.2.1 6))), ((ha 10), .inl (tc 0, 10, .inl (u.2.1 7))), ((ha 11), .inl (tc 0, 10, .inl (u.2.1 8))), ((ha 12), .inl (tc 0, 10, .inl (u.2.1 9))), ((ha 13), .inl (tc 0, 10, .inl (u.2.1 10))), ((hb1 6), .inr (1, [.int (u.1 0), .ref tb0, .int (u.1 2), .int (u.1 3), .ref (hb1 7), .ref (hb1 8), .ref (hb1 9), .ref (hb1 10), .ref (hb1 11), .ref (hb1 12), .ref (hb1 13)])), ((hb1 7), .inl (tc 0, 10, .inl (va_cpy (u.2.1 4) (fun _ => 0) 0 0 10))), ((hb1 8), .inl (tc 0, 10, .inl (va_cpy (u.2.1 5) (fun _ => 0) 0 0 10))), ((hb1 9), .inl (tc 0, 10, .inl (va_cpy (u.2.1 6) (fun _ => 0) 0 0 10))), ((hb1 10), .inl (tc 0, 10, .inl (va_cpy (u.2.1 7) (fun _ => 0) 0 0 10))), ((hb1 11), .inl (tc 0, 10, .inl (fun _ => 0))), ((hb1 12), .inl (tc 0, 10, .inl (fun _ => 0))), ((hb1 13), .inl (tc 0, 10, .inl (fun _ => 0)))]) := V
  refine lv_aload_n hx hb dX1_twin_92 rfl (lv_at hl 1 rfl) ?_
  refine x_get hx hb hts hown V inX1 0 rfl rfl 8 (by decide) tw_55 rfl rfl dX1_twin_93 ?_
  refine lv_iconst (v := 0) hx hb dX1_twin_96 (by decide) ?_
  refine lv_aload_n hx hb dX1_twin_97 rfl (lv_at hl 0 rfl) ?_
  refine x_get hx hb hts hown V inX1 8 rfl rfl 8 (by decide) tw_55 rfl rfl dX1_twin_98 ?_
  refine lv_iconst (v := 0) hx hb dX1_twin_101 (by decide) ?_
  refine lv_bipush (v := 10) hx hb dX1_twin_102 (by decide) ?_
  refine x_copyI hx hb (by rw [hml]; exact hl.1.symm) hts hown tw_237 tw_239 tw_238 tw_9 V 5 13 rfl rfl (by decide) (by decide) (by decide) (by decide) (by decide) (Nat.le_of_ble_eq_true rfl) (Nat.le_of_ble_eq_true rfl) dX1_twin_104 (fun H locs V => ?_)
  replace V : Wd D tc A s H locs ([((ha 6), .inr (1, [.int (u.1 0), .ref tb0, .int (u.1 2), .int (u.1 3), .ref (ha 7), .ref (ha 8), .ref (ha 9), .ref (ha 10), .ref (ha 11), .ref (ha 12), .ref (ha 13)])), ((ha 7), .inl (tc 0, 10, .inl (u.2.1 4))), ((ha 8), .inl (tc 0, 10, .inl (u.2.1 5))), ((ha 9), .inl (tc 0, 10, .inl (u.2.1 6))), ((ha 10), .inl (tc 0, 10, .inl (u.2.1 7))), ((ha 11), .inl (tc 0, 10, .inl (u.2.1 8))), ((ha 12), .inl (tc 0, 10, .inl (u.2.1 9))), ((ha 13), .inl (tc 0, 10, .inl (u.2.1 10))), ((hb1 6), .inr (1, [.int (u.1 0), .ref tb0, .int (u.1 2), .int (u.1 3), .ref (hb1 7), .ref (hb1 8), .ref (hb1 9), .ref (hb1 10), .ref (hb1 11), .ref (hb1 12), .ref (hb1 13)])), ((hb1 7), .inl (tc 0, 10, .inl (va_cpy (u.2.1 4) (fun _ => 0) 0 0 10))), ((hb1 8), .inl (tc 0, 10, .inl (va_cpy (u.2.1 5) (fun _ => 0) 0 0 10))), ((hb1 9), .inl (tc 0, 10, .inl (va_cpy (u.2.1 6) (fun _ => 0) 0 0 10))), ((hb1 10), .inl (tc 0, 10, .inl (va_cpy (u.2.1 7) (fun _ => 0) 0 0 10))), ((hb1 11), .inl (tc 0, 10, .inl (va_cpy (u.2.1 8) (fun _ => 0) 0 0 10))), ((hb1 12), .inl (tc 0, 10, .inl (fun _ => 0))), ((hb1 13), .inl (tc 0, 10, .inl (fun _ => 0)))]) := V
  refine lv_aload_n hx hb dX1_twin_107 rfl (lv_at hl 1 rfl) ?_
  refine x_get hx hb hts hown V inX1 0 rfl rfl 9 (by decide) tw_57 rfl rfl dX1_twin_108 ?_
  refine lv_iconst (v := 0) hx hb dX1_twin_111 (by decide) ?_
  refine lv_aload_n hx hb dX1_twin_112 rfl (lv_at hl 0 rfl) ?_
  refine x_get hx hb hts hown V inX1 8 rfl rfl 9 (by decide) tw_57 rfl rfl dX1_twin_113 ?_
  refine lv_iconst (v := 0) hx hb dX1_twin_116 (by decide) ?_
  refine lv_bipush (v := 10) hx hb dX1_twin_117 (by decide) ?_
  refine x_copyI hx hb (by rw [hml]; exact hl.1.symm) hts hown tw_237 tw_239 tw_238 tw_9 V 6 14 rfl rfl (by decide) (by decide) (by decide) (by decide) (by decide) (Nat.le_of_ble_eq_true rfl) (Nat.le_of_ble_eq_true rfl) dX1_twin_119 (fun H locs V => ?_)
  replace V : Wd D tc A s H locs ([((ha 6), .inr (1, [.int (u.1 0), .ref tb0, .int (u.1 2), .int (u.1 3), .ref (ha 7), .ref (ha 8), .ref (ha 9), .ref (ha 10), .ref (ha 11), .ref (ha 12), .ref (ha 13)])), ((ha 7), .inl (tc 0, 10, .inl (u.2.1 4))), ((ha 8), .inl (tc 0, 10, .inl (u.2.1 5))), ((ha 9), .inl (tc 0, 10, .inl (u.2.1 6))), ((ha 10), .inl (tc 0, 10, .inl (u.2.1 7))), ((ha 11), .inl (tc 0, 10, .inl (u.2.1 8))), ((ha 12), .inl (tc 0, 10, .inl (u.2.1 9))), ((ha 13), .inl (tc 0, 10, .inl (u.2.1 10))), ((hb1 6), .inr (1, [.int (u.1 0), .ref tb0, .int (u.1 2), .int (u.1 3), .ref (hb1 7), .ref (hb1 8), .ref (hb1 9), .ref (hb1 10), .ref (hb1 11), .ref (hb1 12), .ref (hb1 13)])), ((hb1 7), .inl (tc 0, 10, .inl (va_cpy (u.2.1 4) (fun _ => 0) 0 0 10))), ((hb1 8), .inl (tc 0, 10, .inl (va_cpy (u.2.1 5) (fun _ => 0) 0 0 10))), ((hb1 9), .inl (tc 0, 10, .inl (va_cpy (u.2.1 6) (fun _ => 0) 0 0 10))), ((hb1 10), .inl (tc 0, 10, .inl (va_cpy (u.2.1 7) (fun _ => 0) 0 0 10))), ((hb1 11), .inl (tc 0, 10, .inl (va_cpy (u.2.1 8) (fun _ => 0) 0 0 10))), ((hb1 12), .inl (tc 0, 10, .inl (va_cpy (u.2.1 9) (fun _ => 0) 0 0 10))), ((hb1 13), .inl (tc 0, 10, .inl (fun _ => 0)))]) := V
  refine lv_aload_n hx hb dX1_twin_122 rfl (lv_at hl 1 rfl) ?_
  refine x_get hx hb hts hown V inX1 0 rfl rfl 10 (by decide) tw_59 rfl rfl dX1_twin_123 ?_
  refine lv_iconst (v := 0) hx hb dX1_twin_126 (by decide) ?_
  refine lv_aload_n hx hb dX1_twin_127 rfl (lv_at hl 0 rfl) ?_
  refine x_get hx hb hts hown V inX1 8 rfl rfl 10 (by decide) tw_59 rfl rfl dX1_twin_128 ?_
  refine lv_iconst (v := 0) hx hb dX1_twin_131 (by decide) ?_
  refine lv_bipush (v := 10) hx hb dX1_twin_132 (by decide) ?_
  refine x_copyI hx hb (by rw [hml]; exact hl.1.symm) hts hown tw_237 tw_239 tw_238 tw_9 V 7 15 rfl rfl (by decide) (by decide) (by decide) (by decide) (by decide) (Nat.le_of_ble_eq_true rfl) (Nat.le_of_ble_eq_true rfl) dX1_twin_134 (fun H locs V => ?_)
  replace V : Wd D tc A s H locs ([((ha 6), .inr (1, [.int (u.1 0), .ref tb0, .int (u.1 2), .int (u.1 3), .ref (ha 7), .ref (ha 8), .ref (ha 9), .ref (ha 10), .ref (ha 11), .ref (ha 12), .ref (ha 13)])), ((ha 7), .inl (tc 0, 10, .inl (u.2.1 4))), ((ha 8), .inl (tc 0, 10, .inl (u.2.1 5))), ((ha 9), .inl (tc 0, 10, .inl (u.2.1 6))), ((ha 10), .inl (tc 0, 10, .inl (u.2.1 7))), ((ha 11), .inl (tc 0, 10, .inl (u.2.1 8))), ((ha 12), .inl (tc 0, 10, .inl (u.2.1 9))), ((ha 13), .inl (tc 0, 10, .inl (u.2.1 10))), ((hb1 6), .inr (1, [.int (u.1 0), .ref tb0, .int (u.1 2), .int (u.1 3), .ref (hb1 7), .ref (hb1 8), .ref (hb1 9), .ref (hb1 10), .ref (hb1 11), .ref (hb1 12), .ref (hb1 13)])), ((hb1 7), .inl (tc 0, 10, .inl (va_cpy (u.2.1 4) (fun _ => 0) 0 0 10))), ((hb1 8), .inl (tc 0, 10, .inl (va_cpy (u.2.1 5) (fun _ => 0) 0 0 10))), ((hb1 9), .inl (tc 0, 10, .inl (va_cpy (u.2.1 6) (fun _ => 0) 0 0 10))), ((hb1 10), .inl (tc 0, 10, .inl (va_cpy (u.2.1 7) (fun _ => 0) 0 0 10))), ((hb1 11), .inl (tc 0, 10, .inl (va_cpy (u.2.1 8) (fun _ => 0) 0 0 10))), ((hb1 12), .inl (tc 0, 10, .inl (va_cpy (u.2.1 9) (fun _ => 0) 0 0 10))), ((hb1 13), .inl (tc 0, 10, .inl (va_cpy (u.2.1 10) (fun _ => 0) 0 0 10)))]) := V
  refine lv_aload_n hx hb dX1_twin_137 rfl (lv_at hl 0 rfl) ?_
  exact x_areti (RT := _) (Nat.le_of_ble_eq_true rfl) (Nat.le_of_ble_eq_true rfl) C hA (Or.inl ⟨_, rfl⟩) (Or.inr ⟨_, rfl⟩) ⟨hb1, rfl, rfl⟩ V dX1_twin_138)

set_option maxHeartbeats 4000000 in
set_option maxRecDepth 100000 in
theorem kc_X6_machine (l : Launch) (D : va_G) (tc : Nat → ClassId) (xo : Nat) (xa ad : Nat → Nat) (f g : Nat → Option Nat) (nT nH : Int32) (t : Nat → Int32) (tl : va_W) (hlt : nT < 4) (hin9 : vp_in nT 4) : MetG l D tc yX6_machine cX6_machine 1 (some .int) 2 3 67 32 [.ref xo] (Bw tc xo xa ad f g nT nH t ++ tl) (fun v w => v = some (.int (nT + 1 - 1)) ∧ ∃ ta : Nat → Nat, w = Bw tc xo xa ad (va_up f nT.toNatClampNeg (some (ta 0))) g (nT + 1) nH t ++ (Tb tc ta 0 (some (fun _ => 0, fun _ => 0)) ++ tl)) :=
  x_ent (by decide) (own := RX6) rfl (Nat.le_of_ble_eq_true rfl) (fun p e s m args below meth c A sz ls hA _ hin C V hl => by
  obtain ⟨hx, hb, hr, hml, hown, hts, hlk, hN⟩ := id C
  replace hin := hin rfl
  try replace hin := hin rfl
  have hl : lv_has ls 1 [(0, .ref xo)] := hl
  generalize s.heap = H at V ⊢
  generalize ([] : List Loc) = locs at V ⊢
  refine lv_aload_n hx hb dX6_machine_0 rfl (lv_at hl 0 rfl) ?_
  refine x_get hx hb hts hown V inX6 0 rfl rfl 1 (by decide) tw_142 rfl rfl dX6_machine_1 ?_
  refine lv_iconst (v := 4) hx hb dX6_machine_4 (by decide) ?_
  refine lv_icmp_lt (tgt := 11) hx hb dX6_machine_5 (by decide) (fun c0 => ?_) (fun c0 => absurd hlt c0)
  refine lv_aload_n hx hb dX6_machine_11 rfl (lv_at hl 0 rfl) ?_
  refine x_get hx hb hts hown V inX6 0 rfl rfl 0 (by decide) tw_141 rfl rfl dX6_machine_12 ?_
  refine lv_aload_n hx hb dX6_machine_15 rfl (lv_at hl 0 rfl) ?_
  refine x_get hx hb hts hown V inX6 0 rfl rfl 1 (by decide) tw_142 rfl rfl dX6_machine_16 ?_
  refine x_new (fs := [.null, .null, .int 0]) hx hb hts hown V 4 inX5 tyX5_ok tw_20 tw_176 tw_7 rfl (fun j hj => by rcases (show j = 0 ∨ j = 1 ∨ j = 2 by omega) with rfl | rfl | rfl <;> rfl) (Nat.le_of_ble_eq_true rfl) (Nat.le_of_ble_eq_true rfl) dX6_machine_19 (fun q1 H V => ?_)
  replace V : Wd D tc A s H locs ([(xo, .inr (5, [.ref (xa 0), .int nT, .ref (xa 1), .int nH, .ref (ad 0), .ref (ad 14), .int (t 42), .ref (ad 16), .int (t 43), .int (t 44)])), ((xa 0), .inl (tc 3, 4, .inr (.inr (.inr (.inr f))))), ((xa 1), .inl (tc 2, 12, .inr (.inr (.inr (.inr g))))), (q1, .inr (4, [.null, .null, .int 0]))] ++ tl) := pm_tail V
  refine lv_dup hx hb dX6_machine_22 rfl ?_
  replace V : Wd D tc A s H locs ([(xo, .inr (5, [.ref (xa 0), .int nT, .ref (xa 1), .int nH, .ref (ad 0), .ref (ad 14), .int (t 42), .ref (ad 16), .int (t 43), .int (t 44)])), ((xa 0), .inl (tc 3, 4, .inr (.inr (.inr (.inr f))))), ((xa 1), .inl (tc 2, 12, .inr (.inr (.inr (.inr g)))))] ++ ([(q1, .inr (4, [.null, .null, .int 0]))] ++ tl)) := V
  refine x_midG (w0 := [(xo, .inr (5, [.ref (xa 0), .int nT, .ref (xa 1), .int nH, .ref (ad 0), .ref (ad 14), .int (t 42), .ref (ad 16), .int (t 43), .int (t 44)])), ((xa 0), .inl (tc 3, 4, .inr (.inr (.inr (.inr f))))), ((xa 1), .inl (tc 2, 12, .inr (.inr (.inr (.inr g)))))]) (wr := tl) V (x_runIN (n := 0) (rest := [.ref q1, .int nT, .ref (xa 0)]) C V _ (mid_map _ _ _) (mid_nd _ _) (kc_X5_init l D tc q1) hN.2.2.2.1 tw_178 tw_7 tw_179 rfl (by decide +kernel) ⟨(Nat.le_of_ble_eq_true rfl), (Nat.le_of_ble_eq_true rfl)⟩ ⟨(Nat.le_of_ble_eq_true rfl), (Nat.le_of_ble_eq_true rfl)⟩ rfl hl.1 rfl (Nat.le_of_ble_eq_true rfl) dX6_machine_23) (fun v0 w1 H locs hRT _ V2 => ?_)
  clear V
  obtain ⟨rfl, q2, q3, rfl⟩ := hRT
  have V : Wd D tc A s H locs ([(xo, .inr (5, [.ref (xa 0), .int nT, .ref (xa 1), .int nH, .ref (ad 0), .ref (ad 14), .int (t 42), .ref (ad 16), .int (t 43), .int (t 44)])), ((xa 0), .inl (tc 3, 4, .inr (.inr (.inr (.inr f))))), ((xa 1), .inl (tc 2, 12, .inr (.inr (.inr (.inr g))))), (q1, .inr (4, [.ref q2, .ref q3, .int 0])), (q2, .inl (tc 0, 32, .inl (fun _ => 0))), (q3, .inl (tc 0, 32, .inl (fun _ => 0)))] ++ tl) := V2
  refine x_aast hx hb V 1 3 3 4 rfl rfl rfl rfl hin9 dX6_machine_26 (fun H locs V => ?_)
  replace V : Wd D tc A s H locs ([(xo, .inr (5, [.ref (xa 0), .int nT, .ref (xa 1), .int nH, .ref (ad 0), .ref (ad 14), .int (t 42), .ref (ad 16), .int (t 43), .int (t 44)])), ((xa 0), .inl (tc 3, 4, .inr (.inr (.inr (.inr (va_up f nT.toNatClampNeg (some q1))))))), ((xa 1), .inl (tc 2, 12, .inr (.inr (.inr (.inr g))))), (q1, .inr (4, [.ref q2, .ref q3, .int 0])), (q2, .inl (tc 0, 32, .inl (fun _ => 0))), (q3, .inl (tc 0, 32, .inl (fun _ => 0)))] ++ tl) := V
  refine lv_aload_n hx hb dX6_machine_27 rfl (lv_at hl 0 rfl) ?_
  refine lv_dup hx hb dX6_machine_28 rfl ?_
  refine x_get hx hb hts hown V inX6 0 rfl rfl 1 (by decide) tw_142 rfl rfl dX6_machine_29 ?_
  refine lv_iconst (v := 1) hx hb dX6_machine_32 (by decide) ?_
  refine lv_iadd hx hb dX6_machine_33 ?_
  refine x_put hx hb hts hown V inX6 tyX6_ok nmX6 0 rfl rfl 1 (by decide) tw_142 rfl rfl rfl rfl (Nat.le_of_ble_eq_true rfl) dX6_machine_34 (fun H locs V => ?_)
  replace V : Wd D tc A s H locs ([(xo, .inr (5, [.ref (xa 0), .int (nT + (1 : Int32)), .ref (xa 1), .int nH, .ref (ad 0), .ref (ad 14), .int (t 42), .ref (ad 16), .int (t 43), .int (t 44)])), ((xa 0), .inl (tc 3, 4, .inr (.inr (.inr (.inr (va_up f nT.toNatClampNeg (some q1))))))), ((xa 1), .inl (tc 2, 12, .inr (.inr (.inr (.inr g))))), (q1, .inr (4, [.ref q2, .ref q3, .int 0])), (q2, .inl (tc 0, 32, .inl (fun _ => 0))), (q3, .inl (tc 0, 32, .inl (fun _ => 0)))] ++ tl) := V
  refine lv_aload_n hx hb dX6_machine_37 rfl (lv_at hl 0 rfl) ?_
  refine x_get hx hb hts hown V inX6 0 rfl rfl 1 (by decide) tw_142 rfl rfl dX6_machine_38 ?_
  refine lv_iconst (v := 1) hx hb dX6_machine_41 (by decide) ?_
  refine lv_isub hx hb dX6_machine_42 ?_
  exact x_ireti (RT := _) (Nat.le_of_ble_eq_true rfl) (Nat.le_of_ble_eq_true rfl) C hA rfl ⟨rfl, (fun p => if p = 0 then q1 else if p = 1 then q2 else q3), rfl⟩ V dX6_machine_43)

set_option maxHeartbeats 4000000 in
set_option maxRecDepth 100000 in
theorem kc_X6_machine_full (l : Launch) (D : va_G) (tc : Nat → ClassId) (xo : Nat) (xa ad : Nat → Nat) (f g : Nat → Option Nat) (nT nH : Int32) (t : Nat → Int32) (tl : va_W) (hlt : ¬ nT < 4) : MetG l D tc yX6_machine cX6_machine 1 (some .int) 0 0 0 0 [.ref xo] (Bw tc xo xa ad f g nT nH t ++ tl) (fun v w => v = some (.int (-4)) ∧ w = Bw tc xo xa ad f g nT nH t ++ tl) :=
  x_ent (by decide) (own := RX6) rfl (Nat.le_of_ble_eq_true rfl) (fun p e s m args below meth c A sz ls hA _ hin C V hl => by
  obtain ⟨hx, hb, hr, hml, hown, hts, hlk, hN⟩ := id C
  replace hin := hin rfl
  try replace hin := hin rfl
  have hl : lv_has ls 1 [(0, .ref xo)] := hl
  generalize s.heap = H at V ⊢
  generalize ([] : List Loc) = locs at V ⊢
  refine lv_aload_n hx hb dX6_machine_0 rfl (lv_at hl 0 rfl) ?_
  refine x_get hx hb hts hown V inX6 0 rfl rfl 1 (by decide) tw_142 rfl rfl dX6_machine_1 ?_
  refine lv_iconst (v := 4) hx hb dX6_machine_4 (by decide) ?_
  refine lv_icmp_lt (tgt := 11) hx hb dX6_machine_5 (by decide) (fun c0 => absurd c0 hlt) (fun c0 => ?_)
  refine lv_bipush (v := (-4)) hx hb dX6_machine_8 (by decide) ?_
  exact x_ireti (RT := _) (Nat.le_of_ble_eq_true rfl) (Nat.le_of_ble_eq_true rfl) C hA rfl ⟨rfl, rfl⟩ V dX6_machine_10)

set_option maxHeartbeats 4000000 in
set_option maxRecDepth 100000 in
theorem kc_X6_history_n (l : Launch) (D : va_G) (tc : Nat → ClassId) (xo : Nat) (xa ad : Nat → Nat) (f g : Nat → Option Nat) (nT nH : Int32) (t : Nat → Int32) (tl : va_W) (kd mk : Int32) (hne : ¬ kd = 6) (hkd : j_X3_isKind kd = some 0) : MetG l D tc yX6_history cX6_history 5 (some .int) 1 0 0 20 [.ref xo, .int kd, .int mk] (Bw tc xo xa ad f g nT nH t ++ tl) (fun v w => v = some (.int (-1)) ∧ w = Bw tc xo xa ad f g nT nH t ++ tl) :=
  x_ent (by decide) (own := RX6) rfl (Nat.le_of_ble_eq_true rfl) (fun p e s m args below meth c A sz ls hA _ hin C V hl => by
  obtain ⟨hx, hb, hr, hml, hown, hts, hlk, hN⟩ := id C
  replace hin := hin rfl
  try replace hin := hin rfl
  have hl : lv_has ls 5 [(0, .ref xo), (1, .int kd), (2, .int mk)] := hl
  generalize s.heap = H at V ⊢
  generalize ([] : List Loc) = locs at V ⊢
  refine lv_iload_n hx hb dX6_history_0 rfl (lv_at hl 1 rfl) ?_
  refine lv_bipush (v := 6) hx hb dX6_history_1 (by decide) ?_
  refine lv_icmp_ne (tgt := 10) hx hb dX6_history_3 (by decide) (fun c0 => ?_) (fun c0 => absurd c0 hne)
  refine lv_iconst (v := 0) hx hb dX6_history_10 (by decide) ?_
  refine lv_istore_n (lv' := [(3, .int (0 : Int32)), (0, .ref xo), (1, .int kd), (2, .int mk)]) hx hb dX6_history_11 rfl hl (by decide) rfl (fun ls hl => ?_)
  refine lv_iload_n hx hb dX6_history_12 rfl (lv_at hl 0 rfl) ?_
  refine lv_if_eq (tgt := 24) hx hb dX6_history_13 (by decide) (fun c0 => ?_) (fun c0 => absurd rfl c0)
  refine lv_null hx hb dX6_history_24 ?_
  refine lv_astoreN (lv' := [(4, .null), (3, .int (0 : Int32)), (0, .ref xo), (1, .int kd), (2, .int mk)]) hx hb dX6_history_25 hl (by decide) rfl (fun ls hl => ?_)
  refine lv_iload_n hx hb dX6_history_27 rfl (lv_at hl 3 rfl) ?_
  refine x_allI V _ (rg_map _) (x_runS (n := 1) (rest := []) C V _ (rg_map _) (rg_nd _) (k_X3_isKind l D tc ([(xo, .inr (5, [.ref (xa 0), .int nT, .ref (xa 1), .int nH, .ref (ad 0), .ref (ad 14), .int (t 42), .ref (ad 16), .int (t 43), .int (t 44)])), ((xa 0), .inl (tc 3, 4, .inr (.inr (.inr (.inr f))))), ((xa 1), .inl (tc 2, 12, .inr (.inr (.inr (.inr g)))))] ++ tl) kd hkd) tw_215 tw_216 tw_8 tw_217 (by decide +kernel) ⟨(Nat.le_of_ble_eq_true rfl), (Nat.le_of_ble_eq_true rfl)⟩ ⟨(Nat.le_of_ble_eq_true rfl), (Nat.le_of_ble_eq_true rfl)⟩ rfl hl.1 rfl (Nat.le_of_ble_eq_true rfl) dX6_history_28) (fun H locs V _ => ?_)
  replace V : Wd D tc A s H locs ([(xo, .inr (5, [.ref (xa 0), .int nT, .ref (xa 1), .int nH, .ref (ad 0), .ref (ad 14), .int (t 42), .ref (ad 16), .int (t 43), .int (t 44)])), ((xa 0), .inl (tc 3, 4, .inr (.inr (.inr (.inr f))))), ((xa 1), .inl (tc 2, 12, .inr (.inr (.inr (.inr g)))))] ++ tl) := V
  refine lv_if_eq (tgt := 43) hx hb dX6_history_31 (by decide) (fun c0 => ?_) (fun c0 => absurd rfl c0)
  refine lv_iconst (v := (-1)) hx hb dX6_history_43 (by decide) ?_
  exact x_ireti (RT := _) (Nat.le_of_ble_eq_true rfl) (Nat.le_of_ble_eq_true rfl) C hA rfl ⟨rfl, rfl⟩ V dX6_history_44)

set_option maxHeartbeats 4000000 in
set_option maxRecDepth 100000 in
theorem kc_X6_history_b (l : Launch) (D : va_G) (tc : Nat → ClassId) (xo : Nat) (xa ad : Nat → Nat) (f g : Nat → Option Nat) (nT nH : Int32) (t : Nat → Int32) (tl : va_W) (kd mk : Int32) (hne : ¬ kd = 6) (hkd : j_X3_isKind kd = some 1) (hmk : ¬ mk = 0) : MetG l D tc yX6_history cX6_history 5 (some .int) 1 0 0 20 [.ref xo, .int kd, .int mk] (Bw tc xo xa ad f g nT nH t ++ tl) (fun v w => v = some (.int (-2)) ∧ w = Bw tc xo xa ad f g nT nH t ++ tl) :=
  x_ent (by decide) (own := RX6) rfl (Nat.le_of_ble_eq_true rfl) (fun p e s m args below meth c A sz ls hA _ hin C V hl => by
  obtain ⟨hx, hb, hr, hml, hown, hts, hlk, hN⟩ := id C
  replace hin := hin rfl
  try replace hin := hin rfl
  have hl : lv_has ls 5 [(0, .ref xo), (1, .int kd), (2, .int mk)] := hl
  generalize s.heap = H at V ⊢
  generalize ([] : List Loc) = locs at V ⊢
  refine lv_iload_n hx hb dX6_history_0 rfl (lv_at hl 1 rfl) ?_
  refine lv_bipush (v := 6) hx hb dX6_history_1 (by decide) ?_
  refine lv_icmp_ne (tgt := 10) hx hb dX6_history_3 (by decide) (fun c0 => ?_) (fun c0 => absurd c0 hne)
  refine lv_iconst (v := 0) hx hb dX6_history_10 (by decide) ?_
  refine lv_istore_n (lv' := [(3, .int (0 : Int32)), (0, .ref xo), (1, .int kd), (2, .int mk)]) hx hb dX6_history_11 rfl hl (by decide) rfl (fun ls hl => ?_)
  refine lv_iload_n hx hb dX6_history_12 rfl (lv_at hl 0 rfl) ?_
  refine lv_if_eq (tgt := 24) hx hb dX6_history_13 (by decide) (fun c0 => ?_) (fun c0 => absurd rfl c0)
  refine lv_null hx hb dX6_history_24 ?_
  refine lv_astoreN (lv' := [(4, .null), (3, .int (0 : Int32)), (0, .ref xo), (1, .int kd), (2, .int mk)]) hx hb dX6_history_25 hl (by decide) rfl (fun ls hl => ?_)
  refine lv_iload_n hx hb dX6_history_27 rfl (lv_at hl 3 rfl) ?_
  refine x_allI V _ (rg_map _) (x_runS (n := 1) (rest := []) C V _ (rg_map _) (rg_nd _) (k_X3_isKind l D tc ([(xo, .inr (5, [.ref (xa 0), .int nT, .ref (xa 1), .int nH, .ref (ad 0), .ref (ad 14), .int (t 42), .ref (ad 16), .int (t 43), .int (t 44)])), ((xa 0), .inl (tc 3, 4, .inr (.inr (.inr (.inr f))))), ((xa 1), .inl (tc 2, 12, .inr (.inr (.inr (.inr g)))))] ++ tl) kd hkd) tw_215 tw_216 tw_8 tw_217 (by decide +kernel) ⟨(Nat.le_of_ble_eq_true rfl), (Nat.le_of_ble_eq_true rfl)⟩ ⟨(Nat.le_of_ble_eq_true rfl), (Nat.le_of_ble_eq_true rfl)⟩ rfl hl.1 rfl (Nat.le_of_ble_eq_true rfl) dX6_history_28) (fun H locs V _ => ?_)
  replace V : Wd D tc A s H locs ([(xo, .inr (5, [.ref (xa 0), .int nT, .ref (xa 1), .int nH, .ref (ad 0), .ref (ad 14), .int (t 42), .ref (ad 16), .int (t 43), .int (t 44)])), ((xa 0), .inl (tc 3, 4, .inr (.inr (.inr (.inr f))))), ((xa 1), .inl (tc 2, 12, .inr (.inr (.inr (.inr g)))))] ++ tl) := V
  refine lv_if_eq (tgt := 43) hx hb dX6_history_31 (by decide) (fun c0 => absurd c0 (by decide)) (fun c0 => ?_)
  refine lv_iload_n hx hb dX6_history_34 rfl (lv_at hl 1 rfl) ?_
  refine lv_if_eq (tgt := 45) hx hb dX6_history_35 (by decide) (fun c0 => ?_) (fun c0 => absurd rfl c0)
  refine lv_iload_n hx hb dX6_history_45 rfl (lv_at hl 1 rfl) ?_
  refine lv_if_ne (tgt := 56) hx hb dX6_history_46 (by decide) (fun c0 => absurd rfl c0) (fun c0 => ?_)
  refine lv_iload_n hx hb dX6_history_49 rfl (lv_at hl 4 rfl) ?_
  refine lv_if_eq (tgt := 56) hx hb dX6_history_50 (by decide) (fun c0 => absurd c0 hmk) (fun c0 => ?_)
  refine lv_bipush (v := (-2)) hx hb dX6_history_53 (by decide) ?_
  exact x_ireti (RT := _) (Nat.le_of_ble_eq_true rfl) (Nat.le_of_ble_eq_true rfl) C hA rfl ⟨rfl, rfl⟩ V dX6_history_55)

set_option maxHeartbeats 4000000 in
set_option maxRecDepth 100000 in
theorem kc_X6_history_f (l : Launch) (D : va_G) (tc : Nat → ClassId) (xo : Nat) (xa ad : Nat → Nat) (f g : Nat → Option Nat) (nT nH : Int32) (t : Nat → Int32) (tl : va_W) (kd mk : Int32) (hne : ¬ kd = 6) (hkd : j_X3_isKind kd = some 1) (hmk : mk = 0) (hlt12 : ¬ nH < 12) : MetG l D tc yX6_history cX6_history 5 (some .int) 1 0 0 20 [.ref xo, .int kd, .int mk] (Bw tc xo xa ad f g nT nH t ++ tl) (fun v w => v = some (.int (-4)) ∧ w = Bw tc xo xa ad f g nT nH t ++ tl) :=
  x_ent (by decide) (own := RX6) rfl (Nat.le_of_ble_eq_true rfl) (fun p e s m args below meth c A sz ls hA _ hin C V hl => by
  obtain ⟨hx, hb, hr, hml, hown, hts, hlk, hN⟩ := id C
  replace hin := hin rfl
  try replace hin := hin rfl
  have hl : lv_has ls 5 [(0, .ref xo), (1, .int kd), (2, .int mk)] := hl
  generalize s.heap = H at V ⊢
  generalize ([] : List Loc) = locs at V ⊢
  refine lv_iload_n hx hb dX6_history_0 rfl (lv_at hl 1 rfl) ?_
  refine lv_bipush (v := 6) hx hb dX6_history_1 (by decide) ?_
  refine lv_icmp_ne (tgt := 10) hx hb dX6_history_3 (by decide) (fun c0 => ?_) (fun c0 => absurd c0 hne)
  refine lv_iconst (v := 0) hx hb dX6_history_10 (by decide) ?_
  refine lv_istore_n (lv' := [(3, .int (0 : Int32)), (0, .ref xo), (1, .int kd), (2, .int mk)]) hx hb dX6_history_11 rfl hl (by decide) rfl (fun ls hl => ?_)
  refine lv_iload_n hx hb dX6_history_12 rfl (lv_at hl 0 rfl) ?_
  refine lv_if_eq (tgt := 24) hx hb dX6_history_13 (by decide) (fun c0 => ?_) (fun c0 => absurd rfl c0)
  refine lv_null hx hb dX6_history_24 ?_
  refine lv_astoreN (lv' := [(4, .null), (3, .int (0 : Int32)), (0, .ref xo), (1, .int kd), (2, .int mk)]) hx hb dX6_history_25 hl (by decide) rfl (fun ls hl => ?_)
  refine lv_iload_n hx hb dX6_history_27 rfl (lv_at hl 3 rfl) ?_
  refine x_allI V _ (rg_map _) (x_runS (n := 1) (rest := []) C V _ (rg_map _) (rg_nd _) (k_X3_isKind l D tc ([(xo, .inr (5, [.ref (xa 0), .int nT, .ref (xa 1), .int nH, .ref (ad 0), .ref (ad 14), .int (t 42), .ref (ad 16), .int (t 43), .int (t 44)])), ((xa 0), .inl (tc 3, 4, .inr (.inr (.inr (.inr f))))), ((xa 1), .inl (tc 2, 12, .inr (.inr (.inr (.inr g)))))] ++ tl) kd hkd) tw_215 tw_216 tw_8 tw_217 (by decide +kernel) ⟨(Nat.le_of_ble_eq_true rfl), (Nat.le_of_ble_eq_true rfl)⟩ ⟨(Nat.le_of_ble_eq_true rfl), (Nat.le_of_ble_eq_true rfl)⟩ rfl hl.1 rfl (Nat.le_of_ble_eq_true rfl) dX6_history_28) (fun H locs V _ => ?_)
  replace V : Wd D tc A s H locs ([(xo, .inr (5, [.ref (xa 0), .int nT, .ref (xa 1), .int nH, .ref (ad 0), .ref (ad 14), .int (t 42), .ref (ad 16), .int (t 43), .int (t 44)])), ((xa 0), .inl (tc 3, 4, .inr (.inr (.inr (.inr f))))), ((xa 1), .inl (tc 2, 12, .inr (.inr (.inr (.inr g)))))] ++ tl) := V
  refine lv_if_eq (tgt := 43) hx hb dX6_history_31 (by decide) (fun c0 => absurd c0 (by decide)) (fun c0 => ?_)
  refine lv_iload_n hx hb dX6_history_34 rfl (lv_at hl 1 rfl) ?_
  refine lv_if_eq (tgt := 45) hx hb dX6_history_35 (by decide) (fun c0 => ?_) (fun c0 => absurd rfl c0)
  refine lv_iload_n hx hb dX6_history_45 rfl (lv_at hl 1 rfl) ?_
  refine lv_if_ne (tgt := 56) hx hb dX6_history_46 (by decide) (fun c0 => absurd rfl c0) (fun c0 => ?_)
  refine lv_iload_n hx hb dX6_history_49 rfl (lv_at hl 4 rfl) ?_
  refine lv_if_eq (tgt := 56) hx hb dX6_history_50 (by decide) (fun c0 => ?_) (fun c0 => absurd hmk c0)
  refine lv_aload_n hx hb dX6_history_56 rfl (lv_at hl 2 rfl) ?_
  refine x_get hx hb hts hown V inX6 0 rfl rfl 3 (by decide) tw_144 rfl rfl dX6_history_57 ?_
  refine lv_bipush (v := 12) hx hb dX6_history_60 (by decide) ?_
  refine lv_icmp_lt (tgt := 68) hx hb dX6_history_62 (by decide) (fun c0 => absurd c0 hlt12) (fun c0 => ?_)
  refine lv_bipush (v := (-4)) hx hb dX6_history_65 (by decide) ?_
  exact x_ireti (RT := _) (Nat.le_of_ble_eq_true rfl) (Nat.le_of_ble_eq_true rfl) C hA rfl ⟨rfl, rfl⟩ V dX6_history_67)

set_option maxHeartbeats 4000000 in
set_option maxRecDepth 100000 in
theorem kc_X6_history_0 (l : Launch) (D : va_G) (tc : Nat → ClassId) (xo : Nat) (xa ad : Nat → Nat) (f g : Nat → Option Nat) (nT nH : Int32) (t : Nat → Int32) (tl : va_W) (kd mk : Int32) (hne : ¬ kd = 6) (hkd : j_X3_isKind kd = some 1) (hmk : mk = 0) (hlt12 : nH < 12) (hin12 : vp_in nH 12) : MetG l D tc yX6_history cX6_history 5 (some .int) 2 8 81 34 [.ref xo, .int kd, .int mk] (Bw tc xo xa ad f g nT nH t ++ tl) (fun v w => v = some (.int (nH + 1 - 1)) ∧ ∃ ha0 : Nat → Nat, w = Bw tc xo xa ad f (va_up g nH.toNatClampNeg (some (ha0 6))) nT (nH + 1) t ++ (Hw tc ha0 .null (sI St0 0 kd) ++ tl)) :=
  x_ent (by decide) (own := RX6) rfl (Nat.le_of_ble_eq_true rfl) (fun p e s m args below meth c A sz ls hA _ hin C V hl => by
  obtain ⟨hx, hb, hr, hml, hown, hts, hlk, hN⟩ := id C
  replace hin := hin rfl
  try replace hin := hin rfl
  have hl : lv_has ls 5 [(0, .ref xo), (1, .int kd), (2, .int mk)] := hl
  generalize s.heap = H at V ⊢
  generalize ([] : List Loc) = locs at V ⊢
  refine lv_iload_n hx hb dX6_history_0 rfl (lv_at hl 1 rfl) ?_
  refine lv_bipush (v := 6) hx hb dX6_history_1 (by decide) ?_
  refine lv_icmp_ne (tgt := 10) hx hb dX6_history_3 (by decide) (fun c0 => ?_) (fun c0 => absurd c0 hne)
  refine lv_iconst (v := 0) hx hb dX6_history_10 (by decide) ?_
  refine lv_istore_n (lv' := [(3, .int (0 : Int32)), (0, .ref xo), (1, .int kd), (2, .int mk)]) hx hb dX6_history_11 rfl hl (by decide) rfl (fun ls hl => ?_)
  refine lv_iload_n hx hb dX6_history_12 rfl (lv_at hl 0 rfl) ?_
  refine lv_if_eq (tgt := 24) hx hb dX6_history_13 (by decide) (fun c0 => ?_) (fun c0 => absurd rfl c0)
  refine lv_null hx hb dX6_history_24 ?_
  refine lv_astoreN (lv' := [(4, .null), (3, .int (0 : Int32)), (0, .ref xo), (1, .int kd), (2, .int mk)]) hx hb dX6_history_25 hl (by decide) rfl (fun ls hl => ?_)
  refine lv_iload_n hx hb dX6_history_27 rfl (lv_at hl 3 rfl) ?_
  refine x_allI V _ (rg_map _) (x_runS (n := 1) (rest := []) C V _ (rg_map _) (rg_nd _) (k_X3_isKind l D tc ([(xo, .inr (5, [.ref (xa 0), .int nT, .ref (xa 1), .int nH, .ref (ad 0), .ref (ad 14), .int (t 42), .ref (ad 16), .int (t 43), .int (t 44)])), ((xa 0), .inl (tc 3, 4, .inr (.inr (.inr (.inr f))))), ((xa 1), .inl (tc 2, 12, .inr (.inr (.inr (.inr g)))))] ++ tl) kd hkd) tw_215 tw_216 tw_8 tw_217 (by decide +kernel) ⟨(Nat.le_of_ble_eq_true rfl), (Nat.le_of_ble_eq_true rfl)⟩ ⟨(Nat.le_of_ble_eq_true rfl), (Nat.le_of_ble_eq_true rfl)⟩ rfl hl.1 rfl (Nat.le_of_ble_eq_true rfl) dX6_history_28) (fun H locs V _ => ?_)
  replace V : Wd D tc A s H locs ([(xo, .inr (5, [.ref (xa 0), .int nT, .ref (xa 1), .int nH, .ref (ad 0), .ref (ad 14), .int (t 42), .ref (ad 16), .int (t 43), .int (t 44)])), ((xa 0), .inl (tc 3, 4, .inr (.inr (.inr (.inr f))))), ((xa 1), .inl (tc 2, 12, .inr (.inr (.inr (.inr g)))))] ++ tl) := V
  refine lv_if_eq (tgt := 43) hx hb dX6_history_31 (by decide) (fun c0 => absurd c0 (by decide)) (fun c0 => ?_)
  refine lv_iload_n hx hb dX6_history_34 rfl (lv_at hl 1 rfl) ?_
  refine lv_if_eq (tgt := 45) hx hb dX6_history_35 (by decide) (fun c0 => ?_) (fun c0 => absurd rfl c0)
  refine lv_iload_n hx hb dX6_history_45 rfl (lv_at hl 1 rfl) ?_
  refine lv_if_ne (tgt := 56) hx hb dX6_history_46 (by decide) (fun c0 => absurd rfl c0) (fun c0 => ?_)
  refine lv_iload_n hx hb dX6_history_49 rfl (lv_at hl 4 rfl) ?_
  refine lv_if_eq (tgt := 56) hx hb dX6_history_50 (by decide) (fun c0 => ?_) (fun c0 => absurd hmk c0)
  refine lv_aload_n hx hb dX6_history_56 rfl (lv_at hl 2 rfl) ?_
  refine x_get hx hb hts hown V inX6 0 rfl rfl 3 (by decide) tw_144 rfl rfl dX6_history_57 ?_
  refine lv_bipush (v := 12) hx hb dX6_history_60 (by decide) ?_
  refine lv_icmp_lt (tgt := 68) hx hb dX6_history_62 (by decide) (fun c0 => ?_) (fun c0 => absurd hlt12 c0)
  refine lv_aloadN hx hb dX6_history_68 (lv_at hl 0 rfl) ?_
  refine lv_ifnullN (tgt := 79) hx hb dX6_history_70 (by decide) ?_
  refine lv_aload_n hx hb dX6_history_79 rfl (lv_at hl 2 rfl) ?_
  refine x_new (fs := [.int 0, .null, .int 0, .int 0, .null, .null, .null, .null, .null, .null, .null]) hx hb hts hown V 1 inX1 tyX1_ok tw_22 tw_31 tw_3 rfl (fun j hj => by rcases (show j = 0 ∨ j = 1 ∨ j = 2 ∨ j = 3 ∨ j = 4 ∨ j = 5 ∨ j = 6 ∨ j = 7 ∨ j = 8 ∨ j = 9 ∨ j = 10 by omega) with rfl | rfl | rfl | rfl | rfl | rfl | rfl | rfl | rfl | rfl | rfl <;> rfl) (Nat.le_of_ble_eq_true rfl) (Nat.le_of_ble_eq_true rfl) dX6_history_80 (fun q1 H V => ?_)
  replace V : Wd D tc A s H locs ([(xo, .inr (5, [.ref (xa 0), .int nT, .ref (xa 1), .int nH, .ref (ad 0), .ref (ad 14), .int (t 42), .ref (ad 16), .int (t 43), .int (t 44)])), ((xa 0), .inl (tc 3, 4, .inr (.inr (.inr (.inr f))))), ((xa 1), .inl (tc 2, 12, .inr (.inr (.inr (.inr g))))), (q1, .inr (1, [.int 0, .null, .int 0, .int 0, .null, .null, .null, .null, .null, .null, .null]))] ++ tl) := pm_tail V
  refine lv_dup hx hb dX6_history_83 rfl ?_
  refine lv_iload_n hx hb dX6_history_84 rfl (lv_at hl 3 rfl) ?_
  refine lv_aloadN hx hb dX6_history_85 (lv_at hl 0 rfl) ?_
  replace V : Wd D tc A s H locs ([(xo, .inr (5, [.ref (xa 0), .int nT, .ref (xa 1), .int nH, .ref (ad 0), .ref (ad 14), .int (t 42), .ref (ad 16), .int (t 43), .int (t 44)])), ((xa 0), .inl (tc 3, 4, .inr (.inr (.inr (.inr f))))), ((xa 1), .inl (tc 2, 12, .inr (.inr (.inr (.inr g)))))] ++ ([(q1, .inr (1, [.int 0, .null, .int 0, .int 0, .null, .null, .null, .null, .null, .null, .null]))] ++ tl)) := V
  refine x_midG (w0 := [(xo, .inr (5, [.ref (xa 0), .int nT, .ref (xa 1), .int nH, .ref (ad 0), .ref (ad 14), .int (t 42), .ref (ad 16), .int (t 43), .int (t 44)])), ((xa 0), .inl (tc 3, 4, .inr (.inr (.inr (.inr f))))), ((xa 1), .inl (tc 2, 12, .inr (.inr (.inr (.inr g)))))]) (wr := tl) V (x_runI (n := 2) (rest := [.ref q1, .ref xo]) C V _ (mid_map _ _ _) (mid_nd _ _) (kc_X1_init_N l D tc q1 kd) tw_218 tw_33 tw_3 tw_34 rfl (by decide +kernel) ⟨(Nat.le_of_ble_eq_true rfl), (Nat.le_of_ble_eq_true rfl)⟩ ⟨(Nat.le_of_ble_eq_true rfl), (Nat.le_of_ble_eq_true rfl)⟩ rfl hl.1 rfl (Nat.le_of_ble_eq_true rfl) dX6_history_87) (fun v0 w1 H locs hRT _ V2 => ?_)
  clear V
  obtain ⟨rfl, ha0, rfl, hq9⟩ := hRT
  subst hq9
  have V : Wd D tc A s H locs (Bw tc xo xa ad f g nT nH t ++ (Hw tc ha0 (.null) (sI St0 0 kd) ++ tl)) := V2
  replace V : Wd D tc A s H locs (Bw tc xo xa ad f g nT nH t ++ (Hw tc ha0 (.null) (sI St0 0 kd) ++ tl)) := V
  refine x_allI V _ (rg_map _) (x_runV (n := 1) (rest := []) C V _ (rg_map _) (rg_nd _) (kc_X6_keep l D tc xo xa ad f g nT nH t (Hw tc ha0 (.null) (sI St0 0 kd) ++ tl) (ha0 6) _ hlt12 hin12 0 rfl) tw_219 tw_221 tp_1 tw_1 tw_222 (by decide +kernel) ⟨(Nat.le_of_ble_eq_true rfl), (Nat.le_of_ble_eq_true rfl)⟩ ⟨(Nat.le_of_ble_eq_true rfl), (Nat.le_of_ble_eq_true rfl)⟩ 0 5 rfl rfl rfl hl.1 rfl (Nat.le_of_ble_eq_true rfl) dX6_history_90) (fun H locs V _ => ?_)
  exact x_ireti (RT := _) (Nat.le_of_ble_eq_true rfl) (Nat.le_of_ble_eq_true rfl) C hA rfl ⟨rfl, ha0, rfl⟩ V dX6_history_93)

set_option maxHeartbeats 4000000 in
set_option maxRecDepth 100000 in
theorem kc_X6_history_tn (l : Launch) (D : va_G) (tc : Nat → ClassId) (xo : Nat) (xa ad : Nat → Nat) (f g : Nat → Option Nat) (nT nH : Int32) (t : Nat → Int32) (tl : va_W) (kd mk : Int32) (heq : kd = 6) (hkd : j_X3_isKind kd = some 1) (hfd : FN nT mk) : MetG l D tc yX6_history cX6_history 5 (some .int) 1 0 0 21 [.ref xo, .int kd, .int mk] (Bw tc xo xa ad f g nT nH t ++ tl) (fun v w => v = some (.int (-1)) ∧ w = Bw tc xo xa ad f g nT nH t ++ tl) :=
  x_ent (by decide) (own := RX6) rfl (Nat.le_of_ble_eq_true rfl) (fun p e s m args below meth c A sz ls hA _ hin C V hl => by
  obtain ⟨hx, hb, hr, hml, hown, hts, hlk, hN⟩ := id C
  replace hin := hin rfl
  try replace hin := hin rfl
  have hl : lv_has ls 5 [(0, .ref xo), (1, .int kd), (2, .int mk)] := hl
  generalize s.heap = H at V ⊢
  generalize ([] : List Loc) = locs at V ⊢
  refine lv_iload_n hx hb dX6_history_0 rfl (lv_at hl 1 rfl) ?_
  refine lv_bipush (v := 6) hx hb dX6_history_1 (by decide) ?_
  refine lv_icmp_ne (tgt := 10) hx hb dX6_history_3 (by decide) (fun c0 => absurd heq c0) (fun c0 => ?_)
  refine lv_iconst (v := 1) hx hb dX6_history_6 (by decide) ?_
  refine lv_goto (tgt := 11) hx hb dX6_history_7 (by decide) ?_
  refine lv_istore_n (lv' := [(3, .int (1 : Int32)), (0, .ref xo), (1, .int kd), (2, .int mk)]) hx hb dX6_history_11 rfl hl (by decide) rfl (fun ls hl => ?_)
  refine lv_iload_n hx hb dX6_history_12 rfl (lv_at hl 0 rfl) ?_
  refine lv_if_eq (tgt := 24) hx hb dX6_history_13 (by decide) (fun c0 => absurd c0 (by decide)) (fun c0 => ?_)
  refine lv_aload_n hx hb dX6_history_16 rfl (lv_at hl 1 rfl) ?_
  refine lv_iload_n hx hb dX6_history_17 rfl (lv_at hl 3 rfl) ?_
  replace V : Wd D tc A s H locs (Bw tc xo xa ad f g nT nH t ++ tl) := V
  refine x_allR V _ (rg_map _) (x_runV (n := 1) (rest := []) C V _ (rg_map _) (rg_nd _) (kN_tableOf l D tc xo xa ad f g nT nH t tl mk hfd) tw_195 tw_197 tp_0 tw_1 tw_198 (by decide +kernel) ⟨(Nat.le_of_ble_eq_true rfl), (Nat.le_of_ble_eq_true rfl)⟩ ⟨(Nat.le_of_ble_eq_true rfl), (Nat.le_of_ble_eq_true rfl)⟩ 0 5 rfl rfl rfl hl.1 rfl (Nat.le_of_ble_eq_true rfl) dX6_history_18) (fun H locs V => ?_)
  replace V : Wd D tc A s H locs ([(xo, .inr (5, [.ref (xa 0), .int nT, .ref (xa 1), .int nH, .ref (ad 0), .ref (ad 14), .int (t 42), .ref (ad 16), .int (t 43), .int (t 44)])), ((xa 0), .inl (tc 3, 4, .inr (.inr (.inr (.inr f))))), ((xa 1), .inl (tc 2, 12, .inr (.inr (.inr (.inr g)))))] ++ tl) := V
  refine lv_goto (tgt := 25) hx hb dX6_history_21 (by decide) ?_
  refine lv_astoreN (lv' := [(4, .null), (3, .int (1 : Int32)), (0, .ref xo), (1, .int kd), (2, .int mk)]) hx hb dX6_history_25 hl (by decide) rfl (fun ls hl => ?_)
  refine lv_iload_n hx hb dX6_history_27 rfl (lv_at hl 3 rfl) ?_
  refine x_allI V _ (rg_map _) (x_runS (n := 1) (rest := []) C V _ (rg_map _) (rg_nd _) (k_X3_isKind l D tc ([(xo, .inr (5, [.ref (xa 0), .int nT, .ref (xa 1), .int nH, .ref (ad 0), .ref (ad 14), .int (t 42), .ref (ad 16), .int (t 43), .int (t 44)])), ((xa 0), .inl (tc 3, 4, .inr (.inr (.inr (.inr f))))), ((xa 1), .inl (tc 2, 12, .inr (.inr (.inr (.inr g)))))] ++ tl) kd hkd) tw_215 tw_216 tw_8 tw_217 (by decide +kernel) ⟨(Nat.le_of_ble_eq_true rfl), (Nat.le_of_ble_eq_true rfl)⟩ ⟨(Nat.le_of_ble_eq_true rfl), (Nat.le_of_ble_eq_true rfl)⟩ rfl hl.1 rfl (Nat.le_of_ble_eq_true rfl) dX6_history_28) (fun H locs V _ => ?_)
  replace V : Wd D tc A s H locs ([(xo, .inr (5, [.ref (xa 0), .int nT, .ref (xa 1), .int nH, .ref (ad 0), .ref (ad 14), .int (t 42), .ref (ad 16), .int (t 43), .int (t 44)])), ((xa 0), .inl (tc 3, 4, .inr (.inr (.inr (.inr f))))), ((xa 1), .inl (tc 2, 12, .inr (.inr (.inr (.inr g)))))] ++ tl) := V
  refine lv_if_eq (tgt := 43) hx hb dX6_history_31 (by decide) (fun c0 => absurd c0 (by decide)) (fun c0 => ?_)
  refine lv_iload_n hx hb dX6_history_34 rfl (lv_at hl 1 rfl) ?_
  refine lv_if_eq (tgt := 45) hx hb dX6_history_35 (by decide) (fun c0 => absurd c0 (by decide)) (fun c0 => ?_)
  refine lv_aloadN hx hb dX6_history_38 (lv_at hl 0 rfl) ?_
  refine lv_ifnonnullN hx hb dX6_history_40 ?_
  refine lv_iconst (v := (-1)) hx hb dX6_history_43 (by decide) ?_
  exact x_ireti (RT := _) (Nat.le_of_ble_eq_true rfl) (Nat.le_of_ble_eq_true rfl) C hA rfl ⟨rfl, rfl⟩ V dX6_history_44)

set_option maxHeartbeats 4000000 in
set_option maxRecDepth 100000 in
theorem kc_X6_history_tf (l : Launch) (D : va_G) (tc : Nat → ClassId) (xo : Nat) (xa ad : Nat → Nat) (f g : Nat → Option Nat) (nT nH : Int32) (t : Nat → Int32) (tl : va_W) (kd mk : Int32) (ta : Nat → Nat) (us : Int32) (q : (Nat → Int32) × (Nat → Int32)) (heq : kd = 6) (hkd : j_X3_isKind kd = some 1) (hfd : FYt nT f (ta 0) mk) (hlt12 : ¬ nH < 12) : MetG l D tc yX6_history cX6_history 5 (some .int) 1 0 0 21 [.ref xo, .int kd, .int mk] (Bw tc xo xa ad f g nT nH t ++ (Tb tc ta us (some q) ++ tl)) (fun v w => v = some (.int (-4)) ∧ w = Bw tc xo xa ad f g nT nH t ++ (Tb tc ta us (some q) ++ tl)) :=
  x_ent (by decide) (own := RX6) rfl (Nat.le_of_ble_eq_true rfl) (fun p e s m args below meth c A sz ls hA _ hin C V hl => by
  obtain ⟨hx, hb, hr, hml, hown, hts, hlk, hN⟩ := id C
  replace hin := hin rfl
  try replace hin := hin rfl
  have hl : lv_has ls 5 [(0, .ref xo), (1, .int kd), (2, .int mk)] := hl
  generalize s.heap = H at V ⊢
  generalize ([] : List Loc) = locs at V ⊢
  refine lv_iload_n hx hb dX6_history_0 rfl (lv_at hl 1 rfl) ?_
  refine lv_bipush (v := 6) hx hb dX6_history_1 (by decide) ?_
  refine lv_icmp_ne (tgt := 10) hx hb dX6_history_3 (by decide) (fun c0 => absurd heq c0) (fun c0 => ?_)
  refine lv_iconst (v := 1) hx hb dX6_history_6 (by decide) ?_
  refine lv_goto (tgt := 11) hx hb dX6_history_7 (by decide) ?_
  refine lv_istore_n (lv' := [(3, .int (1 : Int32)), (0, .ref xo), (1, .int kd), (2, .int mk)]) hx hb dX6_history_11 rfl hl (by decide) rfl (fun ls hl => ?_)
  refine lv_iload_n hx hb dX6_history_12 rfl (lv_at hl 0 rfl) ?_
  refine lv_if_eq (tgt := 24) hx hb dX6_history_13 (by decide) (fun c0 => absurd c0 (by decide)) (fun c0 => ?_)
  refine lv_aload_n hx hb dX6_history_16 rfl (lv_at hl 1 rfl) ?_
  refine lv_iload_n hx hb dX6_history_17 rfl (lv_at hl 3 rfl) ?_
  replace V : Wd D tc A s H locs (Bw tc xo xa ad f g nT nH t ++ (Tb tc ta us (some q) ++ tl)) := V
  refine x_allR V _ (rg_map _) (x_runV (n := 1) (rest := []) C V _ (rg_map _) (rg_nd _) (kY_tableOf l D tc xo xa ad f g nT nH t (Tb tc ta us (some q) ++ tl) mk hfd) tw_195 tw_197 tp_0 tw_1 tw_198 (by decide +kernel) ⟨(Nat.le_of_ble_eq_true rfl), (Nat.le_of_ble_eq_true rfl)⟩ ⟨(Nat.le_of_ble_eq_true rfl), (Nat.le_of_ble_eq_true rfl)⟩ 0 5 rfl rfl rfl hl.1 rfl (Nat.le_of_ble_eq_true rfl) dX6_history_18) (fun H locs V => ?_)
  replace V : Wd D tc A s H locs ([(xo, .inr (5, [.ref (xa 0), .int nT, .ref (xa 1), .int nH, .ref (ad 0), .ref (ad 14), .int (t 42), .ref (ad 16), .int (t 43), .int (t 44)])), ((xa 0), .inl (tc 3, 4, .inr (.inr (.inr (.inr f))))), ((xa 1), .inl (tc 2, 12, .inr (.inr (.inr (.inr g))))), ((ta 0), .inr (4, [.ref (ta 1), .ref (ta 2), .int us])), ((ta 1), .inl (tc 0, 32, .inl q.1)), ((ta 2), .inl (tc 0, 32, .inl q.2))] ++ tl) := V
  refine lv_goto (tgt := 25) hx hb dX6_history_21 (by decide) ?_
  refine lv_astore (lv' := [(4, .ref (ta 0)), (3, .int (1 : Int32)), (0, .ref xo), (1, .int kd), (2, .int mk)]) hx hb dX6_history_25 hl (by decide) rfl (fun ls hl => ?_)
  refine lv_iload_n hx hb dX6_history_27 rfl (lv_at hl 3 rfl) ?_
  refine x_allI V _ (rg_map _) (x_runS (n := 1) (rest := []) C V _ (rg_map _) (rg_nd _) (k_X3_isKind l D tc ([(xo, .inr (5, [.ref (xa 0), .int nT, .ref (xa 1), .int nH, .ref (ad 0), .ref (ad 14), .int (t 42), .ref (ad 16), .int (t 43), .int (t 44)])), ((xa 0), .inl (tc 3, 4, .inr (.inr (.inr (.inr f))))), ((xa 1), .inl (tc 2, 12, .inr (.inr (.inr (.inr g))))), ((ta 0), .inr (4, [.ref (ta 1), .ref (ta 2), .int us])), ((ta 1), .inl (tc 0, 32, .inl q.1)), ((ta 2), .inl (tc 0, 32, .inl q.2))] ++ tl) kd hkd) tw_215 tw_216 tw_8 tw_217 (by decide +kernel) ⟨(Nat.le_of_ble_eq_true rfl), (Nat.le_of_ble_eq_true rfl)⟩ ⟨(Nat.le_of_ble_eq_true rfl), (Nat.le_of_ble_eq_true rfl)⟩ rfl hl.1 rfl (Nat.le_of_ble_eq_true rfl) dX6_history_28) (fun H locs V _ => ?_)
  replace V : Wd D tc A s H locs ([(xo, .inr (5, [.ref (xa 0), .int nT, .ref (xa 1), .int nH, .ref (ad 0), .ref (ad 14), .int (t 42), .ref (ad 16), .int (t 43), .int (t 44)])), ((xa 0), .inl (tc 3, 4, .inr (.inr (.inr (.inr f))))), ((xa 1), .inl (tc 2, 12, .inr (.inr (.inr (.inr g))))), ((ta 0), .inr (4, [.ref (ta 1), .ref (ta 2), .int us])), ((ta 1), .inl (tc 0, 32, .inl q.1)), ((ta 2), .inl (tc 0, 32, .inl q.2))] ++ tl) := V
  refine lv_if_eq (tgt := 43) hx hb dX6_history_31 (by decide) (fun c0 => absurd c0 (by decide)) (fun c0 => ?_)
  refine lv_iload_n hx hb dX6_history_34 rfl (lv_at hl 1 rfl) ?_
  refine lv_if_eq (tgt := 45) hx hb dX6_history_35 (by decide) (fun c0 => absurd c0 (by decide)) (fun c0 => ?_)
  refine lv_aload hx hb dX6_history_38 (lv_at hl 0 rfl) ?_
  refine lv_ifnonnull (tgt := 45) hx hb dX6_history_40 (by decide) ?_
  refine lv_iload_n hx hb dX6_history_45 rfl (lv_at hl 1 rfl) ?_
  refine lv_if_ne (tgt := 56) hx hb dX6_history_46 (by decide) (fun c0 => ?_) (fun c0 => absurd c0 (by decide))
  refine lv_aload_n hx hb dX6_history_56 rfl (lv_at hl 2 rfl) ?_
  refine x_get hx hb hts hown V inX6 0 rfl rfl 3 (by decide) tw_144 rfl rfl dX6_history_57 ?_
  refine lv_bipush (v := 12) hx hb dX6_history_60 (by decide) ?_
  refine lv_icmp_lt (tgt := 68) hx hb dX6_history_62 (by decide) (fun c0 => absurd c0 hlt12) (fun c0 => ?_)
  refine lv_bipush (v := (-4)) hx hb dX6_history_65 (by decide) ?_
  exact x_ireti (RT := _) (Nat.le_of_ble_eq_true rfl) (Nat.le_of_ble_eq_true rfl) C hA rfl ⟨rfl, rfl⟩ V dX6_history_67)

set_option maxHeartbeats 4000000 in
set_option maxRecDepth 100000 in
theorem kc_X6_history_t0 (l : Launch) (D : va_G) (tc : Nat → ClassId) (xo : Nat) (xa ad : Nat → Nat) (f g : Nat → Option Nat) (nT nH : Int32) (t : Nat → Int32) (tl : va_W) (kd mk : Int32) (ta : Nat → Nat) (us : Int32) (q : (Nat → Int32) × (Nat → Int32)) (heq : kd = 6) (hkd : j_X3_isKind kd = some 1) (hfd : FYt nT f (ta 0) mk) (hlt12 : nH < 12) (hin12 : vp_in nH 12) : MetG l D tc yX6_history cX6_history 5 (some .int) 2 8 81 34 [.ref xo, .int kd, .int mk] (Bw tc xo xa ad f g nT nH t ++ (Tb tc ta us (some q) ++ tl)) (fun v w => v = some (.int (nH + 1 - 1)) ∧ ∃ ha0 : Nat → Nat, w = Bw tc xo xa ad f (va_up g nH.toNatClampNeg (some (ha0 6))) nT (nH + 1) t ++ (Tb tc ta 1 (some q) ++ (Hw tc ha0 (.ref (ta 0)) (sI St0 0 kd) ++ tl))) :=
  x_ent (by decide) (own := RX6) rfl (Nat.le_of_ble_eq_true rfl) (fun p e s m args below meth c A sz ls hA _ hin C V hl => by
  obtain ⟨hx, hb, hr, hml, hown, hts, hlk, hN⟩ := id C
  replace hin := hin rfl
  try replace hin := hin rfl
  have hl : lv_has ls 5 [(0, .ref xo), (1, .int kd), (2, .int mk)] := hl
  generalize s.heap = H at V ⊢
  generalize ([] : List Loc) = locs at V ⊢
  refine lv_iload_n hx hb dX6_history_0 rfl (lv_at hl 1 rfl) ?_
  refine lv_bipush (v := 6) hx hb dX6_history_1 (by decide) ?_
  refine lv_icmp_ne (tgt := 10) hx hb dX6_history_3 (by decide) (fun c0 => absurd heq c0) (fun c0 => ?_)
  refine lv_iconst (v := 1) hx hb dX6_history_6 (by decide) ?_
  refine lv_goto (tgt := 11) hx hb dX6_history_7 (by decide) ?_
  refine lv_istore_n (lv' := [(3, .int (1 : Int32)), (0, .ref xo), (1, .int kd), (2, .int mk)]) hx hb dX6_history_11 rfl hl (by decide) rfl (fun ls hl => ?_)
  refine lv_iload_n hx hb dX6_history_12 rfl (lv_at hl 0 rfl) ?_
  refine lv_if_eq (tgt := 24) hx hb dX6_history_13 (by decide) (fun c0 => absurd c0 (by decide)) (fun c0 => ?_)
  refine lv_aload_n hx hb dX6_history_16 rfl (lv_at hl 1 rfl) ?_
  refine lv_iload_n hx hb dX6_history_17 rfl (lv_at hl 3 rfl) ?_
  replace V : Wd D tc A s H locs (Bw tc xo xa ad f g nT nH t ++ (Tb tc ta us (some q) ++ tl)) := V
  refine x_allR V _ (rg_map _) (x_runV (n := 1) (rest := []) C V _ (rg_map _) (rg_nd _) (kY_tableOf l D tc xo xa ad f g nT nH t (Tb tc ta us (some q) ++ tl) mk hfd) tw_195 tw_197 tp_0 tw_1 tw_198 (by decide +kernel) ⟨(Nat.le_of_ble_eq_true rfl), (Nat.le_of_ble_eq_true rfl)⟩ ⟨(Nat.le_of_ble_eq_true rfl), (Nat.le_of_ble_eq_true rfl)⟩ 0 5 rfl rfl rfl hl.1 rfl (Nat.le_of_ble_eq_true rfl) dX6_history_18) (fun H locs V => ?_)
  replace V : Wd D tc A s H locs ([(xo, .inr (5, [.ref (xa 0), .int nT, .ref (xa 1), .int nH, .ref (ad 0), .ref (ad 14), .int (t 42), .ref (ad 16), .int (t 43), .int (t 44)])), ((xa 0), .inl (tc 3, 4, .inr (.inr (.inr (.inr f))))), ((xa 1), .inl (tc 2, 12, .inr (.inr (.inr (.inr g))))), ((ta 0), .inr (4, [.ref (ta 1), .ref (ta 2), .int us])), ((ta 1), .inl (tc 0, 32, .inl q.1)), ((ta 2), .inl (tc 0, 32, .inl q.2))] ++ tl) := V
  refine lv_goto (tgt := 25) hx hb dX6_history_21 (by decide) ?_
  refine lv_astore (lv' := [(4, .ref (ta 0)), (3, .int (1 : Int32)), (0, .ref xo), (1, .int kd), (2, .int mk)]) hx hb dX6_history_25 hl (by decide) rfl (fun ls hl => ?_)
  refine lv_iload_n hx hb dX6_history_27 rfl (lv_at hl 3 rfl) ?_
  refine x_allI V _ (rg_map _) (x_runS (n := 1) (rest := []) C V _ (rg_map _) (rg_nd _) (k_X3_isKind l D tc ([(xo, .inr (5, [.ref (xa 0), .int nT, .ref (xa 1), .int nH, .ref (ad 0), .ref (ad 14), .int (t 42), .ref (ad 16), .int (t 43), .int (t 44)])), ((xa 0), .inl (tc 3, 4, .inr (.inr (.inr (.inr f))))), ((xa 1), .inl (tc 2, 12, .inr (.inr (.inr (.inr g))))), ((ta 0), .inr (4, [.ref (ta 1), .ref (ta 2), .int us])), ((ta 1), .inl (tc 0, 32, .inl q.1)), ((ta 2), .inl (tc 0, 32, .inl q.2))] ++ tl) kd hkd) tw_215 tw_216 tw_8 tw_217 (by decide +kernel) ⟨(Nat.le_of_ble_eq_true rfl), (Nat.le_of_ble_eq_true rfl)⟩ ⟨(Nat.le_of_ble_eq_true rfl), (Nat.le_of_ble_eq_true rfl)⟩ rfl hl.1 rfl (Nat.le_of_ble_eq_true rfl) dX6_history_28) (fun H locs V _ => ?_)
  replace V : Wd D tc A s H locs ([(xo, .inr (5, [.ref (xa 0), .int nT, .ref (xa 1), .int nH, .ref (ad 0), .ref (ad 14), .int (t 42), .ref (ad 16), .int (t 43), .int (t 44)])), ((xa 0), .inl (tc 3, 4, .inr (.inr (.inr (.inr f))))), ((xa 1), .inl (tc 2, 12, .inr (.inr (.inr (.inr g))))), ((ta 0), .inr (4, [.ref (ta 1), .ref (ta 2), .int us])), ((ta 1), .inl (tc 0, 32, .inl q.1)), ((ta 2), .inl (tc 0, 32, .inl q.2))] ++ tl) := V
  refine lv_if_eq (tgt := 43) hx hb dX6_history_31 (by decide) (fun c0 => absurd c0 (by decide)) (fun c0 => ?_)
  refine lv_iload_n hx hb dX6_history_34 rfl (lv_at hl 1 rfl) ?_
  refine lv_if_eq (tgt := 45) hx hb dX6_history_35 (by decide) (fun c0 => absurd c0 (by decide)) (fun c0 => ?_)
  refine lv_aload hx hb dX6_history_38 (lv_at hl 0 rfl) ?_
  refine lv_ifnonnull (tgt := 45) hx hb dX6_history_40 (by decide) ?_
  refine lv_iload_n hx hb dX6_history_45 rfl (lv_at hl 1 rfl) ?_
  refine lv_if_ne (tgt := 56) hx hb dX6_history_46 (by decide) (fun c0 => ?_) (fun c0 => absurd c0 (by decide))
  refine lv_aload_n hx hb dX6_history_56 rfl (lv_at hl 2 rfl) ?_
  refine x_get hx hb hts hown V inX6 0 rfl rfl 3 (by decide) tw_144 rfl rfl dX6_history_57 ?_
  refine lv_bipush (v := 12) hx hb dX6_history_60 (by decide) ?_
  refine lv_icmp_lt (tgt := 68) hx hb dX6_history_62 (by decide) (fun c0 => ?_) (fun c0 => absurd hlt12 c0)
  refine lv_aload hx hb dX6_history_68 (lv_at hl 0 rfl) ?_
  refine lv_ifnull hx hb dX6_history_70 ?_
  refine lv_aload hx hb dX6_history_73 (lv_at hl 0 rfl) ?_
  refine lv_iconst (v := 1) hx hb dX6_history_75 (by decide) ?_
  refine x_put hx hb hts hown V inX5 tyX5_ok nmX5 3 rfl rfl 2 (by decide) tw_183 rfl rfl rfl rfl (Nat.le_of_ble_eq_true rfl) dX6_history_76 (fun H locs V => ?_)
  replace V : Wd D tc A s H locs ([(xo, .inr (5, [.ref (xa 0), .int nT, .ref (xa 1), .int nH, .ref (ad 0), .ref (ad 14), .int (t 42), .ref (ad 16), .int (t 43), .int (t 44)])), ((xa 0), .inl (tc 3, 4, .inr (.inr (.inr (.inr f))))), ((xa 1), .inl (tc 2, 12, .inr (.inr (.inr (.inr g))))), ((ta 0), .inr (4, [.ref (ta 1), .ref (ta 2), .int (1 : Int32)])), ((ta 1), .inl (tc 0, 32, .inl q.1)), ((ta 2), .inl (tc 0, 32, .inl q.2))] ++ tl) := V
  refine lv_aload_n hx hb dX6_history_79 rfl (lv_at hl 2 rfl) ?_
  refine x_new (fs := [.int 0, .null, .int 0, .int 0, .null, .null, .null, .null, .null, .null, .null]) hx hb hts hown V 1 inX1 tyX1_ok tw_22 tw_31 tw_3 rfl (fun j hj => by rcases (show j = 0 ∨ j = 1 ∨ j = 2 ∨ j = 3 ∨ j = 4 ∨ j = 5 ∨ j = 6 ∨ j = 7 ∨ j = 8 ∨ j = 9 ∨ j = 10 by omega) with rfl | rfl | rfl | rfl | rfl | rfl | rfl | rfl | rfl | rfl | rfl <;> rfl) (Nat.le_of_ble_eq_true rfl) (Nat.le_of_ble_eq_true rfl) dX6_history_80 (fun q1 H V => ?_)
  replace V : Wd D tc A s H locs ([(xo, .inr (5, [.ref (xa 0), .int nT, .ref (xa 1), .int nH, .ref (ad 0), .ref (ad 14), .int (t 42), .ref (ad 16), .int (t 43), .int (t 44)])), ((xa 0), .inl (tc 3, 4, .inr (.inr (.inr (.inr f))))), ((xa 1), .inl (tc 2, 12, .inr (.inr (.inr (.inr g))))), ((ta 0), .inr (4, [.ref (ta 1), .ref (ta 2), .int (1 : Int32)])), ((ta 1), .inl (tc 0, 32, .inl q.1)), ((ta 2), .inl (tc 0, 32, .inl q.2)), (q1, .inr (1, [.int 0, .null, .int 0, .int 0, .null, .null, .null, .null, .null, .null, .null]))] ++ tl) := pm_tail V
  refine lv_dup hx hb dX6_history_83 rfl ?_
  refine lv_iload_n hx hb dX6_history_84 rfl (lv_at hl 3 rfl) ?_
  refine lv_aload hx hb dX6_history_85 (lv_at hl 0 rfl) ?_
  replace V : Wd D tc A s H locs ([(xo, .inr (5, [.ref (xa 0), .int nT, .ref (xa 1), .int nH, .ref (ad 0), .ref (ad 14), .int (t 42), .ref (ad 16), .int (t 43), .int (t 44)])), ((xa 0), .inl (tc 3, 4, .inr (.inr (.inr (.inr f))))), ((xa 1), .inl (tc 2, 12, .inr (.inr (.inr (.inr g))))), ((ta 0), .inr (4, [.ref (ta 1), .ref (ta 2), .int (1 : Int32)])), ((ta 1), .inl (tc 0, 32, .inl q.1)), ((ta 2), .inl (tc 0, 32, .inl q.2))] ++ ([(q1, .inr (1, [.int 0, .null, .int 0, .int 0, .null, .null, .null, .null, .null, .null, .null]))] ++ tl)) := V
  refine x_midG (w0 := [(xo, .inr (5, [.ref (xa 0), .int nT, .ref (xa 1), .int nH, .ref (ad 0), .ref (ad 14), .int (t 42), .ref (ad 16), .int (t 43), .int (t 44)])), ((xa 0), .inl (tc 3, 4, .inr (.inr (.inr (.inr f))))), ((xa 1), .inl (tc 2, 12, .inr (.inr (.inr (.inr g))))), ((ta 0), .inr (4, [.ref (ta 1), .ref (ta 2), .int (1 : Int32)])), ((ta 1), .inl (tc 0, 32, .inl q.1)), ((ta 2), .inl (tc 0, 32, .inl q.2))]) (wr := tl) V (x_runI (n := 2) (rest := [.ref q1, .ref xo]) C V _ (mid_map _ _ _) (mid_nd _ _) (kc_X1_init_R l D tc q1 kd (ta 0)) tw_218 tw_33 tw_3 tw_34 rfl (by decide +kernel) ⟨(Nat.le_of_ble_eq_true rfl), (Nat.le_of_ble_eq_true rfl)⟩ ⟨(Nat.le_of_ble_eq_true rfl), (Nat.le_of_ble_eq_true rfl)⟩ rfl hl.1 rfl (Nat.le_of_ble_eq_true rfl) dX6_history_87) (fun v0 w1 H locs hRT _ V2 => ?_)
  clear V
  obtain ⟨rfl, ha0, rfl, hq9⟩ := hRT
  subst hq9
  have V : Wd D tc A s H locs (Bw tc xo xa ad f g nT nH t ++ (Tb tc ta 1 (some q) ++ (Hw tc ha0 (.ref (ta 0)) (sI St0 0 kd) ++ tl))) := V2
  replace V : Wd D tc A s H locs (Bw tc xo xa ad f g nT nH t ++ (Tb tc ta 1 (some q) ++ (Hw tc ha0 (.ref (ta 0)) (sI St0 0 kd) ++ tl))) := V
  refine x_allI V _ (rg_map _) (x_runV (n := 1) (rest := []) C V _ (rg_map _) (rg_nd _) (kc_X6_keep l D tc xo xa ad f g nT nH t (Tb tc ta 1 (some q) ++ (Hw tc ha0 (.ref (ta 0)) (sI St0 0 kd) ++ tl)) (ha0 6) _ hlt12 hin12 3 rfl) tw_219 tw_221 tp_1 tw_1 tw_222 (by decide +kernel) ⟨(Nat.le_of_ble_eq_true rfl), (Nat.le_of_ble_eq_true rfl)⟩ ⟨(Nat.le_of_ble_eq_true rfl), (Nat.le_of_ble_eq_true rfl)⟩ 0 5 rfl rfl rfl hl.1 rfl (Nat.le_of_ble_eq_true rfl) dX6_history_90) (fun H locs V _ => ?_)
  exact x_ireti (RT := _) (Nat.le_of_ble_eq_true rfl) (Nat.le_of_ble_eq_true rfl) C hA rfl ⟨rfl, ha0, rfl⟩ V dX6_history_93)

set_option maxHeartbeats 4000000 in
set_option maxRecDepth 100000 in
theorem kc_X6_copy_n (l : Launch) (D : va_G) (tc : Nat → ClassId) (xo : Nat) (xa ad : Nat → Nat) (f g : Nat → Option Nat) (nT nH : Int32) (t : Nat → Int32) (tl : va_W) (h : Int32) (hfd : FN nH h) : MetG l D tc yX6_copy cX6_copy 3 (some .int) 1 0 0 21 [.ref xo, .int h] (Bw tc xo xa ad f g nT nH t ++ tl) (fun v w => v = some (.int (-1)) ∧ w = Bw tc xo xa ad f g nT nH t ++ tl) :=
  x_ent (by decide) (own := RX6) rfl (Nat.le_of_ble_eq_true rfl) (fun p e s m args below meth c A sz ls hA _ hin C V hl => by
  obtain ⟨hx, hb, hr, hml, hown, hts, hlk, hN⟩ := id C
  replace hin := hin rfl
  try replace hin := hin rfl
  have hl : lv_has ls 3 [(0, .ref xo), (1, .int h)] := hl
  generalize s.heap = H at V ⊢
  generalize ([] : List Loc) = locs at V ⊢
  refine lv_aload_n hx hb dX6_copy_0 rfl (lv_at hl 0 rfl) ?_
  refine lv_iload_n hx hb dX6_copy_1 rfl (lv_at hl 1 rfl) ?_
  replace V : Wd D tc A s H locs (Bw tc xo xa ad f g nT nH t ++ tl) := V
  refine x_allR V _ (rg_map _) (x_runV (n := 1) (rest := []) C V _ (rg_map _) (rg_nd _) (kN_historyOf l D tc xo xa ad f g nT nH t tl h hfd) tw_227 tw_229 tp_2 tw_1 tw_230 (by decide +kernel) ⟨(Nat.le_of_ble_eq_true rfl), (Nat.le_of_ble_eq_true rfl)⟩ ⟨(Nat.le_of_ble_eq_true rfl), (Nat.le_of_ble_eq_true rfl)⟩ 0 5 rfl rfl rfl hl.1 rfl (Nat.le_of_ble_eq_true rfl) dX6_copy_2) (fun H locs V => ?_)
  replace V : Wd D tc A s H locs ([(xo, .inr (5, [.ref (xa 0), .int nT, .ref (xa 1), .int nH, .ref (ad 0), .ref (ad 14), .int (t 42), .ref (ad 16), .int (t 43), .int (t 44)])), ((xa 0), .inl (tc 3, 4, .inr (.inr (.inr (.inr f))))), ((xa 1), .inl (tc 2, 12, .inr (.inr (.inr (.inr g)))))] ++ tl) := V
  refine lv_astore_nN (lv' := [(2, .null), (0, .ref xo), (1, .int h)]) hx hb dX6_copy_5 rfl hl (by decide) rfl (fun ls hl => ?_)
  refine lv_aload_nN hx hb dX6_copy_6 rfl (lv_at hl 0 rfl) ?_
  refine lv_ifnonnullN hx hb dX6_copy_7 ?_
  refine lv_iconst (v := (-1)) hx hb dX6_copy_10 (by decide) ?_
  exact x_ireti (RT := _) (Nat.le_of_ble_eq_true rfl) (Nat.le_of_ble_eq_true rfl) C hA rfl ⟨rfl, rfl⟩ V dX6_copy_11)

set_option maxHeartbeats 4000000 in
set_option maxRecDepth 100000 in
theorem kc_X6_copy_fN (l : Launch) (D : va_G) (tc : Nat → ClassId) (xo : Nat) (xa ad : Nat → Nat) (f g : Nat → Option Nat) (nT nH : Int32) (t : Nat → Int32) (rest : va_W) (ha : Nat → Nat) (u : St) (h : Int32) (hfd : FY nH g (ha 6) h) (hlt12 : ¬ nH < 12) : MetG l D tc yX6_copy cX6_copy 3 (some .int) 1 0 0 21 [.ref xo, .int h] (Bw tc xo xa ad f g nT nH t ++ (Hw tc ha (.null) u ++ rest)) (fun v w => v = some (.int (-4)) ∧ w = Bw tc xo xa ad f g nT nH t ++ (Hw tc ha (.null) u ++ rest)) :=
  x_ent (by decide) (own := RX6) rfl (Nat.le_of_ble_eq_true rfl) (fun p e s m args below meth c A sz ls hA _ hin C V hl => by
  obtain ⟨hx, hb, hr, hml, hown, hts, hlk, hN⟩ := id C
  replace hin := hin rfl
  try replace hin := hin rfl
  have hl : lv_has ls 3 [(0, .ref xo), (1, .int h)] := hl
  generalize s.heap = H at V ⊢
  generalize ([] : List Loc) = locs at V ⊢
  refine lv_aload_n hx hb dX6_copy_0 rfl (lv_at hl 0 rfl) ?_
  refine lv_iload_n hx hb dX6_copy_1 rfl (lv_at hl 1 rfl) ?_
  replace V : Wd D tc A s H locs (Bw tc xo xa ad f g nT nH t ++ (Hw tc ha (.null) u ++ rest)) := V
  refine x_allR V _ (rg_map _) (x_runV (n := 1) (rest := []) C V _ (rg_map _) (rg_nd _) (kY_historyOf l D tc xo xa ad f g nT nH t (Hw tc ha (.null) u ++ rest) h hfd) tw_227 tw_229 tp_2 tw_1 tw_230 (by decide +kernel) ⟨(Nat.le_of_ble_eq_true rfl), (Nat.le_of_ble_eq_true rfl)⟩ ⟨(Nat.le_of_ble_eq_true rfl), (Nat.le_of_ble_eq_true rfl)⟩ 0 5 rfl rfl rfl hl.1 rfl (Nat.le_of_ble_eq_true rfl) dX6_copy_2) (fun H locs V => ?_)
  replace V : Wd D tc A s H locs ([(xo, .inr (5, [.ref (xa 0), .int nT, .ref (xa 1), .int nH, .ref (ad 0), .ref (ad 14), .int (t 42), .ref (ad 16), .int (t 43), .int (t 44)])), ((xa 0), .inl (tc 3, 4, .inr (.inr (.inr (.inr f))))), ((xa 1), .inl (tc 2, 12, .inr (.inr (.inr (.inr g))))), ((ha 6), .inr (1, [.int (u.1 0), .null, .int (u.1 2), .int (u.1 3), .ref (ha 7), .ref (ha 8), .ref (ha 9), .ref (ha 10), .ref (ha 11), .ref (ha 12), .ref (ha 13)])), ((ha 7), .inl (tc 0, 10, .inl (u.2.1 4))), ((ha 8), .inl (tc 0, 10, .inl (u.2.1 5))), ((ha 9), .inl (tc 0, 10, .inl (u.2.1 6))), ((ha 10), .inl (tc 0, 10, .inl (u.2.1 7))), ((ha 11), .inl (tc 0, 10, .inl (u.2.1 8))), ((ha 12), .inl (tc 0, 10, .inl (u.2.1 9))), ((ha 13), .inl (tc 0, 10, .inl (u.2.1 10)))] ++ rest) := V
  refine lv_astore_n (lv' := [(2, .ref (ha 6)), (0, .ref xo), (1, .int h)]) hx hb dX6_copy_5 rfl hl (by decide) rfl (fun ls hl => ?_)
  refine lv_aload_n hx hb dX6_copy_6 rfl (lv_at hl 0 rfl) ?_
  refine lv_ifnonnull (tgt := 12) hx hb dX6_copy_7 (by decide) ?_
  refine lv_aload_n hx hb dX6_copy_12 rfl (lv_at hl 1 rfl) ?_
  refine x_get hx hb hts hown V inX6 0 rfl rfl 3 (by decide) tw_144 rfl rfl dX6_copy_13 ?_
  refine lv_bipush (v := 12) hx hb dX6_copy_16 (by decide) ?_
  refine lv_icmp_lt (tgt := 24) hx hb dX6_copy_18 (by decide) (fun c0 => absurd c0 hlt12) (fun c0 => ?_)
  refine lv_bipush (v := (-4)) hx hb dX6_copy_21 (by decide) ?_
  exact x_ireti (RT := _) (Nat.le_of_ble_eq_true rfl) (Nat.le_of_ble_eq_true rfl) C hA rfl ⟨rfl, rfl⟩ V dX6_copy_23)

set_option maxHeartbeats 4000000 in
set_option maxRecDepth 100000 in
theorem kc_X6_copy_N (l : Launch) (D : va_G) (tc : Nat → ClassId) (xo : Nat) (xa ad : Nat → Nat) (f g : Nat → Option Nat) (nT nH : Int32) (t : Nat → Int32) (rest : va_W) (ha : Nat → Nat) (u : St) (h : Int32) (hfd : FY nH g (ha 6) h) (hlt12 : nH < 12) (hin12 : vp_in nH 12) : MetG l D tc yX6_copy cX6_copy 3 (some .int) 3 8 81 81 [.ref xo, .int h] (Bw tc xo xa ad f g nT nH t ++ (Hw tc ha (.null) u ++ rest)) (fun v w => v = some (.int (nH + 1 - 1)) ∧ ∃ hb1 : Nat → Nat, w = Bw tc xo xa ad f (va_up g nH.toNatClampNeg (some (hb1 6))) nT (nH + 1) t ++ ((Hw tc ha (.null) u ++ Hw tc hb1 (.null) (twS u)) ++ rest)) :=
  x_ent (by decide) (own := RX6) rfl (Nat.le_of_ble_eq_true rfl) (fun p e s m args below meth c A sz ls hA _ hin C V hl => by
  obtain ⟨hx, hb, hr, hml, hown, hts, hlk, hN⟩ := id C
  replace hin := hin rfl
  try replace hin := hin rfl
  have hl : lv_has ls 3 [(0, .ref xo), (1, .int h)] := hl
  generalize s.heap = H at V ⊢
  generalize ([] : List Loc) = locs at V ⊢
  refine lv_aload_n hx hb dX6_copy_0 rfl (lv_at hl 0 rfl) ?_
  refine lv_iload_n hx hb dX6_copy_1 rfl (lv_at hl 1 rfl) ?_
  replace V : Wd D tc A s H locs (Bw tc xo xa ad f g nT nH t ++ (Hw tc ha (.null) u ++ rest)) := V
  refine x_allR V _ (rg_map _) (x_runV (n := 1) (rest := []) C V _ (rg_map _) (rg_nd _) (kY_historyOf l D tc xo xa ad f g nT nH t (Hw tc ha (.null) u ++ rest) h hfd) tw_227 tw_229 tp_2 tw_1 tw_230 (by decide +kernel) ⟨(Nat.le_of_ble_eq_true rfl), (Nat.le_of_ble_eq_true rfl)⟩ ⟨(Nat.le_of_ble_eq_true rfl), (Nat.le_of_ble_eq_true rfl)⟩ 0 5 rfl rfl rfl hl.1 rfl (Nat.le_of_ble_eq_true rfl) dX6_copy_2) (fun H locs V => ?_)
  replace V : Wd D tc A s H locs ([(xo, .inr (5, [.ref (xa 0), .int nT, .ref (xa 1), .int nH, .ref (ad 0), .ref (ad 14), .int (t 42), .ref (ad 16), .int (t 43), .int (t 44)])), ((xa 0), .inl (tc 3, 4, .inr (.inr (.inr (.inr f))))), ((xa 1), .inl (tc 2, 12, .inr (.inr (.inr (.inr g))))), ((ha 6), .inr (1, [.int (u.1 0), .null, .int (u.1 2), .int (u.1 3), .ref (ha 7), .ref (ha 8), .ref (ha 9), .ref (ha 10), .ref (ha 11), .ref (ha 12), .ref (ha 13)])), ((ha 7), .inl (tc 0, 10, .inl (u.2.1 4))), ((ha 8), .inl (tc 0, 10, .inl (u.2.1 5))), ((ha 9), .inl (tc 0, 10, .inl (u.2.1 6))), ((ha 10), .inl (tc 0, 10, .inl (u.2.1 7))), ((ha 11), .inl (tc 0, 10, .inl (u.2.1 8))), ((ha 12), .inl (tc 0, 10, .inl (u.2.1 9))), ((ha 13), .inl (tc 0, 10, .inl (u.2.1 10)))] ++ rest) := V
  refine lv_astore_n (lv' := [(2, .ref (ha 6)), (0, .ref xo), (1, .int h)]) hx hb dX6_copy_5 rfl hl (by decide) rfl (fun ls hl => ?_)
  refine lv_aload_n hx hb dX6_copy_6 rfl (lv_at hl 0 rfl) ?_
  refine lv_ifnonnull (tgt := 12) hx hb dX6_copy_7 (by decide) ?_
  refine lv_aload_n hx hb dX6_copy_12 rfl (lv_at hl 1 rfl) ?_
  refine x_get hx hb hts hown V inX6 0 rfl rfl 3 (by decide) tw_144 rfl rfl dX6_copy_13 ?_
  refine lv_bipush (v := 12) hx hb dX6_copy_16 (by decide) ?_
  refine lv_icmp_lt (tgt := 24) hx hb dX6_copy_18 (by decide) (fun c0 => ?_) (fun c0 => absurd hlt12 c0)
  refine lv_aload_n hx hb dX6_copy_24 rfl (lv_at hl 1 rfl) ?_
  refine lv_aload_n hx hb dX6_copy_25 rfl (lv_at hl 0 rfl) ?_
  replace V : Wd D tc A s H locs (Bw tc xo xa ad f g nT nH t ++ (Hw tc ha (.null) u ++ rest)) := V
  refine x_midG (w0 := Bw tc xo xa ad f g nT nH t) (wr := rest) V (x_runV (n := 0) (rest := [.ref xo]) C V _ (mid_map _ _ _) (mid_nd _ _) (kc_X1_twin_N l D tc ha u) tw_231 tw_232 tw_233 tw_3 tw_234 (by decide +kernel) ⟨(Nat.le_of_ble_eq_true rfl), (Nat.le_of_ble_eq_true rfl)⟩ ⟨(Nat.le_of_ble_eq_true rfl), (Nat.le_of_ble_eq_true rfl)⟩ 3 1 rfl rfl rfl hl.1 rfl (Nat.le_of_ble_eq_true rfl) dX6_copy_26) (fun v0 w1 H locs hRT _ V => ?_)
  obtain ⟨hb1, rfl, rfl⟩ := hRT
  replace V : Wd D tc A s H locs (Bw tc xo xa ad f g nT nH t ++ ((Hw tc ha (.null) u ++ Hw tc hb1 (.null) (twS u)) ++ rest)) := V
  replace V : Wd D tc A s H locs (Bw tc xo xa ad f g nT nH t ++ ((Hw tc ha (.null) u ++ Hw tc hb1 (.null) (twS u)) ++ rest)) := V
  refine x_allI V _ (rg_map _) (x_runV (n := 1) (rest := []) C V _ (rg_map _) (rg_nd _) (kc_X6_keep l D tc xo xa ad f g nT nH t ((Hw tc ha (.null) u ++ Hw tc hb1 (.null) (twS u)) ++ rest) (hb1 6) _ hlt12 hin12 8 rfl) tw_219 tw_221 tp_1 tw_1 tw_222 (by decide +kernel) ⟨(Nat.le_of_ble_eq_true rfl), (Nat.le_of_ble_eq_true rfl)⟩ ⟨(Nat.le_of_ble_eq_true rfl), (Nat.le_of_ble_eq_true rfl)⟩ 0 5 rfl rfl rfl hl.1 rfl (Nat.le_of_ble_eq_true rfl) dX6_copy_29) (fun H locs V _ => ?_)
  exact x_ireti (RT := _) (Nat.le_of_ble_eq_true rfl) (Nat.le_of_ble_eq_true rfl) C hA rfl ⟨rfl, hb1, rfl⟩ V dX6_copy_32)

set_option maxHeartbeats 4000000 in
set_option maxRecDepth 100000 in
theorem kc_X6_copy_fR (l : Launch) (D : va_G) (tc : Nat → ClassId) (xo : Nat) (xa ad : Nat → Nat) (f g : Nat → Option Nat) (nT nH : Int32) (t : Nat → Int32) (rest : va_W) (ha : Nat → Nat) (tb0 : Nat) (u : St) (h : Int32) (hfd : FY nH g (ha 6) h) (hlt12 : ¬ nH < 12) : MetG l D tc yX6_copy cX6_copy 3 (some .int) 1 0 0 21 [.ref xo, .int h] (Bw tc xo xa ad f g nT nH t ++ (Hw tc ha (.ref tb0) u ++ rest)) (fun v w => v = some (.int (-4)) ∧ w = Bw tc xo xa ad f g nT nH t ++ (Hw tc ha (.ref tb0) u ++ rest)) :=
  x_ent (by decide) (own := RX6) rfl (Nat.le_of_ble_eq_true rfl) (fun p e s m args below meth c A sz ls hA _ hin C V hl => by
  obtain ⟨hx, hb, hr, hml, hown, hts, hlk, hN⟩ := id C
  replace hin := hin rfl
  try replace hin := hin rfl
  have hl : lv_has ls 3 [(0, .ref xo), (1, .int h)] := hl
  generalize s.heap = H at V ⊢
  generalize ([] : List Loc) = locs at V ⊢
  refine lv_aload_n hx hb dX6_copy_0 rfl (lv_at hl 0 rfl) ?_
  refine lv_iload_n hx hb dX6_copy_1 rfl (lv_at hl 1 rfl) ?_
  replace V : Wd D tc A s H locs (Bw tc xo xa ad f g nT nH t ++ (Hw tc ha (.ref tb0) u ++ rest)) := V
  refine x_allR V _ (rg_map _) (x_runV (n := 1) (rest := []) C V _ (rg_map _) (rg_nd _) (kY_historyOf l D tc xo xa ad f g nT nH t (Hw tc ha (.ref tb0) u ++ rest) h hfd) tw_227 tw_229 tp_2 tw_1 tw_230 (by decide +kernel) ⟨(Nat.le_of_ble_eq_true rfl), (Nat.le_of_ble_eq_true rfl)⟩ ⟨(Nat.le_of_ble_eq_true rfl), (Nat.le_of_ble_eq_true rfl)⟩ 0 5 rfl rfl rfl hl.1 rfl (Nat.le_of_ble_eq_true rfl) dX6_copy_2) (fun H locs V => ?_)
  replace V : Wd D tc A s H locs ([(xo, .inr (5, [.ref (xa 0), .int nT, .ref (xa 1), .int nH, .ref (ad 0), .ref (ad 14), .int (t 42), .ref (ad 16), .int (t 43), .int (t 44)])), ((xa 0), .inl (tc 3, 4, .inr (.inr (.inr (.inr f))))), ((xa 1), .inl (tc 2, 12, .inr (.inr (.inr (.inr g))))), ((ha 6), .inr (1, [.int (u.1 0), .ref tb0, .int (u.1 2), .int (u.1 3), .ref (ha 7), .ref (ha 8), .ref (ha 9), .ref (ha 10), .ref (ha 11), .ref (ha 12), .ref (ha 13)])), ((ha 7), .inl (tc 0, 10, .inl (u.2.1 4))), ((ha 8), .inl (tc 0, 10, .inl (u.2.1 5))), ((ha 9), .inl (tc 0, 10, .inl (u.2.1 6))), ((ha 10), .inl (tc 0, 10, .inl (u.2.1 7))), ((ha 11), .inl (tc 0, 10, .inl (u.2.1 8))), ((ha 12), .inl (tc 0, 10, .inl (u.2.1 9))), ((ha 13), .inl (tc 0, 10, .inl (u.2.1 10)))] ++ rest) := V
  refine lv_astore_n (lv' := [(2, .ref (ha 6)), (0, .ref xo), (1, .int h)]) hx hb dX6_copy_5 rfl hl (by decide) rfl (fun ls hl => ?_)
  refine lv_aload_n hx hb dX6_copy_6 rfl (lv_at hl 0 rfl) ?_
  refine lv_ifnonnull (tgt := 12) hx hb dX6_copy_7 (by decide) ?_
  refine lv_aload_n hx hb dX6_copy_12 rfl (lv_at hl 1 rfl) ?_
  refine x_get hx hb hts hown V inX6 0 rfl rfl 3 (by decide) tw_144 rfl rfl dX6_copy_13 ?_
  refine lv_bipush (v := 12) hx hb dX6_copy_16 (by decide) ?_
  refine lv_icmp_lt (tgt := 24) hx hb dX6_copy_18 (by decide) (fun c0 => absurd c0 hlt12) (fun c0 => ?_)
  refine lv_bipush (v := (-4)) hx hb dX6_copy_21 (by decide) ?_
  exact x_ireti (RT := _) (Nat.le_of_ble_eq_true rfl) (Nat.le_of_ble_eq_true rfl) C hA rfl ⟨rfl, rfl⟩ V dX6_copy_23)

set_option maxHeartbeats 4000000 in
set_option maxRecDepth 100000 in
theorem kc_X6_copy_R (l : Launch) (D : va_G) (tc : Nat → ClassId) (xo : Nat) (xa ad : Nat → Nat) (f g : Nat → Option Nat) (nT nH : Int32) (t : Nat → Int32) (rest : va_W) (ha : Nat → Nat) (tb0 : Nat) (u : St) (h : Int32) (hfd : FY nH g (ha 6) h) (hlt12 : nH < 12) (hin12 : vp_in nH 12) : MetG l D tc yX6_copy cX6_copy 3 (some .int) 3 8 81 81 [.ref xo, .int h] (Bw tc xo xa ad f g nT nH t ++ (Hw tc ha (.ref tb0) u ++ rest)) (fun v w => v = some (.int (nH + 1 - 1)) ∧ ∃ hb1 : Nat → Nat, w = Bw tc xo xa ad f (va_up g nH.toNatClampNeg (some (hb1 6))) nT (nH + 1) t ++ ((Hw tc ha (.ref tb0) u ++ Hw tc hb1 (.ref tb0) (twS u)) ++ rest)) :=
  x_ent (by decide) (own := RX6) rfl (Nat.le_of_ble_eq_true rfl) (fun p e s m args below meth c A sz ls hA _ hin C V hl => by
  obtain ⟨hx, hb, hr, hml, hown, hts, hlk, hN⟩ := id C
  replace hin := hin rfl
  try replace hin := hin rfl
  have hl : lv_has ls 3 [(0, .ref xo), (1, .int h)] := hl
  generalize s.heap = H at V ⊢
  generalize ([] : List Loc) = locs at V ⊢
  refine lv_aload_n hx hb dX6_copy_0 rfl (lv_at hl 0 rfl) ?_
  refine lv_iload_n hx hb dX6_copy_1 rfl (lv_at hl 1 rfl) ?_
  replace V : Wd D tc A s H locs (Bw tc xo xa ad f g nT nH t ++ (Hw tc ha (.ref tb0) u ++ rest)) := V
  refine x_allR V _ (rg_map _) (x_runV (n := 1) (rest := []) C V _ (rg_map _) (rg_nd _) (kY_historyOf l D tc xo xa ad f g nT nH t (Hw tc ha (.ref tb0) u ++ rest) h hfd) tw_227 tw_229 tp_2 tw_1 tw_230 (by decide +kernel) ⟨(Nat.le_of_ble_eq_true rfl), (Nat.le_of_ble_eq_true rfl)⟩ ⟨(Nat.le_of_ble_eq_true rfl), (Nat.le_of_ble_eq_true rfl)⟩ 0 5 rfl rfl rfl hl.1 rfl (Nat.le_of_ble_eq_true rfl) dX6_copy_2) (fun H locs V => ?_)
  replace V : Wd D tc A s H locs ([(xo, .inr (5, [.ref (xa 0), .int nT, .ref (xa 1), .int nH, .ref (ad 0), .ref (ad 14), .int (t 42), .ref (ad 16), .int (t 43), .int (t 44)])), ((xa 0), .inl (tc 3, 4, .inr (.inr (.inr (.inr f))))), ((xa 1), .inl (tc 2, 12, .inr (.inr (.inr (.inr g))))), ((ha 6), .inr (1, [.int (u.1 0), .ref tb0, .int (u.1 2), .int (u.1 3), .ref (ha 7), .ref (ha 8), .ref (ha 9), .ref (ha 10), .ref (ha 11), .ref (ha 12), .ref (ha 13)])), ((ha 7), .inl (tc 0, 10, .inl (u.2.1 4))), ((ha 8), .inl (tc 0, 10, .inl (u.2.1 5))), ((ha 9), .inl (tc 0, 10, .inl (u.2.1 6))), ((ha 10), .inl (tc 0, 10, .inl (u.2.1 7))), ((ha 11), .inl (tc 0, 10, .inl (u.2.1 8))), ((ha 12), .inl (tc 0, 10, .inl (u.2.1 9))), ((ha 13), .inl (tc 0, 10, .inl (u.2.1 10)))] ++ rest) := V
  refine lv_astore_n (lv' := [(2, .ref (ha 6)), (0, .ref xo), (1, .int h)]) hx hb dX6_copy_5 rfl hl (by decide) rfl (fun ls hl => ?_)
  refine lv_aload_n hx hb dX6_copy_6 rfl (lv_at hl 0 rfl) ?_
  refine lv_ifnonnull (tgt := 12) hx hb dX6_copy_7 (by decide) ?_
  refine lv_aload_n hx hb dX6_copy_12 rfl (lv_at hl 1 rfl) ?_
  refine x_get hx hb hts hown V inX6 0 rfl rfl 3 (by decide) tw_144 rfl rfl dX6_copy_13 ?_
  refine lv_bipush (v := 12) hx hb dX6_copy_16 (by decide) ?_
  refine lv_icmp_lt (tgt := 24) hx hb dX6_copy_18 (by decide) (fun c0 => ?_) (fun c0 => absurd hlt12 c0)
  refine lv_aload_n hx hb dX6_copy_24 rfl (lv_at hl 1 rfl) ?_
  refine lv_aload_n hx hb dX6_copy_25 rfl (lv_at hl 0 rfl) ?_
  replace V : Wd D tc A s H locs (Bw tc xo xa ad f g nT nH t ++ (Hw tc ha (.ref tb0) u ++ rest)) := V
  refine x_midG (w0 := Bw tc xo xa ad f g nT nH t) (wr := rest) V (x_runV (n := 0) (rest := [.ref xo]) C V _ (mid_map _ _ _) (mid_nd _ _) (kc_X1_twin_R l D tc ha tb0 u) tw_231 tw_232 tw_233 tw_3 tw_234 (by decide +kernel) ⟨(Nat.le_of_ble_eq_true rfl), (Nat.le_of_ble_eq_true rfl)⟩ ⟨(Nat.le_of_ble_eq_true rfl), (Nat.le_of_ble_eq_true rfl)⟩ 3 1 rfl rfl rfl hl.1 rfl (Nat.le_of_ble_eq_true rfl) dX6_copy_26) (fun v0 w1 H locs hRT _ V => ?_)
  obtain ⟨hb1, rfl, rfl⟩ := hRT
  replace V : Wd D tc A s H locs (Bw tc xo xa ad f g nT nH t ++ ((Hw tc ha (.ref tb0) u ++ Hw tc hb1 (.ref tb0) (twS u)) ++ rest)) := V
  replace V : Wd D tc A s H locs (Bw tc xo xa ad f g nT nH t ++ ((Hw tc ha (.ref tb0) u ++ Hw tc hb1 (.ref tb0) (twS u)) ++ rest)) := V
  refine x_allI V _ (rg_map _) (x_runV (n := 1) (rest := []) C V _ (rg_map _) (rg_nd _) (kc_X6_keep l D tc xo xa ad f g nT nH t ((Hw tc ha (.ref tb0) u ++ Hw tc hb1 (.ref tb0) (twS u)) ++ rest) (hb1 6) _ hlt12 hin12 8 rfl) tw_219 tw_221 tp_1 tw_1 tw_222 (by decide +kernel) ⟨(Nat.le_of_ble_eq_true rfl), (Nat.le_of_ble_eq_true rfl)⟩ ⟨(Nat.le_of_ble_eq_true rfl), (Nat.le_of_ble_eq_true rfl)⟩ 0 5 rfl rfl rfl hl.1 rfl (Nat.le_of_ble_eq_true rfl) dX6_copy_29) (fun H locs V _ => ?_)
  exact x_ireti (RT := _) (Nat.le_of_ble_eq_true rfl) (Nat.le_of_ble_eq_true rfl) C hA rfl ⟨rfl, hb1, rfl⟩ V dX6_copy_32)
