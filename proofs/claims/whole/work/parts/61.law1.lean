theorem lg_cmp_self (x : Int64) : lg_cmp x x = 0 := by simp [lg_cmp]
def Fc_answer (Inv : IVT) : Prop := ∀ a1 a2 a3 : Int32, FcYN Inv a1 (fun T a6 t u sh => j_X6_answer_Y T a6 t u sh a1 a2 a3) (fun t => j_X6_answer_N t a1 a2 a3) (fun U => j_X7_answer U a1 a2 a3)
def Fc_alter (Inv : IVT) : Prop := ∀ a1 a2 a3 : Int32, FcYN Inv a1 (fun T a6 t u sh => j_X6_alter_Y T a6 t u sh a1 a2 a3) (fun t => j_X6_alter_N t a1 a2 a3) (fun U => j_X7_alter U a1 a2 a3)
def Fc_status (Inv : IVT) : Prop := FcS Inv (fun t u => j_X6_status t u ) (fun U => pr U (j_X7_status U ))
def Fc_answered (Inv : IVT) : Prop := ∀ a1 a2 : Int32, FcYN Inv a1 (fun T a6 t u sh => j_X6_answered_Y T a6 t u sh a1 a2) (fun t => j_X6_answered_N t a1 a2) (fun U => j_X7_answered U a1 a2)
def Fc_call (Inv : IVT) : Prop := ∀ a1 a2 a3 : Int32, FcYN Inv a1 (fun T a6 t u sh => j_X6_call_Y T a6 t u sh a1 a2 a3) (fun t => j_X6_call_N t a1 a2 a3) (fun U => pr U (j_X7_call U a1 a2 a3))
def Fc_about (Inv : IVT) : Prop := ∀ a1 a2 : Int32, FcYN Inv a1 (fun T a6 t u sh => j_X6_about_Y T a6 t u sh a1 a2) (fun t => j_X6_about_N t a1 a2) (fun U => pr U (j_X7_about U a1 a2))
def Fc_ahead (Inv : IVT) : Prop := ∀ a1 a2 a3 a4 : Int32, FcYN Inv a1 (fun T a6 t u sh => j_X6_ahead_Y T a6 t u sh a1 a2 a3 a4) (fun t => j_X6_ahead_N t a1 a2 a3 a4) (fun U => pr U (j_X7_ahead U a1 a2 a3 a4))
def Fc_judge (Inv : IVT) : Prop := ∀ a1 a2 : Int32, FcYN Inv a1 (fun T a6 t u sh => j_X6_judge_Y T a6 t u sh a1 a2) (fun t => j_X6_judge_N t a1 a2) (fun U => j_X7_judge U a1 a2)
def Fc_first (Inv : IVT) : Prop := ∀ a1 a2 a3 : Int32, FcYN Inv a1 (fun T a6 t u sh => j_X6_first_Y T a6 t u sh a1 a2 a3) (fun t => j_X6_first_N t a1 a2 a3) (fun U => j_X7_first U a1 a2 a3)
def Fc_orders (Inv : IVT) : Prop := ∀ a1 a2 : Int32, FcYN Inv a1 (fun T a6 t u sh => j_X6_orders_Y T a6 t u sh a1 a2) (fun t => j_X6_orders_N t a1 a2) (fun U => j_X7_orders U a1 a2)
def Fc_least (Inv : IVT) : Prop := ∀ a1 a2 : Int32, FcYN Inv a1 (fun T a6 t u sh => j_X6_least_Y T a6 t u sh a1 a2) (fun t => j_X6_least_N t a1 a2) (fun U => j_X7_least U a1 a2)
def Fc_part (Inv : IVT) : Prop := ∀ a1 : Int32, FcS Inv (fun t u => j_X6_part t u a1) (fun U => pr U (j_X7_part U a1))
def Fc_fills (Inv : IVT) : Prop := ∀ a1 a2 a3 : Int32, FcYN Inv a1 (fun T a6 t u sh => j_X6_fills_Y T a6 t u sh a1 a2 a3) (fun t => j_X6_fills_N t a1 a2 a3) (fun U => j_X7_fills U a1 a2 a3)
def Fc_fill (Inv : IVT) : Prop := ∀ a1 : Int32, FcS Inv (fun t u => j_X6_fill t u a1) (fun U => j_X7_fill_ U a1)
def Fc_apart (Inv : IVT) : Prop := ∀ a1 a2 a3 : Int32, FcYN Inv a1 (fun T a6 t u sh => j_X6_apart_Y T a6 t u sh a1 a2 a3) (fun t => j_X6_apart_N t a1 a2 a3) (fun U => j_X7_apart U a1 a2 a3)
def Fc_rules (Inv : IVT) : Prop := ∀ a1 : Int32, FcYN Inv a1 (fun T a6 t u sh => j_X6_rules_Y T a6 t u sh a1) (fun t => j_X6_rules_N t a1) (fun U => j_X7_rules U a1)
def Fc_say (Inv : IVT) : Prop := ∀ a1 : Int32, FcS Inv (fun t u => j_X6_say t u a1) (fun U => j_X7_say U a1)
def Fc_check (Inv : IVT) : Prop := ∀ a1 a2 : Int32, FcYN Inv a1 (fun T a6 t u sh => j_X6_check_Y T a6 t u sh a1 a2) (fun t => j_X6_check_N t a1 a2) (fun U => j_X7_check U a1 a2)
set_option maxHeartbeats 4000000 in
set_option maxRecDepth 100000 in
theorem law_answer {p : Program} {l : Launch} {e : Env} {s : State} {m : MethodId} {below : List Frame} {meth : Method} {c : Code} {Q : State → Prop} {D : va_G} {tc : Nat → ClassId} {b L xo mo : Nat} {mad : Nat → Nat} {xs : Nat → Int32} {i0 : Nat} {Inv : IVT} {H : Heap} {locs : List Loc} {ls : Array Slot} {t : Nat → Int32} {gs : St} {hs : Nat → St} {kt : Nat → Option Nat} {tu : Nat → Int32} {tq : Nat → (Nat → Int32) × (Nat → Int32)} {nT nH : Nat} {U : St} {xa ad : Nat → Nat} {ta ha : Nat → Nat → Nat} {sh : Nat} (C : Cx p s m #[Value.ref b] meth c cL_law 4 RL ret) (hX : va_X b L xs s s.heap) (hbl : b < s.heap.size) (hL : L ≤ 3072) (hi0 : i0 + 6 ≤ L) (hn : LNext p l e s m below meth c Q D tc b xo mo mad Inv i0) (hB : FcB Inv) (hI : Inv i0 t gs hs kt tu tq nT nH U) (V : Wd D tc (fun q : Nat => s.heap.size ≤ q) s H locs (Xw tc xo xa ad ta ha sh t gs hs kt tu tq nT nH ++ (Mw tc mo mad U ++ []))) (hl : lv_has ls 4 [(0, .ref b), (1, .ref xo), (2, .ref mo), (3, .int (nI i0))]) (hF : Fc_answer Inv) : W p l e room_1 s m #[Value.ref b] below meth c H locs (60 + 2 * i0) (13000 + 14 * i0) Q (F0 m 335 ls []) := by
  obtain ⟨hx, hb, hr, hml, hown, hts, hlk, hN⟩ := id C
  have hbA : ¬ (fun q : Nat => s.heap.size ≤ q) b := Nat.not_le.mpr hbl
  obtain ⟨hb4, hb12, hbk⟩ := hB _ _ _ _ _ _ _ _ _ _ hI
  have hcl : 60 + 2 * i0 ≤ room_1.cells := (show 60 + 2 * i0 ≤ 600000 by omega)
  have hsl : 13000 + 14 * i0 ≤ room_1.slots := (show 13000 + 14 * i0 ≤ 7302250 by omega)
  refine lv_aload_n hx hb dL_law_335 rfl (lv_at hl 1 rfl) ?_
  refine lv_aload_n hx hb dL_law_336 rfl (lv_at hl 0 rfl) ?_
  refine lv_iload_n hx hb dL_law_337 rfl (lv_at hl 3 rfl) ?_
  refine lv_iconst (v := 1) hx hb dL_law_338 (by decide) ?_
  refine lv_iadd hx hb dL_law_339 ?_
  refine va_sld hx hb hX hbl hbA V.2.2.2.1 (law_in (j := 1) rfl (by omega) hL) dL_law_340 ?_
  refine lv_topi (fun a1 ea1 => ?_)
  refine lv_aload_n hx hb dL_law_341 rfl (lv_at hl 0 rfl) ?_
  refine lv_iload_n hx hb dL_law_342 rfl (lv_at hl 3 rfl) ?_
  refine lv_iconst (v := 2) hx hb dL_law_343 (by decide) ?_
  refine lv_iadd hx hb dL_law_344 ?_
  refine va_sld hx hb hX hbl hbA V.2.2.2.1 (law_in (j := 2) rfl (by omega) hL) dL_law_345 ?_
  refine lv_topi (fun a2 ea2 => ?_)
  refine lv_aload_n hx hb dL_law_346 rfl (lv_at hl 0 rfl) ?_
  refine lv_iload_n hx hb dL_law_347 rfl (lv_at hl 3 rfl) ?_
  refine lv_iconst (v := 3) hx hb dL_law_348 (by decide) ?_
  refine lv_iadd hx hb dL_law_349 ?_
  refine va_sld hx hb hX hbl hbA V.2.2.2.1 (law_in (j := 3) rfl (by omega) hL) dL_law_350 ?_
  refine lv_topi (fun a3 ea3 => ?_)
  have hq := hF a1 a2 a3 i0 (by omega) t gs hs kt tu tq nT nH U hI
  refine cl_YN (n := 3) (As := [.int a1, .int a2, .int a3]) (rest := []) C V hb12 hbk (fun T a6 t u sh => j_X6_answer_Y T a6 t u sh a1 a2 a3) (fun t => j_X6_answer_N t a1 a2 a3) (fun xo xa ad ta us T f g nT nH rest t u sh hf x0 hj => k_X6_answer_Y l D tc xo xa ad ta us T f g nT nH rest t u sh a1 a2 a3 hf hj) (fun xo xa ad f g nT nH rest t hf x0 hj => k_X6_answer_N l D tc xo xa ad f g nT nH rest t a1 a2 a3 hf hj) (fun r t1 g1 h1 => ∃ U1, j_X7_answer U a1 a2 a3 = some (r, U1) ∧ Inv (i0 + 6) t1 g1 h1 kt tu tq nT nH U1) (fun i hi hh => by obtain ⟨r, t1, u1, s1, U1, z1, z2, z3⟩ := hq.1 i hi hh (ha i 6) sh; exact ⟨r, t1, u1, s1, z1, U1, z2, z3⟩) (fun hh => by obtain ⟨r, t1, U1, z1, z2, z3⟩ := hq.2 hh; exact ⟨r, t1, z1, U1, z2, z3⟩) tw_258 tw_259 tw_260 tw_261 (by decide +kernel) ⟨(Nat.le_of_ble_eq_true rfl), (Nat.le_of_ble_eq_true rfl)⟩ ⟨(Nat.le_of_ble_eq_true rfl), (Nat.le_of_ble_eq_true rfl)⟩ ⟨hcl, hsl⟩ rfl hl.1 rfl (Nat.le_of_ble_eq_true rfl) dL_law_351 (fun r t gs hs sh hP H locs V => ?_)
  obtain ⟨U1, hjm, hI2⟩ := hP
  refine lv_aload_n hx hb dL_law_354 rfl (lv_at hl 2 rfl) ?_
  refine lv_aload_n hx hb dL_law_355 rfl (lv_at hl 0 rfl) ?_
  refine lv_iload_n hx hb dL_law_356 rfl (lv_at hl 3 rfl) ?_
  refine lv_iconst (v := 1) hx hb dL_law_357 (by decide) ?_
  refine lv_iadd hx hb dL_law_358 ?_
  refine va_sld hx hb hX hbl hbA V.2.2.2.1 (law_in (j := 1) rfl (by omega) hL) dL_law_359 ?_
  refine x_topi ea1 ?_
  refine lv_aload_n hx hb dL_law_360 rfl (lv_at hl 0 rfl) ?_
  refine lv_iload_n hx hb dL_law_361 rfl (lv_at hl 3 rfl) ?_
  refine lv_iconst (v := 2) hx hb dL_law_362 (by decide) ?_
  refine lv_iadd hx hb dL_law_363 ?_
  refine va_sld hx hb hX hbl hbA V.2.2.2.1 (law_in (j := 2) rfl (by omega) hL) dL_law_364 ?_
  refine x_topi ea2 ?_
  refine lv_aload_n hx hb dL_law_365 rfl (lv_at hl 0 rfl) ?_
  refine lv_iload_n hx hb dL_law_366 rfl (lv_at hl 3 rfl) ?_
  refine lv_iconst (v := 3) hx hb dL_law_367 (by decide) ?_
  refine lv_iadd hx hb dL_law_368 ?_
  refine va_sld hx hb hX hbl hbA V.2.2.2.1 (law_in (j := 3) rfl (by omega) hL) dL_law_369 ?_
  refine x_topi ea3 ?_
  refine x_midI V (rf_run (n := 3) (As := [.int a1, .int a2, .int a3]) (rest := [.int r]) C V (k_X7_answer l D tc mo mad U a1 a2 a3 hjm) tw_645 tw_646 tw_647 tw_648 (by decide +kernel) ⟨(Nat.le_of_ble_eq_true rfl), (Nat.le_of_ble_eq_true rfl)⟩ ⟨hcl, hsl⟩ rfl hl.1 rfl (Nat.le_of_ble_eq_true rfl) dL_law_370) (fun H locs V _ => ?_)
  refine lv_icmp_eq (tgt := 950) hx hb dL_law_373 (by decide) (fun _ => ?_) (fun hne => absurd rfl hne)
  refine W.widen (k := 72 + 2 * i0) (n := 13084 + 14 * i0) (by omega) (by omega) ?_
  exact hn _ _ _ _ _ _ _ _ _ _ _ _ _ _ _ _ ls hI2 V hl

set_option maxHeartbeats 4000000 in
set_option maxRecDepth 100000 in
theorem law_alter {p : Program} {l : Launch} {e : Env} {s : State} {m : MethodId} {below : List Frame} {meth : Method} {c : Code} {Q : State → Prop} {D : va_G} {tc : Nat → ClassId} {b L xo mo : Nat} {mad : Nat → Nat} {xs : Nat → Int32} {i0 : Nat} {Inv : IVT} {H : Heap} {locs : List Loc} {ls : Array Slot} {t : Nat → Int32} {gs : St} {hs : Nat → St} {kt : Nat → Option Nat} {tu : Nat → Int32} {tq : Nat → (Nat → Int32) × (Nat → Int32)} {nT nH : Nat} {U : St} {xa ad : Nat → Nat} {ta ha : Nat → Nat → Nat} {sh : Nat} (C : Cx p s m #[Value.ref b] meth c cL_law 4 RL ret) (hX : va_X b L xs s s.heap) (hbl : b < s.heap.size) (hL : L ≤ 3072) (hi0 : i0 + 6 ≤ L) (hn : LNext p l e s m below meth c Q D tc b xo mo mad Inv i0) (hB : FcB Inv) (hI : Inv i0 t gs hs kt tu tq nT nH U) (V : Wd D tc (fun q : Nat => s.heap.size ≤ q) s H locs (Xw tc xo xa ad ta ha sh t gs hs kt tu tq nT nH ++ (Mw tc mo mad U ++ []))) (hl : lv_has ls 4 [(0, .ref b), (1, .ref xo), (2, .ref mo), (3, .int (nI i0))]) (hF : Fc_alter Inv) : W p l e room_1 s m #[Value.ref b] below meth c H locs (60 + 2 * i0) (13000 + 14 * i0) Q (F0 m 378 ls []) := by
  obtain ⟨hx, hb, hr, hml, hown, hts, hlk, hN⟩ := id C
  have hbA : ¬ (fun q : Nat => s.heap.size ≤ q) b := Nat.not_le.mpr hbl
  obtain ⟨hb4, hb12, hbk⟩ := hB _ _ _ _ _ _ _ _ _ _ hI
  have hcl : 60 + 2 * i0 ≤ room_1.cells := (show 60 + 2 * i0 ≤ 600000 by omega)
  have hsl : 13000 + 14 * i0 ≤ room_1.slots := (show 13000 + 14 * i0 ≤ 7302250 by omega)
  refine lv_aload_n hx hb dL_law_378 rfl (lv_at hl 1 rfl) ?_
  refine lv_aload_n hx hb dL_law_379 rfl (lv_at hl 0 rfl) ?_
  refine lv_iload_n hx hb dL_law_380 rfl (lv_at hl 3 rfl) ?_
  refine lv_iconst (v := 1) hx hb dL_law_381 (by decide) ?_
  refine lv_iadd hx hb dL_law_382 ?_
  refine va_sld hx hb hX hbl hbA V.2.2.2.1 (law_in (j := 1) rfl (by omega) hL) dL_law_383 ?_
  refine lv_topi (fun a1 ea1 => ?_)
  refine lv_aload_n hx hb dL_law_384 rfl (lv_at hl 0 rfl) ?_
  refine lv_iload_n hx hb dL_law_385 rfl (lv_at hl 3 rfl) ?_
  refine lv_iconst (v := 2) hx hb dL_law_386 (by decide) ?_
  refine lv_iadd hx hb dL_law_387 ?_
  refine va_sld hx hb hX hbl hbA V.2.2.2.1 (law_in (j := 2) rfl (by omega) hL) dL_law_388 ?_
  refine lv_topi (fun a2 ea2 => ?_)
  refine lv_aload_n hx hb dL_law_389 rfl (lv_at hl 0 rfl) ?_
  refine lv_iload_n hx hb dL_law_390 rfl (lv_at hl 3 rfl) ?_
  refine lv_iconst (v := 3) hx hb dL_law_391 (by decide) ?_
  refine lv_iadd hx hb dL_law_392 ?_
  refine va_sld hx hb hX hbl hbA V.2.2.2.1 (law_in (j := 3) rfl (by omega) hL) dL_law_393 ?_
  refine lv_topi (fun a3 ea3 => ?_)
  have hq := hF a1 a2 a3 i0 (by omega) t gs hs kt tu tq nT nH U hI
  refine cl_YN (n := 3) (As := [.int a1, .int a2, .int a3]) (rest := []) C V hb12 hbk (fun T a6 t u sh => j_X6_alter_Y T a6 t u sh a1 a2 a3) (fun t => j_X6_alter_N t a1 a2 a3) (fun xo xa ad ta us T f g nT nH rest t u sh hf x0 hj => k_X6_alter_Y l D tc xo xa ad ta us T f g nT nH rest t u sh a1 a2 a3 hf hj) (fun xo xa ad f g nT nH rest t hf x0 hj => k_X6_alter_N l D tc xo xa ad f g nT nH rest t a1 a2 a3 hf hj) (fun r t1 g1 h1 => ∃ U1, j_X7_alter U a1 a2 a3 = some (r, U1) ∧ Inv (i0 + 6) t1 g1 h1 kt tu tq nT nH U1) (fun i hi hh => by obtain ⟨r, t1, u1, s1, U1, z1, z2, z3⟩ := hq.1 i hi hh (ha i 6) sh; exact ⟨r, t1, u1, s1, z1, U1, z2, z3⟩) (fun hh => by obtain ⟨r, t1, U1, z1, z2, z3⟩ := hq.2 hh; exact ⟨r, t1, z1, U1, z2, z3⟩) tw_275 tw_276 tw_277 tw_278 (by decide +kernel) ⟨(Nat.le_of_ble_eq_true rfl), (Nat.le_of_ble_eq_true rfl)⟩ ⟨(Nat.le_of_ble_eq_true rfl), (Nat.le_of_ble_eq_true rfl)⟩ ⟨hcl, hsl⟩ rfl hl.1 rfl (Nat.le_of_ble_eq_true rfl) dL_law_394 (fun r t gs hs sh hP H locs V => ?_)
  obtain ⟨U1, hjm, hI2⟩ := hP
  refine lv_aload_n hx hb dL_law_397 rfl (lv_at hl 2 rfl) ?_
  refine lv_aload_n hx hb dL_law_398 rfl (lv_at hl 0 rfl) ?_
  refine lv_iload_n hx hb dL_law_399 rfl (lv_at hl 3 rfl) ?_
  refine lv_iconst (v := 1) hx hb dL_law_400 (by decide) ?_
  refine lv_iadd hx hb dL_law_401 ?_
  refine va_sld hx hb hX hbl hbA V.2.2.2.1 (law_in (j := 1) rfl (by omega) hL) dL_law_402 ?_
  refine x_topi ea1 ?_
  refine lv_aload_n hx hb dL_law_403 rfl (lv_at hl 0 rfl) ?_
  refine lv_iload_n hx hb dL_law_404 rfl (lv_at hl 3 rfl) ?_
  refine lv_iconst (v := 2) hx hb dL_law_405 (by decide) ?_
  refine lv_iadd hx hb dL_law_406 ?_
  refine va_sld hx hb hX hbl hbA V.2.2.2.1 (law_in (j := 2) rfl (by omega) hL) dL_law_407 ?_
  refine x_topi ea2 ?_
  refine lv_aload_n hx hb dL_law_408 rfl (lv_at hl 0 rfl) ?_
  refine lv_iload_n hx hb dL_law_409 rfl (lv_at hl 3 rfl) ?_
  refine lv_iconst (v := 3) hx hb dL_law_410 (by decide) ?_
  refine lv_iadd hx hb dL_law_411 ?_
  refine va_sld hx hb hX hbl hbA V.2.2.2.1 (law_in (j := 3) rfl (by omega) hL) dL_law_412 ?_
  refine x_topi ea3 ?_
  refine x_midI V (rf_run (n := 3) (As := [.int a1, .int a2, .int a3]) (rest := [.int r]) C V (k_X7_alter l D tc mo mad U a1 a2 a3 hjm) tw_653 tw_654 tw_655 tw_656 (by decide +kernel) ⟨(Nat.le_of_ble_eq_true rfl), (Nat.le_of_ble_eq_true rfl)⟩ ⟨hcl, hsl⟩ rfl hl.1 rfl (Nat.le_of_ble_eq_true rfl) dL_law_413) (fun H locs V _ => ?_)
  refine lv_icmp_eq (tgt := 950) hx hb dL_law_416 (by decide) (fun _ => ?_) (fun hne => absurd rfl hne)
  refine W.widen (k := 72 + 2 * i0) (n := 13084 + 14 * i0) (by omega) (by omega) ?_
  exact hn _ _ _ _ _ _ _ _ _ _ _ _ _ _ _ _ ls hI2 V hl

set_option maxHeartbeats 4000000 in
set_option maxRecDepth 100000 in
theorem law_status {p : Program} {l : Launch} {e : Env} {s : State} {m : MethodId} {below : List Frame} {meth : Method} {c : Code} {Q : State → Prop} {D : va_G} {tc : Nat → ClassId} {b L xo mo : Nat} {mad : Nat → Nat} {xs : Nat → Int32} {i0 : Nat} {Inv : IVT} {H : Heap} {locs : List Loc} {ls : Array Slot} {t : Nat → Int32} {gs : St} {hs : Nat → St} {kt : Nat → Option Nat} {tu : Nat → Int32} {tq : Nat → (Nat → Int32) × (Nat → Int32)} {nT nH : Nat} {U : St} {xa ad : Nat → Nat} {ta ha : Nat → Nat → Nat} {sh : Nat} (C : Cx p s m #[Value.ref b] meth c cL_law 4 RL ret) (hX : va_X b L xs s s.heap) (hbl : b < s.heap.size) (hL : L ≤ 3072) (hi0 : i0 + 6 ≤ L) (hn : LNext p l e s m below meth c Q D tc b xo mo mad Inv i0) (hB : FcB Inv) (hI : Inv i0 t gs hs kt tu tq nT nH U) (V : Wd D tc (fun q : Nat => s.heap.size ≤ q) s H locs (Xw tc xo xa ad ta ha sh t gs hs kt tu tq nT nH ++ (Mw tc mo mad U ++ []))) (hl : lv_has ls 4 [(0, .ref b), (1, .ref xo), (2, .ref mo), (3, .int (nI i0))]) (hF : Fc_status Inv) : W p l e room_1 s m #[Value.ref b] below meth c H locs (60 + 2 * i0) (13000 + 14 * i0) Q (F0 m 421 ls []) := by
  obtain ⟨hx, hb, hr, hml, hown, hts, hlk, hN⟩ := id C
  have hbA : ¬ (fun q : Nat => s.heap.size ≤ q) b := Nat.not_le.mpr hbl
  obtain ⟨hb4, hb12, hbk⟩ := hB _ _ _ _ _ _ _ _ _ _ hI
  have hcl : 60 + 2 * i0 ≤ room_1.cells := (show 60 + 2 * i0 ≤ 600000 by omega)
  have hsl : 13000 + 14 * i0 ≤ room_1.slots := (show 13000 + 14 * i0 ≤ 7302250 by omega)
  refine lv_aload_n hx hb dL_law_421 rfl (lv_at hl 1 rfl) ?_
  obtain ⟨r0, t0, u0, U0, hq1, hq2, hq3⟩ := hF  i0 (by omega) t gs hs kt tu tq nT nH U hI
  refine cl_S (n := 0) (As := []) (rest := []) C V (fun t u => j_X6_status t u ) (fun xo xa ad f g nT nH rest t u x0 hj => k_X6_status l D tc xo xa ad f g nT nH rest t u  hj) (fun r t1 g1 => ∃ U1, pr U (j_X7_status U ) = some (r, U1) ∧ Inv (i0 + 6) t1 g1 hs kt tu tq nT nH U1) ⟨r0, t0, u0, hq1, U0, hq2, hq3⟩ tw_283 tw_284 tw_285 tw_286 (by decide +kernel) ⟨(Nat.le_of_ble_eq_true rfl), (Nat.le_of_ble_eq_true rfl)⟩ ⟨hcl, hsl⟩ rfl hl.1 rfl (Nat.le_of_ble_eq_true rfl) dL_law_422 (fun r t gs hP H locs V => ?_)
  obtain ⟨U1, hjm, hI2⟩ := hP
  obtain ⟨hjm, hUU⟩ := pr_some hjm
  rw [hUU] at hI2
  refine lv_aload_n hx hb dL_law_425 rfl (lv_at hl 2 rfl) ?_
  refine x_midI V (rf_run (n := 0) (As := []) (rest := [.int r]) C V (k_X7_status l D tc mo mad U  hjm) tw_657 tw_658 tw_659 tw_660 (by decide +kernel) ⟨(Nat.le_of_ble_eq_true rfl), (Nat.le_of_ble_eq_true rfl)⟩ ⟨hcl, hsl⟩ rfl hl.1 rfl (Nat.le_of_ble_eq_true rfl) dL_law_426) (fun H locs V _ => ?_)
  refine lv_icmp_eq (tgt := 950) hx hb dL_law_429 (by decide) (fun _ => ?_) (fun hne => absurd rfl hne)
  refine W.widen (k := 72 + 2 * i0) (n := 13084 + 14 * i0) (by omega) (by omega) ?_
  exact hn _ _ _ _ _ _ _ _ _ _ _ _ _ _ _ _ ls hI2 V hl

set_option maxHeartbeats 4000000 in
set_option maxRecDepth 100000 in
theorem law_answered {p : Program} {l : Launch} {e : Env} {s : State} {m : MethodId} {below : List Frame} {meth : Method} {c : Code} {Q : State → Prop} {D : va_G} {tc : Nat → ClassId} {b L xo mo : Nat} {mad : Nat → Nat} {xs : Nat → Int32} {i0 : Nat} {Inv : IVT} {H : Heap} {locs : List Loc} {ls : Array Slot} {t : Nat → Int32} {gs : St} {hs : Nat → St} {kt : Nat → Option Nat} {tu : Nat → Int32} {tq : Nat → (Nat → Int32) × (Nat → Int32)} {nT nH : Nat} {U : St} {xa ad : Nat → Nat} {ta ha : Nat → Nat → Nat} {sh : Nat} (C : Cx p s m #[Value.ref b] meth c cL_law 4 RL ret) (hX : va_X b L xs s s.heap) (hbl : b < s.heap.size) (hL : L ≤ 3072) (hi0 : i0 + 6 ≤ L) (hn : LNext p l e s m below meth c Q D tc b xo mo mad Inv i0) (hB : FcB Inv) (hI : Inv i0 t gs hs kt tu tq nT nH U) (V : Wd D tc (fun q : Nat => s.heap.size ≤ q) s H locs (Xw tc xo xa ad ta ha sh t gs hs kt tu tq nT nH ++ (Mw tc mo mad U ++ []))) (hl : lv_has ls 4 [(0, .ref b), (1, .ref xo), (2, .ref mo), (3, .int (nI i0))]) (hF : Fc_answered Inv) : W p l e room_1 s m #[Value.ref b] below meth c H locs (60 + 2 * i0) (13000 + 14 * i0) Q (F0 m 434 ls []) := by
  obtain ⟨hx, hb, hr, hml, hown, hts, hlk, hN⟩ := id C
  have hbA : ¬ (fun q : Nat => s.heap.size ≤ q) b := Nat.not_le.mpr hbl
  obtain ⟨hb4, hb12, hbk⟩ := hB _ _ _ _ _ _ _ _ _ _ hI
  have hcl : 60 + 2 * i0 ≤ room_1.cells := (show 60 + 2 * i0 ≤ 600000 by omega)
  have hsl : 13000 + 14 * i0 ≤ room_1.slots := (show 13000 + 14 * i0 ≤ 7302250 by omega)
  refine lv_aload_n hx hb dL_law_434 rfl (lv_at hl 1 rfl) ?_
  refine lv_aload_n hx hb dL_law_435 rfl (lv_at hl 0 rfl) ?_
  refine lv_iload_n hx hb dL_law_436 rfl (lv_at hl 3 rfl) ?_
  refine lv_iconst (v := 1) hx hb dL_law_437 (by decide) ?_
  refine lv_iadd hx hb dL_law_438 ?_
  refine va_sld hx hb hX hbl hbA V.2.2.2.1 (law_in (j := 1) rfl (by omega) hL) dL_law_439 ?_
  refine lv_topi (fun a1 ea1 => ?_)
  refine lv_aload_n hx hb dL_law_440 rfl (lv_at hl 0 rfl) ?_
  refine lv_iload_n hx hb dL_law_441 rfl (lv_at hl 3 rfl) ?_
  refine lv_iconst (v := 2) hx hb dL_law_442 (by decide) ?_
  refine lv_iadd hx hb dL_law_443 ?_
  refine va_sld hx hb hX hbl hbA V.2.2.2.1 (law_in (j := 2) rfl (by omega) hL) dL_law_444 ?_
  refine lv_topi (fun a2 ea2 => ?_)
  have hq := hF a1 a2 i0 (by omega) t gs hs kt tu tq nT nH U hI
  refine cl_YN (n := 2) (As := [.int a1, .int a2]) (rest := []) C V hb12 hbk (fun T a6 t u sh => j_X6_answered_Y T a6 t u sh a1 a2) (fun t => j_X6_answered_N t a1 a2) (fun xo xa ad ta us T f g nT nH rest t u sh hf x0 hj => k_X6_answered_Y l D tc xo xa ad ta us T f g nT nH rest t u sh a1 a2 hf hj) (fun xo xa ad f g nT nH rest t hf x0 hj => k_X6_answered_N l D tc xo xa ad f g nT nH rest t a1 a2 hf hj) (fun r t1 g1 h1 => ∃ U1, j_X7_answered U a1 a2 = some (r, U1) ∧ Inv (i0 + 6) t1 g1 h1 kt tu tq nT nH U1) (fun i hi hh => by obtain ⟨r, t1, u1, s1, U1, z1, z2, z3⟩ := hq.1 i hi hh (ha i 6) sh; exact ⟨r, t1, u1, s1, z1, U1, z2, z3⟩) (fun hh => by obtain ⟨r, t1, U1, z1, z2, z3⟩ := hq.2 hh; exact ⟨r, t1, z1, U1, z2, z3⟩) tw_287 tw_280 tw_281 tw_282 (by decide +kernel) ⟨(Nat.le_of_ble_eq_true rfl), (Nat.le_of_ble_eq_true rfl)⟩ ⟨(Nat.le_of_ble_eq_true rfl), (Nat.le_of_ble_eq_true rfl)⟩ ⟨hcl, hsl⟩ rfl hl.1 rfl (Nat.le_of_ble_eq_true rfl) dL_law_445 (fun r t gs hs sh hP H locs V => ?_)
  obtain ⟨U1, hjm, hI2⟩ := hP
  refine lv_aload_n hx hb dL_law_448 rfl (lv_at hl 2 rfl) ?_
  refine lv_aload_n hx hb dL_law_449 rfl (lv_at hl 0 rfl) ?_
  refine lv_iload_n hx hb dL_law_450 rfl (lv_at hl 3 rfl) ?_
  refine lv_iconst (v := 1) hx hb dL_law_451 (by decide) ?_
  refine lv_iadd hx hb dL_law_452 ?_
  refine va_sld hx hb hX hbl hbA V.2.2.2.1 (law_in (j := 1) rfl (by omega) hL) dL_law_453 ?_
  refine x_topi ea1 ?_
  refine lv_aload_n hx hb dL_law_454 rfl (lv_at hl 0 rfl) ?_
  refine lv_iload_n hx hb dL_law_455 rfl (lv_at hl 3 rfl) ?_
  refine lv_iconst (v := 2) hx hb dL_law_456 (by decide) ?_
  refine lv_iadd hx hb dL_law_457 ?_
  refine va_sld hx hb hX hbl hbA V.2.2.2.1 (law_in (j := 2) rfl (by omega) hL) dL_law_458 ?_
  refine x_topi ea2 ?_
  refine x_midI V (rf_run (n := 2) (As := [.int a1, .int a2]) (rest := [.int r]) C V (k_X7_answered l D tc mo mad U a1 a2 hjm) tw_661 tw_662 tw_663 tw_664 (by decide +kernel) ⟨(Nat.le_of_ble_eq_true rfl), (Nat.le_of_ble_eq_true rfl)⟩ ⟨hcl, hsl⟩ rfl hl.1 rfl (Nat.le_of_ble_eq_true rfl) dL_law_459) (fun H locs V _ => ?_)
  refine lv_icmp_eq (tgt := 950) hx hb dL_law_462 (by decide) (fun _ => ?_) (fun hne => absurd rfl hne)
  refine W.widen (k := 72 + 2 * i0) (n := 13084 + 14 * i0) (by omega) (by omega) ?_
  exact hn _ _ _ _ _ _ _ _ _ _ _ _ _ _ _ _ ls hI2 V hl

set_option maxHeartbeats 4000000 in
set_option maxRecDepth 100000 in
theorem law_call {p : Program} {l : Launch} {e : Env} {s : State} {m : MethodId} {below : List Frame} {meth : Method} {c : Code} {Q : State → Prop} {D : va_G} {tc : Nat → ClassId} {b L xo mo : Nat} {mad : Nat → Nat} {xs : Nat → Int32} {i0 : Nat} {Inv : IVT} {H : Heap} {locs : List Loc} {ls : Array Slot} {t : Nat → Int32} {gs : St} {hs : Nat → St} {kt : Nat → Option Nat} {tu : Nat → Int32} {tq : Nat → (Nat → Int32) × (Nat → Int32)} {nT nH : Nat} {U : St} {xa ad : Nat → Nat} {ta ha : Nat → Nat → Nat} {sh : Nat} (C : Cx p s m #[Value.ref b] meth c cL_law 4 RL ret) (hX : va_X b L xs s s.heap) (hbl : b < s.heap.size) (hL : L ≤ 3072) (hi0 : i0 + 6 ≤ L) (hn : LNext p l e s m below meth c Q D tc b xo mo mad Inv i0) (hB : FcB Inv) (hI : Inv i0 t gs hs kt tu tq nT nH U) (V : Wd D tc (fun q : Nat => s.heap.size ≤ q) s H locs (Xw tc xo xa ad ta ha sh t gs hs kt tu tq nT nH ++ (Mw tc mo mad U ++ []))) (hl : lv_has ls 4 [(0, .ref b), (1, .ref xo), (2, .ref mo), (3, .int (nI i0))]) (hF : Fc_call Inv) : W p l e room_1 s m #[Value.ref b] below meth c H locs (60 + 2 * i0) (13000 + 14 * i0) Q (F0 m 467 ls []) := by
  obtain ⟨hx, hb, hr, hml, hown, hts, hlk, hN⟩ := id C
  have hbA : ¬ (fun q : Nat => s.heap.size ≤ q) b := Nat.not_le.mpr hbl
  obtain ⟨hb4, hb12, hbk⟩ := hB _ _ _ _ _ _ _ _ _ _ hI
  have hcl : 60 + 2 * i0 ≤ room_1.cells := (show 60 + 2 * i0 ≤ 600000 by omega)
  have hsl : 13000 + 14 * i0 ≤ room_1.slots := (show 13000 + 14 * i0 ≤ 7302250 by omega)
  refine lv_aload_n hx hb dL_law_467 rfl (lv_at hl 1 rfl) ?_
  refine lv_aload_n hx hb dL_law_468 rfl (lv_at hl 0 rfl) ?_
  refine lv_iload_n hx hb dL_law_469 rfl (lv_at hl 3 rfl) ?_
  refine lv_iconst (v := 1) hx hb dL_law_470 (by decide) ?_
  refine lv_iadd hx hb dL_law_471 ?_
  refine va_sld hx hb hX hbl hbA V.2.2.2.1 (law_in (j := 1) rfl (by omega) hL) dL_law_472 ?_
  refine lv_topi (fun a1 ea1 => ?_)
  refine lv_aload_n hx hb dL_law_473 rfl (lv_at hl 0 rfl) ?_
  refine lv_iload_n hx hb dL_law_474 rfl (lv_at hl 3 rfl) ?_
  refine lv_iconst (v := 2) hx hb dL_law_475 (by decide) ?_
  refine lv_iadd hx hb dL_law_476 ?_
  refine va_sld hx hb hX hbl hbA V.2.2.2.1 (law_in (j := 2) rfl (by omega) hL) dL_law_477 ?_
  refine lv_topi (fun a2 ea2 => ?_)
  refine lv_aload_n hx hb dL_law_478 rfl (lv_at hl 0 rfl) ?_
  refine lv_iload_n hx hb dL_law_479 rfl (lv_at hl 3 rfl) ?_
  refine lv_iconst (v := 3) hx hb dL_law_480 (by decide) ?_
  refine lv_iadd hx hb dL_law_481 ?_
  refine va_sld hx hb hX hbl hbA V.2.2.2.1 (law_in (j := 3) rfl (by omega) hL) dL_law_482 ?_
  refine lv_topi (fun a3 ea3 => ?_)
  have hq := hF a1 a2 a3 i0 (by omega) t gs hs kt tu tq nT nH U hI
  refine cl_YN (n := 3) (As := [.int a1, .int a2, .int a3]) (rest := []) C V hb12 hbk (fun T a6 t u sh => j_X6_call_Y T a6 t u sh a1 a2 a3) (fun t => j_X6_call_N t a1 a2 a3) (fun xo xa ad ta us T f g nT nH rest t u sh hf x0 hj => k_X6_call_Y l D tc xo xa ad ta us T f g nT nH rest t u sh a1 a2 a3 hf hj) (fun xo xa ad f g nT nH rest t hf x0 hj => k_X6_call_N l D tc xo xa ad f g nT nH rest t a1 a2 a3 hf hj) (fun r t1 g1 h1 => ∃ U1, pr U (j_X7_call U a1 a2 a3) = some (r, U1) ∧ Inv (i0 + 6) t1 g1 h1 kt tu tq nT nH U1) (fun i hi hh => by obtain ⟨r, t1, u1, s1, U1, z1, z2, z3⟩ := hq.1 i hi hh (ha i 6) sh; exact ⟨r, t1, u1, s1, z1, U1, z2, z3⟩) (fun hh => by obtain ⟨r, t1, U1, z1, z2, z3⟩ := hq.2 hh; exact ⟨r, t1, z1, U1, z2, z3⟩) tw_288 tw_289 tw_290 tw_291 (by decide +kernel) ⟨(Nat.le_of_ble_eq_true rfl), (Nat.le_of_ble_eq_true rfl)⟩ ⟨(Nat.le_of_ble_eq_true rfl), (Nat.le_of_ble_eq_true rfl)⟩ ⟨hcl, hsl⟩ rfl hl.1 rfl (Nat.le_of_ble_eq_true rfl) dL_law_483 (fun r t gs hs sh hP H locs V => ?_)
  obtain ⟨U1, hjm, hI2⟩ := hP
  obtain ⟨hjm, hUU⟩ := pr_some hjm
  rw [hUU] at hI2
  refine lv_aload_n hx hb dL_law_486 rfl (lv_at hl 2 rfl) ?_
  refine lv_aload_n hx hb dL_law_487 rfl (lv_at hl 0 rfl) ?_
  refine lv_iload_n hx hb dL_law_488 rfl (lv_at hl 3 rfl) ?_
  refine lv_iconst (v := 1) hx hb dL_law_489 (by decide) ?_
  refine lv_iadd hx hb dL_law_490 ?_
  refine va_sld hx hb hX hbl hbA V.2.2.2.1 (law_in (j := 1) rfl (by omega) hL) dL_law_491 ?_
  refine x_topi ea1 ?_
  refine lv_aload_n hx hb dL_law_492 rfl (lv_at hl 0 rfl) ?_
  refine lv_iload_n hx hb dL_law_493 rfl (lv_at hl 3 rfl) ?_
  refine lv_iconst (v := 2) hx hb dL_law_494 (by decide) ?_
  refine lv_iadd hx hb dL_law_495 ?_
  refine va_sld hx hb hX hbl hbA V.2.2.2.1 (law_in (j := 2) rfl (by omega) hL) dL_law_496 ?_
  refine x_topi ea2 ?_
  refine lv_aload_n hx hb dL_law_497 rfl (lv_at hl 0 rfl) ?_
  refine lv_iload_n hx hb dL_law_498 rfl (lv_at hl 3 rfl) ?_
  refine lv_iconst (v := 3) hx hb dL_law_499 (by decide) ?_
  refine lv_iadd hx hb dL_law_500 ?_
  refine va_sld hx hb hX hbl hbA V.2.2.2.1 (law_in (j := 3) rfl (by omega) hL) dL_law_501 ?_
  refine x_topi ea3 ?_
  refine x_midI V (rf_run (n := 3) (As := [.int a1, .int a2, .int a3]) (rest := [.int r]) C V (k_X7_call l D tc mo mad U a1 a2 a3 hjm) tw_665 tw_666 tw_667 tw_668 (by decide +kernel) ⟨(Nat.le_of_ble_eq_true rfl), (Nat.le_of_ble_eq_true rfl)⟩ ⟨hcl, hsl⟩ rfl hl.1 rfl (Nat.le_of_ble_eq_true rfl) dL_law_502) (fun H locs V _ => ?_)
  refine lv_icmp_eq (tgt := 950) hx hb dL_law_505 (by decide) (fun _ => ?_) (fun hne => absurd rfl hne)
  refine W.widen (k := 72 + 2 * i0) (n := 13084 + 14 * i0) (by omega) (by omega) ?_
  exact hn _ _ _ _ _ _ _ _ _ _ _ _ _ _ _ _ ls hI2 V hl

set_option maxHeartbeats 4000000 in
set_option maxRecDepth 100000 in
theorem law_about {p : Program} {l : Launch} {e : Env} {s : State} {m : MethodId} {below : List Frame} {meth : Method} {c : Code} {Q : State → Prop} {D : va_G} {tc : Nat → ClassId} {b L xo mo : Nat} {mad : Nat → Nat} {xs : Nat → Int32} {i0 : Nat} {Inv : IVT} {H : Heap} {locs : List Loc} {ls : Array Slot} {t : Nat → Int32} {gs : St} {hs : Nat → St} {kt : Nat → Option Nat} {tu : Nat → Int32} {tq : Nat → (Nat → Int32) × (Nat → Int32)} {nT nH : Nat} {U : St} {xa ad : Nat → Nat} {ta ha : Nat → Nat → Nat} {sh : Nat} (C : Cx p s m #[Value.ref b] meth c cL_law 4 RL ret) (hX : va_X b L xs s s.heap) (hbl : b < s.heap.size) (hL : L ≤ 3072) (hi0 : i0 + 6 ≤ L) (hn : LNext p l e s m below meth c Q D tc b xo mo mad Inv i0) (hB : FcB Inv) (hI : Inv i0 t gs hs kt tu tq nT nH U) (V : Wd D tc (fun q : Nat => s.heap.size ≤ q) s H locs (Xw tc xo xa ad ta ha sh t gs hs kt tu tq nT nH ++ (Mw tc mo mad U ++ []))) (hl : lv_has ls 4 [(0, .ref b), (1, .ref xo), (2, .ref mo), (3, .int (nI i0))]) (hF : Fc_about Inv) : W p l e room_1 s m #[Value.ref b] below meth c H locs (60 + 2 * i0) (13000 + 14 * i0) Q (F0 m 510 ls []) := by
  obtain ⟨hx, hb, hr, hml, hown, hts, hlk, hN⟩ := id C
  have hbA : ¬ (fun q : Nat => s.heap.size ≤ q) b := Nat.not_le.mpr hbl
  obtain ⟨hb4, hb12, hbk⟩ := hB _ _ _ _ _ _ _ _ _ _ hI
  have hcl : 60 + 2 * i0 ≤ room_1.cells := (show 60 + 2 * i0 ≤ 600000 by omega)
  have hsl : 13000 + 14 * i0 ≤ room_1.slots := (show 13000 + 14 * i0 ≤ 7302250 by omega)
  refine lv_aload_n hx hb dL_law_510 rfl (lv_at hl 1 rfl) ?_
  refine lv_aload_n hx hb dL_law_511 rfl (lv_at hl 0 rfl) ?_
  refine lv_iload_n hx hb dL_law_512 rfl (lv_at hl 3 rfl) ?_
  refine lv_iconst (v := 1) hx hb dL_law_513 (by decide) ?_
  refine lv_iadd hx hb dL_law_514 ?_
  refine va_sld hx hb hX hbl hbA V.2.2.2.1 (law_in (j := 1) rfl (by omega) hL) dL_law_515 ?_
  refine lv_topi (fun a1 ea1 => ?_)
  refine lv_aload_n hx hb dL_law_516 rfl (lv_at hl 0 rfl) ?_
  refine lv_iload_n hx hb dL_law_517 rfl (lv_at hl 3 rfl) ?_
  refine lv_iconst (v := 2) hx hb dL_law_518 (by decide) ?_
  refine lv_iadd hx hb dL_law_519 ?_
  refine va_sld hx hb hX hbl hbA V.2.2.2.1 (law_in (j := 2) rfl (by omega) hL) dL_law_520 ?_
  refine lv_topi (fun a2 ea2 => ?_)
  have hq := hF a1 a2 i0 (by omega) t gs hs kt tu tq nT nH U hI
  refine cl_YN (n := 2) (As := [.int a1, .int a2]) (rest := []) C V hb12 hbk (fun T a6 t u sh => j_X6_about_Y T a6 t u sh a1 a2) (fun t => j_X6_about_N t a1 a2) (fun xo xa ad ta us T f g nT nH rest t u sh hf x0 hj => k_X6_about_Y l D tc xo xa ad ta us T f g nT nH rest t u sh a1 a2 hf hj) (fun xo xa ad f g nT nH rest t hf x0 hj => k_X6_about_N l D tc xo xa ad f g nT nH rest t a1 a2 hf hj) (fun r t1 g1 h1 => ∃ U1, pr U (j_X7_about U a1 a2) = some (r, U1) ∧ Inv (i0 + 6) t1 g1 h1 kt tu tq nT nH U1) (fun i hi hh => by obtain ⟨r, t1, u1, s1, U1, z1, z2, z3⟩ := hq.1 i hi hh (ha i 6) sh; exact ⟨r, t1, u1, s1, z1, U1, z2, z3⟩) (fun hh => by obtain ⟨r, t1, U1, z1, z2, z3⟩ := hq.2 hh; exact ⟨r, t1, z1, U1, z2, z3⟩) tw_292 tw_293 tw_294 tw_295 (by decide +kernel) ⟨(Nat.le_of_ble_eq_true rfl), (Nat.le_of_ble_eq_true rfl)⟩ ⟨(Nat.le_of_ble_eq_true rfl), (Nat.le_of_ble_eq_true rfl)⟩ ⟨hcl, hsl⟩ rfl hl.1 rfl (Nat.le_of_ble_eq_true rfl) dL_law_521 (fun r t gs hs sh hP H locs V => ?_)
  obtain ⟨U1, hjm, hI2⟩ := hP
  obtain ⟨hjm, hUU⟩ := pr_some hjm
  rw [hUU] at hI2
  refine lv_aload_n hx hb dL_law_524 rfl (lv_at hl 2 rfl) ?_
  refine lv_aload_n hx hb dL_law_525 rfl (lv_at hl 0 rfl) ?_
  refine lv_iload_n hx hb dL_law_526 rfl (lv_at hl 3 rfl) ?_
  refine lv_iconst (v := 1) hx hb dL_law_527 (by decide) ?_
  refine lv_iadd hx hb dL_law_528 ?_
  refine va_sld hx hb hX hbl hbA V.2.2.2.1 (law_in (j := 1) rfl (by omega) hL) dL_law_529 ?_
  refine x_topi ea1 ?_
  refine lv_aload_n hx hb dL_law_530 rfl (lv_at hl 0 rfl) ?_
  refine lv_iload_n hx hb dL_law_531 rfl (lv_at hl 3 rfl) ?_
  refine lv_iconst (v := 2) hx hb dL_law_532 (by decide) ?_
  refine lv_iadd hx hb dL_law_533 ?_
  refine va_sld hx hb hX hbl hbA V.2.2.2.1 (law_in (j := 2) rfl (by omega) hL) dL_law_534 ?_
  refine x_topi ea2 ?_
  refine x_midI V (rf_run (n := 2) (As := [.int a1, .int a2]) (rest := [.int r]) C V (k_X7_about l D tc mo mad U a1 a2 hjm) tw_669 tw_670 tw_671 tw_672 (by decide +kernel) ⟨(Nat.le_of_ble_eq_true rfl), (Nat.le_of_ble_eq_true rfl)⟩ ⟨hcl, hsl⟩ rfl hl.1 rfl (Nat.le_of_ble_eq_true rfl) dL_law_535) (fun H locs V _ => ?_)
  refine lv_icmp_eq (tgt := 950) hx hb dL_law_538 (by decide) (fun _ => ?_) (fun hne => absurd rfl hne)
  refine W.widen (k := 72 + 2 * i0) (n := 13084 + 14 * i0) (by omega) (by omega) ?_
  exact hn _ _ _ _ _ _ _ _ _ _ _ _ _ _ _ _ ls hI2 V hl

set_option maxHeartbeats 4000000 in
set_option maxRecDepth 100000 in
theorem law_ahead {p : Program} {l : Launch} {e : Env} {s : State} {m : MethodId} {below : List Frame} {meth : Method} {c : Code} {Q : State → Prop} {D : va_G} {tc : Nat → ClassId} {b L xo mo : Nat} {mad : Nat → Nat} {xs : Nat → Int32} {i0 : Nat} {Inv : IVT} {H : Heap} {locs : List Loc} {ls : Array Slot} {t : Nat → Int32} {gs : St} {hs : Nat → St} {kt : Nat → Option Nat} {tu : Nat → Int32} {tq : Nat → (Nat → Int32) × (Nat → Int32)} {nT nH : Nat} {U : St} {xa ad : Nat → Nat} {ta ha : Nat → Nat → Nat} {sh : Nat} (C : Cx p s m #[Value.ref b] meth c cL_law 4 RL ret) (hX : va_X b L xs s s.heap) (hbl : b < s.heap.size) (hL : L ≤ 3072) (hi0 : i0 + 6 ≤ L) (hn : LNext p l e s m below meth c Q D tc b xo mo mad Inv i0) (hB : FcB Inv) (hI : Inv i0 t gs hs kt tu tq nT nH U) (V : Wd D tc (fun q : Nat => s.heap.size ≤ q) s H locs (Xw tc xo xa ad ta ha sh t gs hs kt tu tq nT nH ++ (Mw tc mo mad U ++ []))) (hl : lv_has ls 4 [(0, .ref b), (1, .ref xo), (2, .ref mo), (3, .int (nI i0))]) (hF : Fc_ahead Inv) : W p l e room_1 s m #[Value.ref b] below meth c H locs (60 + 2 * i0) (13000 + 14 * i0) Q (F0 m 543 ls []) := by
  obtain ⟨hx, hb, hr, hml, hown, hts, hlk, hN⟩ := id C
  have hbA : ¬ (fun q : Nat => s.heap.size ≤ q) b := Nat.not_le.mpr hbl
  obtain ⟨hb4, hb12, hbk⟩ := hB _ _ _ _ _ _ _ _ _ _ hI
  have hcl : 60 + 2 * i0 ≤ room_1.cells := (show 60 + 2 * i0 ≤ 600000 by omega)
  have hsl : 13000 + 14 * i0 ≤ room_1.slots := (show 13000 + 14 * i0 ≤ 7302250 by omega)
  refine lv_aload_n hx hb dL_law_543 rfl (lv_at hl 1 rfl) ?_
  refine lv_aload_n hx hb dL_law_544 rfl (lv_at hl 0 rfl) ?_
  refine lv_iload_n hx hb dL_law_545 rfl (lv_at hl 3 rfl) ?_
  refine lv_iconst (v := 1) hx hb dL_law_546 (by decide) ?_
  refine lv_iadd hx hb dL_law_547 ?_
  refine va_sld hx hb hX hbl hbA V.2.2.2.1 (law_in (j := 1) rfl (by omega) hL) dL_law_548 ?_
  refine lv_topi (fun a1 ea1 => ?_)
  refine lv_aload_n hx hb dL_law_549 rfl (lv_at hl 0 rfl) ?_
  refine lv_iload_n hx hb dL_law_550 rfl (lv_at hl 3 rfl) ?_
  refine lv_iconst (v := 2) hx hb dL_law_551 (by decide) ?_
  refine lv_iadd hx hb dL_law_552 ?_
  refine va_sld hx hb hX hbl hbA V.2.2.2.1 (law_in (j := 2) rfl (by omega) hL) dL_law_553 ?_
  refine lv_topi (fun a2 ea2 => ?_)
  refine lv_aload_n hx hb dL_law_554 rfl (lv_at hl 0 rfl) ?_
  refine lv_iload_n hx hb dL_law_555 rfl (lv_at hl 3 rfl) ?_
  refine lv_iconst (v := 3) hx hb dL_law_556 (by decide) ?_
  refine lv_iadd hx hb dL_law_557 ?_
  refine va_sld hx hb hX hbl hbA V.2.2.2.1 (law_in (j := 3) rfl (by omega) hL) dL_law_558 ?_
  refine lv_topi (fun a3 ea3 => ?_)
  refine lv_aload_n hx hb dL_law_559 rfl (lv_at hl 0 rfl) ?_
  refine lv_iload_n hx hb dL_law_560 rfl (lv_at hl 3 rfl) ?_
  refine lv_iconst (v := 4) hx hb dL_law_561 (by decide) ?_
  refine lv_iadd hx hb dL_law_562 ?_
  refine va_sld hx hb hX hbl hbA V.2.2.2.1 (law_in (j := 4) rfl (by omega) hL) dL_law_563 ?_
  refine lv_topi (fun a4 ea4 => ?_)
  have hq := hF a1 a2 a3 a4 i0 (by omega) t gs hs kt tu tq nT nH U hI
  refine cl_YN (n := 4) (As := [.int a1, .int a2, .int a3, .int a4]) (rest := []) C V hb12 hbk (fun T a6 t u sh => j_X6_ahead_Y T a6 t u sh a1 a2 a3 a4) (fun t => j_X6_ahead_N t a1 a2 a3 a4) (fun xo xa ad ta us T f g nT nH rest t u sh hf x0 hj => k_X6_ahead_Y l D tc xo xa ad ta us T f g nT nH rest t u sh a1 a2 a3 a4 hf hj) (fun xo xa ad f g nT nH rest t hf x0 hj => k_X6_ahead_N l D tc xo xa ad f g nT nH rest t a1 a2 a3 a4 hf hj) (fun r t1 g1 h1 => ∃ U1, pr U (j_X7_ahead U a1 a2 a3 a4) = some (r, U1) ∧ Inv (i0 + 6) t1 g1 h1 kt tu tq nT nH U1) (fun i hi hh => by obtain ⟨r, t1, u1, s1, U1, z1, z2, z3⟩ := hq.1 i hi hh (ha i 6) sh; exact ⟨r, t1, u1, s1, z1, U1, z2, z3⟩) (fun hh => by obtain ⟨r, t1, U1, z1, z2, z3⟩ := hq.2 hh; exact ⟨r, t1, z1, U1, z2, z3⟩) tw_306 tw_307 tw_308 tw_309 (by decide +kernel) ⟨(Nat.le_of_ble_eq_true rfl), (Nat.le_of_ble_eq_true rfl)⟩ ⟨(Nat.le_of_ble_eq_true rfl), (Nat.le_of_ble_eq_true rfl)⟩ ⟨hcl, hsl⟩ rfl hl.1 rfl (Nat.le_of_ble_eq_true rfl) dL_law_564 (fun r t gs hs sh hP H locs V => ?_)
  obtain ⟨U1, hjm, hI2⟩ := hP
  obtain ⟨hjm, hUU⟩ := pr_some hjm
  rw [hUU] at hI2
  refine lv_aload_n hx hb dL_law_567 rfl (lv_at hl 2 rfl) ?_
  refine lv_aload_n hx hb dL_law_568 rfl (lv_at hl 0 rfl) ?_
  refine lv_iload_n hx hb dL_law_569 rfl (lv_at hl 3 rfl) ?_
  refine lv_iconst (v := 1) hx hb dL_law_570 (by decide) ?_
  refine lv_iadd hx hb dL_law_571 ?_
  refine va_sld hx hb hX hbl hbA V.2.2.2.1 (law_in (j := 1) rfl (by omega) hL) dL_law_572 ?_
  refine x_topi ea1 ?_
  refine lv_aload_n hx hb dL_law_573 rfl (lv_at hl 0 rfl) ?_
  refine lv_iload_n hx hb dL_law_574 rfl (lv_at hl 3 rfl) ?_
  refine lv_iconst (v := 2) hx hb dL_law_575 (by decide) ?_
  refine lv_iadd hx hb dL_law_576 ?_
  refine va_sld hx hb hX hbl hbA V.2.2.2.1 (law_in (j := 2) rfl (by omega) hL) dL_law_577 ?_
  refine x_topi ea2 ?_
  refine lv_aload_n hx hb dL_law_578 rfl (lv_at hl 0 rfl) ?_
  refine lv_iload_n hx hb dL_law_579 rfl (lv_at hl 3 rfl) ?_
  refine lv_iconst (v := 3) hx hb dL_law_580 (by decide) ?_
  refine lv_iadd hx hb dL_law_581 ?_
  refine va_sld hx hb hX hbl hbA V.2.2.2.1 (law_in (j := 3) rfl (by omega) hL) dL_law_582 ?_
  refine x_topi ea3 ?_
  refine lv_aload_n hx hb dL_law_583 rfl (lv_at hl 0 rfl) ?_
  refine lv_iload_n hx hb dL_law_584 rfl (lv_at hl 3 rfl) ?_
  refine lv_iconst (v := 4) hx hb dL_law_585 (by decide) ?_
  refine lv_iadd hx hb dL_law_586 ?_
  refine va_sld hx hb hX hbl hbA V.2.2.2.1 (law_in (j := 4) rfl (by omega) hL) dL_law_587 ?_
  refine x_topi ea4 ?_
  refine x_midI V (rf_run (n := 4) (As := [.int a1, .int a2, .int a3, .int a4]) (rest := [.int r]) C V (k_X7_ahead l D tc mo mad U a1 a2 a3 a4 hjm) tw_673 tw_674 tw_675 tw_676 (by decide +kernel) ⟨(Nat.le_of_ble_eq_true rfl), (Nat.le_of_ble_eq_true rfl)⟩ ⟨hcl, hsl⟩ rfl hl.1 rfl (Nat.le_of_ble_eq_true rfl) dL_law_588) (fun H locs V _ => ?_)
  refine lv_icmp_eq (tgt := 950) hx hb dL_law_591 (by decide) (fun _ => ?_) (fun hne => absurd rfl hne)
  refine W.widen (k := 72 + 2 * i0) (n := 13084 + 14 * i0) (by omega) (by omega) ?_
  exact hn _ _ _ _ _ _ _ _ _ _ _ _ _ _ _ _ ls hI2 V hl

set_option maxHeartbeats 4000000 in
set_option maxRecDepth 100000 in
theorem law_judge {p : Program} {l : Launch} {e : Env} {s : State} {m : MethodId} {below : List Frame} {meth : Method} {c : Code} {Q : State → Prop} {D : va_G} {tc : Nat → ClassId} {b L xo mo : Nat} {mad : Nat → Nat} {xs : Nat → Int32} {i0 : Nat} {Inv : IVT} {H : Heap} {locs : List Loc} {ls : Array Slot} {t : Nat → Int32} {gs : St} {hs : Nat → St} {kt : Nat → Option Nat} {tu : Nat → Int32} {tq : Nat → (Nat → Int32) × (Nat → Int32)} {nT nH : Nat} {U : St} {xa ad : Nat → Nat} {ta ha : Nat → Nat → Nat} {sh : Nat} (C : Cx p s m #[Value.ref b] meth c cL_law 4 RL ret) (hX : va_X b L xs s s.heap) (hbl : b < s.heap.size) (hL : L ≤ 3072) (hi0 : i0 + 6 ≤ L) (hn : LNext p l e s m below meth c Q D tc b xo mo mad Inv i0) (hB : FcB Inv) (hI : Inv i0 t gs hs kt tu tq nT nH U) (V : Wd D tc (fun q : Nat => s.heap.size ≤ q) s H locs (Xw tc xo xa ad ta ha sh t gs hs kt tu tq nT nH ++ (Mw tc mo mad U ++ []))) (hl : lv_has ls 4 [(0, .ref b), (1, .ref xo), (2, .ref mo), (3, .int (nI i0))]) (hF : Fc_judge Inv) : W p l e room_1 s m #[Value.ref b] below meth c H locs (60 + 2 * i0) (13000 + 14 * i0) Q (F0 m 596 ls []) := by
  obtain ⟨hx, hb, hr, hml, hown, hts, hlk, hN⟩ := id C
  have hbA : ¬ (fun q : Nat => s.heap.size ≤ q) b := Nat.not_le.mpr hbl
  obtain ⟨hb4, hb12, hbk⟩ := hB _ _ _ _ _ _ _ _ _ _ hI
  have hcl : 60 + 2 * i0 ≤ room_1.cells := (show 60 + 2 * i0 ≤ 600000 by omega)
  have hsl : 13000 + 14 * i0 ≤ room_1.slots := (show 13000 + 14 * i0 ≤ 7302250 by omega)
  refine lv_aload_n hx hb dL_law_596 rfl (lv_at hl 1 rfl) ?_
  refine lv_aload_n hx hb dL_law_597 rfl (lv_at hl 0 rfl) ?_
  refine lv_iload_n hx hb dL_law_598 rfl (lv_at hl 3 rfl) ?_
  refine lv_iconst (v := 1) hx hb dL_law_599 (by decide) ?_
  refine lv_iadd hx hb dL_law_600 ?_
  refine va_sld hx hb hX hbl hbA V.2.2.2.1 (law_in (j := 1) rfl (by omega) hL) dL_law_601 ?_
  refine lv_topi (fun a1 ea1 => ?_)
  refine lv_aload_n hx hb dL_law_602 rfl (lv_at hl 0 rfl) ?_
  refine lv_iload_n hx hb dL_law_603 rfl (lv_at hl 3 rfl) ?_
  refine lv_iconst (v := 2) hx hb dL_law_604 (by decide) ?_
  refine lv_iadd hx hb dL_law_605 ?_
  refine va_sld hx hb hX hbl hbA V.2.2.2.1 (law_in (j := 2) rfl (by omega) hL) dL_law_606 ?_
  refine lv_topi (fun a2 ea2 => ?_)
  have hq := hF a1 a2 i0 (by omega) t gs hs kt tu tq nT nH U hI
  refine cl_YN (n := 2) (As := [.int a1, .int a2]) (rest := []) C V hb12 hbk (fun T a6 t u sh => j_X6_judge_Y T a6 t u sh a1 a2) (fun t => j_X6_judge_N t a1 a2) (fun xo xa ad ta us T f g nT nH rest t u sh hf x0 hj => k_X6_judge_Y l D tc xo xa ad ta us T f g nT nH rest t u sh a1 a2 hf hj) (fun xo xa ad f g nT nH rest t hf x0 hj => k_X6_judge_N l D tc xo xa ad f g nT nH rest t a1 a2 hf hj) (fun r t1 g1 h1 => ∃ U1, j_X7_judge U a1 a2 = some (r, U1) ∧ Inv (i0 + 6) t1 g1 h1 kt tu tq nT nH U1) (fun i hi hh => by obtain ⟨r, t1, u1, s1, U1, z1, z2, z3⟩ := hq.1 i hi hh (ha i 6) sh; exact ⟨r, t1, u1, s1, z1, U1, z2, z3⟩) (fun hh => by obtain ⟨r, t1, U1, z1, z2, z3⟩ := hq.2 hh; exact ⟨r, t1, z1, U1, z2, z3⟩) tw_333 tw_334 tw_335 tw_336 (by decide +kernel) ⟨(Nat.le_of_ble_eq_true rfl), (Nat.le_of_ble_eq_true rfl)⟩ ⟨(Nat.le_of_ble_eq_true rfl), (Nat.le_of_ble_eq_true rfl)⟩ ⟨hcl, hsl⟩ rfl hl.1 rfl (Nat.le_of_ble_eq_true rfl) dL_law_607 (fun r t gs hs sh hP H locs V => ?_)
  obtain ⟨U1, hjm, hI2⟩ := hP
  refine lv_aload_n hx hb dL_law_610 rfl (lv_at hl 2 rfl) ?_
  refine lv_aload_n hx hb dL_law_611 rfl (lv_at hl 0 rfl) ?_
  refine lv_iload_n hx hb dL_law_612 rfl (lv_at hl 3 rfl) ?_
  refine lv_iconst (v := 1) hx hb dL_law_613 (by decide) ?_
  refine lv_iadd hx hb dL_law_614 ?_
  refine va_sld hx hb hX hbl hbA V.2.2.2.1 (law_in (j := 1) rfl (by omega) hL) dL_law_615 ?_
  refine x_topi ea1 ?_
  refine lv_aload_n hx hb dL_law_616 rfl (lv_at hl 0 rfl) ?_
  refine lv_iload_n hx hb dL_law_617 rfl (lv_at hl 3 rfl) ?_
  refine lv_iconst (v := 2) hx hb dL_law_618 (by decide) ?_
  refine lv_iadd hx hb dL_law_619 ?_
  refine va_sld hx hb hX hbl hbA V.2.2.2.1 (law_in (j := 2) rfl (by omega) hL) dL_law_620 ?_
  refine x_topi ea2 ?_
  refine x_midI V (rf_run (n := 2) (As := [.int a1, .int a2]) (rest := [.int r]) C V (k_X7_judge l D tc mo mad U a1 a2 hjm) tw_692 tw_693 tw_694 tw_695 (by decide +kernel) ⟨(Nat.le_of_ble_eq_true rfl), (Nat.le_of_ble_eq_true rfl)⟩ ⟨hcl, hsl⟩ rfl hl.1 rfl (Nat.le_of_ble_eq_true rfl) dL_law_621) (fun H locs V _ => ?_)
  refine lv_icmp_eq (tgt := 950) hx hb dL_law_624 (by decide) (fun _ => ?_) (fun hne => absurd rfl hne)
  refine W.widen (k := 72 + 2 * i0) (n := 13084 + 14 * i0) (by omega) (by omega) ?_
  exact hn _ _ _ _ _ _ _ _ _ _ _ _ _ _ _ _ ls hI2 V hl

set_option maxHeartbeats 4000000 in
set_option maxRecDepth 100000 in
theorem law_first {p : Program} {l : Launch} {e : Env} {s : State} {m : MethodId} {below : List Frame} {meth : Method} {c : Code} {Q : State → Prop} {D : va_G} {tc : Nat → ClassId} {b L xo mo : Nat} {mad : Nat → Nat} {xs : Nat → Int32} {i0 : Nat} {Inv : IVT} {H : Heap} {locs : List Loc} {ls : Array Slot} {t : Nat → Int32} {gs : St} {hs : Nat → St} {kt : Nat → Option Nat} {tu : Nat → Int32} {tq : Nat → (Nat → Int32) × (Nat → Int32)} {nT nH : Nat} {U : St} {xa ad : Nat → Nat} {ta ha : Nat → Nat → Nat} {sh : Nat} (C : Cx p s m #[Value.ref b] meth c cL_law 4 RL ret) (hX : va_X b L xs s s.heap) (hbl : b < s.heap.size) (hL : L ≤ 3072) (hi0 : i0 + 6 ≤ L) (hn : LNext p l e s m below meth c Q D tc b xo mo mad Inv i0) (hB : FcB Inv) (hI : Inv i0 t gs hs kt tu tq nT nH U) (V : Wd D tc (fun q : Nat => s.heap.size ≤ q) s H locs (Xw tc xo xa ad ta ha sh t gs hs kt tu tq nT nH ++ (Mw tc mo mad U ++ []))) (hl : lv_has ls 4 [(0, .ref b), (1, .ref xo), (2, .ref mo), (3, .int (nI i0))]) (hF : Fc_first Inv) : W p l e room_1 s m #[Value.ref b] below meth c H locs (60 + 2 * i0) (13000 + 14 * i0) Q (F0 m 629 ls []) := by
  obtain ⟨hx, hb, hr, hml, hown, hts, hlk, hN⟩ := id C
  have hbA : ¬ (fun q : Nat => s.heap.size ≤ q) b := Nat.not_le.mpr hbl
  obtain ⟨hb4, hb12, hbk⟩ := hB _ _ _ _ _ _ _ _ _ _ hI
  have hcl : 60 + 2 * i0 ≤ room_1.cells := (show 60 + 2 * i0 ≤ 600000 by omega)
  have hsl : 13000 + 14 * i0 ≤ room_1.slots := (show 13000 + 14 * i0 ≤ 7302250 by omega)
  refine lv_aload_n hx hb dL_law_629 rfl (lv_at hl 1 rfl) ?_
  refine lv_aload_n hx hb dL_law_630 rfl (lv_at hl 0 rfl) ?_
  refine lv_iload_n hx hb dL_law_631 rfl (lv_at hl 3 rfl) ?_
  refine lv_iconst (v := 1) hx hb dL_law_632 (by decide) ?_
  refine lv_iadd hx hb dL_law_633 ?_
  refine va_sld hx hb hX hbl hbA V.2.2.2.1 (law_in (j := 1) rfl (by omega) hL) dL_law_634 ?_
  refine lv_topi (fun a1 ea1 => ?_)
  refine lv_aload_n hx hb dL_law_635 rfl (lv_at hl 0 rfl) ?_
  refine lv_iload_n hx hb dL_law_636 rfl (lv_at hl 3 rfl) ?_
  refine lv_iconst (v := 2) hx hb dL_law_637 (by decide) ?_
  refine lv_iadd hx hb dL_law_638 ?_
  refine va_sld hx hb hX hbl hbA V.2.2.2.1 (law_in (j := 2) rfl (by omega) hL) dL_law_639 ?_
  refine lv_topi (fun a2 ea2 => ?_)
  refine lv_aload_n hx hb dL_law_640 rfl (lv_at hl 0 rfl) ?_
  refine lv_iload_n hx hb dL_law_641 rfl (lv_at hl 3 rfl) ?_
  refine lv_iconst (v := 3) hx hb dL_law_642 (by decide) ?_
  refine lv_iadd hx hb dL_law_643 ?_
  refine va_sld hx hb hX hbl hbA V.2.2.2.1 (law_in (j := 3) rfl (by omega) hL) dL_law_644 ?_
  refine lv_topi (fun a3 ea3 => ?_)
  have hq := hF a1 a2 a3 i0 (by omega) t gs hs kt tu tq nT nH U hI
  refine cl_YN (n := 3) (As := [.int a1, .int a2, .int a3]) (rest := []) C V hb12 hbk (fun T a6 t u sh => j_X6_first_Y T a6 t u sh a1 a2 a3) (fun t => j_X6_first_N t a1 a2 a3) (fun xo xa ad ta us T f g nT nH rest t u sh hf x0 hj => k_X6_first_Y l D tc xo xa ad ta us T f g nT nH rest t u sh a1 a2 a3 hf hj) (fun xo xa ad f g nT nH rest t hf x0 hj => k_X6_first_N l D tc xo xa ad f g nT nH rest t a1 a2 a3 hf hj) (fun r t1 g1 h1 => ∃ U1, j_X7_first U a1 a2 a3 = some (r, U1) ∧ Inv (i0 + 6) t1 g1 h1 kt tu tq nT nH U1) (fun i hi hh => by obtain ⟨r, t1, u1, s1, U1, z1, z2, z3⟩ := hq.1 i hi hh (ha i 6) sh; exact ⟨r, t1, u1, s1, z1, U1, z2, z3⟩) (fun hh => by obtain ⟨r, t1, U1, z1, z2, z3⟩ := hq.2 hh; exact ⟨r, t1, z1, U1, z2, z3⟩) tw_435 tw_436 tw_437 tw_438 (by decide +kernel) ⟨(Nat.le_of_ble_eq_true rfl), (Nat.le_of_ble_eq_true rfl)⟩ ⟨(Nat.le_of_ble_eq_true rfl), (Nat.le_of_ble_eq_true rfl)⟩ ⟨hcl, hsl⟩ rfl hl.1 rfl (Nat.le_of_ble_eq_true rfl) dL_law_645 (fun r t gs hs sh hP H locs V => ?_)
  obtain ⟨U1, hjm, hI2⟩ := hP
  refine lv_aload_n hx hb dL_law_648 rfl (lv_at hl 2 rfl) ?_
  refine lv_aload_n hx hb dL_law_649 rfl (lv_at hl 0 rfl) ?_
  refine lv_iload_n hx hb dL_law_650 rfl (lv_at hl 3 rfl) ?_
  refine lv_iconst (v := 1) hx hb dL_law_651 (by decide) ?_
  refine lv_iadd hx hb dL_law_652 ?_
  refine va_sld hx hb hX hbl hbA V.2.2.2.1 (law_in (j := 1) rfl (by omega) hL) dL_law_653 ?_
  refine x_topi ea1 ?_
  refine lv_aload_n hx hb dL_law_654 rfl (lv_at hl 0 rfl) ?_
  refine lv_iload_n hx hb dL_law_655 rfl (lv_at hl 3 rfl) ?_
  refine lv_iconst (v := 2) hx hb dL_law_656 (by decide) ?_
  refine lv_iadd hx hb dL_law_657 ?_
  refine va_sld hx hb hX hbl hbA V.2.2.2.1 (law_in (j := 2) rfl (by omega) hL) dL_law_658 ?_
  refine x_topi ea2 ?_
  refine lv_aload_n hx hb dL_law_659 rfl (lv_at hl 0 rfl) ?_
  refine lv_iload_n hx hb dL_law_660 rfl (lv_at hl 3 rfl) ?_
  refine lv_iconst (v := 3) hx hb dL_law_661 (by decide) ?_
  refine lv_iadd hx hb dL_law_662 ?_
  refine va_sld hx hb hX hbl hbA V.2.2.2.1 (law_in (j := 3) rfl (by omega) hL) dL_law_663 ?_
  refine x_topi ea3 ?_
  refine x_midI V (rf_run (n := 3) (As := [.int a1, .int a2, .int a3]) (rest := [.int r]) C V (k_X7_first l D tc mo mad U a1 a2 a3 hjm) tw_732 tw_733 tw_734 tw_735 (by decide +kernel) ⟨(Nat.le_of_ble_eq_true rfl), (Nat.le_of_ble_eq_true rfl)⟩ ⟨hcl, hsl⟩ rfl hl.1 rfl (Nat.le_of_ble_eq_true rfl) dL_law_664) (fun H locs V _ => ?_)
  refine lv_icmp_eq (tgt := 950) hx hb dL_law_667 (by decide) (fun _ => ?_) (fun hne => absurd rfl hne)
  refine W.widen (k := 72 + 2 * i0) (n := 13084 + 14 * i0) (by omega) (by omega) ?_
  exact hn _ _ _ _ _ _ _ _ _ _ _ _ _ _ _ _ ls hI2 V hl

set_option maxHeartbeats 4000000 in
set_option maxRecDepth 100000 in
theorem law_orders {p : Program} {l : Launch} {e : Env} {s : State} {m : MethodId} {below : List Frame} {meth : Method} {c : Code} {Q : State → Prop} {D : va_G} {tc : Nat → ClassId} {b L xo mo : Nat} {mad : Nat → Nat} {xs : Nat → Int32} {i0 : Nat} {Inv : IVT} {H : Heap} {locs : List Loc} {ls : Array Slot} {t : Nat → Int32} {gs : St} {hs : Nat → St} {kt : Nat → Option Nat} {tu : Nat → Int32} {tq : Nat → (Nat → Int32) × (Nat → Int32)} {nT nH : Nat} {U : St} {xa ad : Nat → Nat} {ta ha : Nat → Nat → Nat} {sh : Nat} (C : Cx p s m #[Value.ref b] meth c cL_law 4 RL ret) (hX : va_X b L xs s s.heap) (hbl : b < s.heap.size) (hL : L ≤ 3072) (hi0 : i0 + 6 ≤ L) (hn : LNext p l e s m below meth c Q D tc b xo mo mad Inv i0) (hB : FcB Inv) (hI : Inv i0 t gs hs kt tu tq nT nH U) (V : Wd D tc (fun q : Nat => s.heap.size ≤ q) s H locs (Xw tc xo xa ad ta ha sh t gs hs kt tu tq nT nH ++ (Mw tc mo mad U ++ []))) (hl : lv_has ls 4 [(0, .ref b), (1, .ref xo), (2, .ref mo), (3, .int (nI i0))]) (hF : Fc_orders Inv) : W p l e room_1 s m #[Value.ref b] below meth c H locs (60 + 2 * i0) (13000 + 14 * i0) Q (F0 m 672 ls []) := by
  obtain ⟨hx, hb, hr, hml, hown, hts, hlk, hN⟩ := id C
  have hbA : ¬ (fun q : Nat => s.heap.size ≤ q) b := Nat.not_le.mpr hbl
  obtain ⟨hb4, hb12, hbk⟩ := hB _ _ _ _ _ _ _ _ _ _ hI
  have hcl : 60 + 2 * i0 ≤ room_1.cells := (show 60 + 2 * i0 ≤ 600000 by omega)
  have hsl : 13000 + 14 * i0 ≤ room_1.slots := (show 13000 + 14 * i0 ≤ 7302250 by omega)
  refine lv_aload_n hx hb dL_law_672 rfl (lv_at hl 1 rfl) ?_
  refine lv_aload_n hx hb dL_law_673 rfl (lv_at hl 0 rfl) ?_
  refine lv_iload_n hx hb dL_law_674 rfl (lv_at hl 3 rfl) ?_
  refine lv_iconst (v := 1) hx hb dL_law_675 (by decide) ?_
  refine lv_iadd hx hb dL_law_676 ?_
  refine va_sld hx hb hX hbl hbA V.2.2.2.1 (law_in (j := 1) rfl (by omega) hL) dL_law_677 ?_
  refine lv_topi (fun a1 ea1 => ?_)
  refine lv_aload_n hx hb dL_law_678 rfl (lv_at hl 0 rfl) ?_
  refine lv_iload_n hx hb dL_law_679 rfl (lv_at hl 3 rfl) ?_
  refine lv_iconst (v := 2) hx hb dL_law_680 (by decide) ?_
  refine lv_iadd hx hb dL_law_681 ?_
  refine va_sld hx hb hX hbl hbA V.2.2.2.1 (law_in (j := 2) rfl (by omega) hL) dL_law_682 ?_
  refine lv_topi (fun a2 ea2 => ?_)
  have hq := hF a1 a2 i0 (by omega) t gs hs kt tu tq nT nH U hI
  refine cl_YNL (n := 2) (As := [.int a1, .int a2]) (rest := []) C V hb12 hbk (fun T a6 t u sh => j_X6_orders_Y T a6 t u sh a1 a2) (fun t => j_X6_orders_N t a1 a2) (fun xo xa ad ta us T f g nT nH rest t u sh hf x0 hj => k_X6_orders_Y l D tc xo xa ad ta us T f g nT nH rest t u sh a1 a2 hf hj) (fun xo xa ad f g nT nH rest t hf x0 hj => k_X6_orders_N l D tc xo xa ad f g nT nH rest t a1 a2 hf hj) (fun r t1 g1 h1 => ∃ U1, j_X7_orders U a1 a2 = some (r, U1) ∧ Inv (i0 + 6) t1 g1 h1 kt tu tq nT nH U1) (fun i hi hh => by obtain ⟨r, t1, u1, s1, U1, z1, z2, z3⟩ := hq.1 i hi hh (ha i 6) sh; exact ⟨r, t1, u1, s1, z1, U1, z2, z3⟩) (fun hh => by obtain ⟨r, t1, U1, z1, z2, z3⟩ := hq.2 hh; exact ⟨r, t1, z1, U1, z2, z3⟩) tw_448 tw_449 tw_450 tw_451 (by decide +kernel) ⟨(Nat.le_of_ble_eq_true rfl), (Nat.le_of_ble_eq_true rfl)⟩ ⟨(Nat.le_of_ble_eq_true rfl), (Nat.le_of_ble_eq_true rfl)⟩ ⟨hcl, hsl⟩ rfl hl.1 rfl (Nat.le_of_ble_eq_true rfl) dL_law_683 (fun r t gs hs sh hP H locs V => ?_)
  obtain ⟨U1, hjm, hI2⟩ := hP
  refine lv_aload_n hx hb dL_law_686 rfl (lv_at hl 2 rfl) ?_
  refine lv_aload_n hx hb dL_law_687 rfl (lv_at hl 0 rfl) ?_
  refine lv_iload_n hx hb dL_law_688 rfl (lv_at hl 3 rfl) ?_
  refine lv_iconst (v := 1) hx hb dL_law_689 (by decide) ?_
  refine lv_iadd hx hb dL_law_690 ?_
  refine va_sld hx hb hX hbl hbA V.2.2.2.1 (law_in (j := 1) rfl (by omega) hL) dL_law_691 ?_
  refine x_topi ea1 ?_
  refine lv_aload_n hx hb dL_law_692 rfl (lv_at hl 0 rfl) ?_
  refine lv_iload_n hx hb dL_law_693 rfl (lv_at hl 3 rfl) ?_
  refine lv_iconst (v := 2) hx hb dL_law_694 (by decide) ?_
  refine lv_iadd hx hb dL_law_695 ?_
  refine va_sld hx hb hX hbl hbA V.2.2.2.1 (law_in (j := 2) rfl (by omega) hL) dL_law_696 ?_
  refine x_topi ea2 ?_
  refine x_midL V (rf_run (n := 2) (As := [.int a1, .int a2]) (rest := [.long r]) C V (k_X7_orders l D tc mo mad U a1 a2 hjm) tw_736 tw_737 tw_738 tw_739 (by decide +kernel) ⟨(Nat.le_of_ble_eq_true rfl), (Nat.le_of_ble_eq_true rfl)⟩ ⟨hcl, hsl⟩ rfl hl.1 rfl (Nat.le_of_ble_eq_true rfl) dL_law_697) (fun H locs V => ?_)
  refine W.lcmp hx hb dL_law_700 ?_
  refine lv_if_eq (tgt := 950) hx hb dL_law_701 (by decide) (fun _ => ?_) (fun hne => absurd (lg_cmp_self _) hne)
  refine W.widen (k := 72 + 2 * i0) (n := 13084 + 14 * i0) (by omega) (by omega) ?_
  exact hn _ _ _ _ _ _ _ _ _ _ _ _ _ _ _ _ ls hI2 V hl

set_option maxHeartbeats 4000000 in
set_option maxRecDepth 100000 in
theorem law_least {p : Program} {l : Launch} {e : Env} {s : State} {m : MethodId} {below : List Frame} {meth : Method} {c : Code} {Q : State → Prop} {D : va_G} {tc : Nat → ClassId} {b L xo mo : Nat} {mad : Nat → Nat} {xs : Nat → Int32} {i0 : Nat} {Inv : IVT} {H : Heap} {locs : List Loc} {ls : Array Slot} {t : Nat → Int32} {gs : St} {hs : Nat → St} {kt : Nat → Option Nat} {tu : Nat → Int32} {tq : Nat → (Nat → Int32) × (Nat → Int32)} {nT nH : Nat} {U : St} {xa ad : Nat → Nat} {ta ha : Nat → Nat → Nat} {sh : Nat} (C : Cx p s m #[Value.ref b] meth c cL_law 4 RL ret) (hX : va_X b L xs s s.heap) (hbl : b < s.heap.size) (hL : L ≤ 3072) (hi0 : i0 + 6 ≤ L) (hn : LNext p l e s m below meth c Q D tc b xo mo mad Inv i0) (hB : FcB Inv) (hI : Inv i0 t gs hs kt tu tq nT nH U) (V : Wd D tc (fun q : Nat => s.heap.size ≤ q) s H locs (Xw tc xo xa ad ta ha sh t gs hs kt tu tq nT nH ++ (Mw tc mo mad U ++ []))) (hl : lv_has ls 4 [(0, .ref b), (1, .ref xo), (2, .ref mo), (3, .int (nI i0))]) (hF : Fc_least Inv) : W p l e room_1 s m #[Value.ref b] below meth c H locs (60 + 2 * i0) (13000 + 14 * i0) Q (F0 m 706 ls []) := by
  obtain ⟨hx, hb, hr, hml, hown, hts, hlk, hN⟩ := id C
  have hbA : ¬ (fun q : Nat => s.heap.size ≤ q) b := Nat.not_le.mpr hbl
  obtain ⟨hb4, hb12, hbk⟩ := hB _ _ _ _ _ _ _ _ _ _ hI
  have hcl : 60 + 2 * i0 ≤ room_1.cells := (show 60 + 2 * i0 ≤ 600000 by omega)
  have hsl : 13000 + 14 * i0 ≤ room_1.slots := (show 13000 + 14 * i0 ≤ 7302250 by omega)
  refine lv_aload_n hx hb dL_law_706 rfl (lv_at hl 1 rfl) ?_
  refine lv_aload_n hx hb dL_law_707 rfl (lv_at hl 0 rfl) ?_
  refine lv_iload_n hx hb dL_law_708 rfl (lv_at hl 3 rfl) ?_
  refine lv_iconst (v := 1) hx hb dL_law_709 (by decide) ?_
  refine lv_iadd hx hb dL_law_710 ?_
  refine va_sld hx hb hX hbl hbA V.2.2.2.1 (law_in (j := 1) rfl (by omega) hL) dL_law_711 ?_
  refine lv_topi (fun a1 ea1 => ?_)
  refine lv_aload_n hx hb dL_law_712 rfl (lv_at hl 0 rfl) ?_
  refine lv_iload_n hx hb dL_law_713 rfl (lv_at hl 3 rfl) ?_
  refine lv_iconst (v := 2) hx hb dL_law_714 (by decide) ?_
  refine lv_iadd hx hb dL_law_715 ?_
  refine va_sld hx hb hX hbl hbA V.2.2.2.1 (law_in (j := 2) rfl (by omega) hL) dL_law_716 ?_
  refine lv_topi (fun a2 ea2 => ?_)
  have hq := hF a1 a2 i0 (by omega) t gs hs kt tu tq nT nH U hI
  refine cl_YN (n := 2) (As := [.int a1, .int a2]) (rest := []) C V hb12 hbk (fun T a6 t u sh => j_X6_least_Y T a6 t u sh a1 a2) (fun t => j_X6_least_N t a1 a2) (fun xo xa ad ta us T f g nT nH rest t u sh hf x0 hj => k_X6_least_Y l D tc xo xa ad ta us T f g nT nH rest t u sh a1 a2 hf hj) (fun xo xa ad f g nT nH rest t hf x0 hj => k_X6_least_N l D tc xo xa ad f g nT nH rest t a1 a2 hf hj) (fun r t1 g1 h1 => ∃ U1, j_X7_least U a1 a2 = some (r, U1) ∧ Inv (i0 + 6) t1 g1 h1 kt tu tq nT nH U1) (fun i hi hh => by obtain ⟨r, t1, u1, s1, U1, z1, z2, z3⟩ := hq.1 i hi hh (ha i 6) sh; exact ⟨r, t1, u1, s1, z1, U1, z2, z3⟩) (fun hh => by obtain ⟨r, t1, U1, z1, z2, z3⟩ := hq.2 hh; exact ⟨r, t1, z1, U1, z2, z3⟩) tw_457 tw_458 tw_459 tw_460 (by decide +kernel) ⟨(Nat.le_of_ble_eq_true rfl), (Nat.le_of_ble_eq_true rfl)⟩ ⟨(Nat.le_of_ble_eq_true rfl), (Nat.le_of_ble_eq_true rfl)⟩ ⟨hcl, hsl⟩ rfl hl.1 rfl (Nat.le_of_ble_eq_true rfl) dL_law_717 (fun r t gs hs sh hP H locs V => ?_)
  obtain ⟨U1, hjm, hI2⟩ := hP
  refine lv_aload_n hx hb dL_law_720 rfl (lv_at hl 2 rfl) ?_
  refine lv_aload_n hx hb dL_law_721 rfl (lv_at hl 0 rfl) ?_
  refine lv_iload_n hx hb dL_law_722 rfl (lv_at hl 3 rfl) ?_
  refine lv_iconst (v := 1) hx hb dL_law_723 (by decide) ?_
  refine lv_iadd hx hb dL_law_724 ?_
  refine va_sld hx hb hX hbl hbA V.2.2.2.1 (law_in (j := 1) rfl (by omega) hL) dL_law_725 ?_
  refine x_topi ea1 ?_
  refine lv_aload_n hx hb dL_law_726 rfl (lv_at hl 0 rfl) ?_
  refine lv_iload_n hx hb dL_law_727 rfl (lv_at hl 3 rfl) ?_
  refine lv_iconst (v := 2) hx hb dL_law_728 (by decide) ?_
  refine lv_iadd hx hb dL_law_729 ?_
  refine va_sld hx hb hX hbl hbA V.2.2.2.1 (law_in (j := 2) rfl (by omega) hL) dL_law_730 ?_
  refine x_topi ea2 ?_
  refine x_midI V (rf_run (n := 2) (As := [.int a1, .int a2]) (rest := [.int r]) C V (k_X7_least l D tc mo mad U a1 a2 hjm) tw_741 tw_742 tw_743 tw_744 (by decide +kernel) ⟨(Nat.le_of_ble_eq_true rfl), (Nat.le_of_ble_eq_true rfl)⟩ ⟨hcl, hsl⟩ rfl hl.1 rfl (Nat.le_of_ble_eq_true rfl) dL_law_731) (fun H locs V _ => ?_)
  refine lv_icmp_eq (tgt := 950) hx hb dL_law_734 (by decide) (fun _ => ?_) (fun hne => absurd rfl hne)
  refine W.widen (k := 72 + 2 * i0) (n := 13084 + 14 * i0) (by omega) (by omega) ?_
  exact hn _ _ _ _ _ _ _ _ _ _ _ _ _ _ _ _ ls hI2 V hl

set_option maxHeartbeats 4000000 in
set_option maxRecDepth 100000 in
theorem law_part {p : Program} {l : Launch} {e : Env} {s : State} {m : MethodId} {below : List Frame} {meth : Method} {c : Code} {Q : State → Prop} {D : va_G} {tc : Nat → ClassId} {b L xo mo : Nat} {mad : Nat → Nat} {xs : Nat → Int32} {i0 : Nat} {Inv : IVT} {H : Heap} {locs : List Loc} {ls : Array Slot} {t : Nat → Int32} {gs : St} {hs : Nat → St} {kt : Nat → Option Nat} {tu : Nat → Int32} {tq : Nat → (Nat → Int32) × (Nat → Int32)} {nT nH : Nat} {U : St} {xa ad : Nat → Nat} {ta ha : Nat → Nat → Nat} {sh : Nat} (C : Cx p s m #[Value.ref b] meth c cL_law 4 RL ret) (hX : va_X b L xs s s.heap) (hbl : b < s.heap.size) (hL : L ≤ 3072) (hi0 : i0 + 6 ≤ L) (hn : LNext p l e s m below meth c Q D tc b xo mo mad Inv i0) (hB : FcB Inv) (hI : Inv i0 t gs hs kt tu tq nT nH U) (V : Wd D tc (fun q : Nat => s.heap.size ≤ q) s H locs (Xw tc xo xa ad ta ha sh t gs hs kt tu tq nT nH ++ (Mw tc mo mad U ++ []))) (hl : lv_has ls 4 [(0, .ref b), (1, .ref xo), (2, .ref mo), (3, .int (nI i0))]) (hF : Fc_part Inv) : W p l e room_1 s m #[Value.ref b] below meth c H locs (60 + 2 * i0) (13000 + 14 * i0) Q (F0 m 739 ls []) := by
  obtain ⟨hx, hb, hr, hml, hown, hts, hlk, hN⟩ := id C
  have hbA : ¬ (fun q : Nat => s.heap.size ≤ q) b := Nat.not_le.mpr hbl
  obtain ⟨hb4, hb12, hbk⟩ := hB _ _ _ _ _ _ _ _ _ _ hI
  have hcl : 60 + 2 * i0 ≤ room_1.cells := (show 60 + 2 * i0 ≤ 600000 by omega)
  have hsl : 13000 + 14 * i0 ≤ room_1.slots := (show 13000 + 14 * i0 ≤ 7302250 by omega)
  refine lv_aload_n hx hb dL_law_739 rfl (lv_at hl 1 rfl) ?_
  refine lv_aload_n hx hb dL_law_740 rfl (lv_at hl 0 rfl) ?_
  refine lv_iload_n hx hb dL_law_741 rfl (lv_at hl 3 rfl) ?_
  refine lv_iconst (v := 1) hx hb dL_law_742 (by decide) ?_
  refine lv_iadd hx hb dL_law_743 ?_
  refine va_sld hx hb hX hbl hbA V.2.2.2.1 (law_in (j := 1) rfl (by omega) hL) dL_law_744 ?_
  refine lv_topi (fun a1 ea1 => ?_)
  obtain ⟨r0, t0, u0, U0, hq1, hq2, hq3⟩ := hF a1 i0 (by omega) t gs hs kt tu tq nT nH U hI
  refine cl_S (n := 1) (As := [.int a1]) (rest := []) C V (fun t u => j_X6_part t u a1) (fun xo xa ad f g nT nH rest t u x0 hj => k_X6_part l D tc xo xa ad f g nT nH rest t u a1 hj) (fun r t1 g1 => ∃ U1, pr U (j_X7_part U a1) = some (r, U1) ∧ Inv (i0 + 6) t1 g1 hs kt tu tq nT nH U1) ⟨r0, t0, u0, hq1, U0, hq2, hq3⟩ tw_466 tw_467 tw_468 tw_469 (by decide +kernel) ⟨(Nat.le_of_ble_eq_true rfl), (Nat.le_of_ble_eq_true rfl)⟩ ⟨hcl, hsl⟩ rfl hl.1 rfl (Nat.le_of_ble_eq_true rfl) dL_law_745 (fun r t gs hP H locs V => ?_)
  obtain ⟨U1, hjm, hI2⟩ := hP
  obtain ⟨hjm, hUU⟩ := pr_some hjm
  rw [hUU] at hI2
  refine lv_aload_n hx hb dL_law_748 rfl (lv_at hl 2 rfl) ?_
  refine lv_aload_n hx hb dL_law_749 rfl (lv_at hl 0 rfl) ?_
  refine lv_iload_n hx hb dL_law_750 rfl (lv_at hl 3 rfl) ?_
  refine lv_iconst (v := 1) hx hb dL_law_751 (by decide) ?_
  refine lv_iadd hx hb dL_law_752 ?_
  refine va_sld hx hb hX hbl hbA V.2.2.2.1 (law_in (j := 1) rfl (by omega) hL) dL_law_753 ?_
  refine x_topi ea1 ?_
  refine x_midI V (rf_run (n := 1) (As := [.int a1]) (rest := [.int r]) C V (k_X7_part l D tc mo mad U a1 hjm) tw_745 tw_746 tw_747 tw_748 (by decide +kernel) ⟨(Nat.le_of_ble_eq_true rfl), (Nat.le_of_ble_eq_true rfl)⟩ ⟨hcl, hsl⟩ rfl hl.1 rfl (Nat.le_of_ble_eq_true rfl) dL_law_754) (fun H locs V _ => ?_)
  refine lv_icmp_eq (tgt := 950) hx hb dL_law_757 (by decide) (fun _ => ?_) (fun hne => absurd rfl hne)
  refine W.widen (k := 72 + 2 * i0) (n := 13084 + 14 * i0) (by omega) (by omega) ?_
  exact hn _ _ _ _ _ _ _ _ _ _ _ _ _ _ _ _ ls hI2 V hl

set_option maxHeartbeats 4000000 in
set_option maxRecDepth 100000 in
theorem law_fills {p : Program} {l : Launch} {e : Env} {s : State} {m : MethodId} {below : List Frame} {meth : Method} {c : Code} {Q : State → Prop} {D : va_G} {tc : Nat → ClassId} {b L xo mo : Nat} {mad : Nat → Nat} {xs : Nat → Int32} {i0 : Nat} {Inv : IVT} {H : Heap} {locs : List Loc} {ls : Array Slot} {t : Nat → Int32} {gs : St} {hs : Nat → St} {kt : Nat → Option Nat} {tu : Nat → Int32} {tq : Nat → (Nat → Int32) × (Nat → Int32)} {nT nH : Nat} {U : St} {xa ad : Nat → Nat} {ta ha : Nat → Nat → Nat} {sh : Nat} (C : Cx p s m #[Value.ref b] meth c cL_law 4 RL ret) (hX : va_X b L xs s s.heap) (hbl : b < s.heap.size) (hL : L ≤ 3072) (hi0 : i0 + 6 ≤ L) (hn : LNext p l e s m below meth c Q D tc b xo mo mad Inv i0) (hB : FcB Inv) (hI : Inv i0 t gs hs kt tu tq nT nH U) (V : Wd D tc (fun q : Nat => s.heap.size ≤ q) s H locs (Xw tc xo xa ad ta ha sh t gs hs kt tu tq nT nH ++ (Mw tc mo mad U ++ []))) (hl : lv_has ls 4 [(0, .ref b), (1, .ref xo), (2, .ref mo), (3, .int (nI i0))]) (hF : Fc_fills Inv) : W p l e room_1 s m #[Value.ref b] below meth c H locs (60 + 2 * i0) (13000 + 14 * i0) Q (F0 m 762 ls []) := by
  obtain ⟨hx, hb, hr, hml, hown, hts, hlk, hN⟩ := id C
  have hbA : ¬ (fun q : Nat => s.heap.size ≤ q) b := Nat.not_le.mpr hbl
  obtain ⟨hb4, hb12, hbk⟩ := hB _ _ _ _ _ _ _ _ _ _ hI
  have hcl : 60 + 2 * i0 ≤ room_1.cells := (show 60 + 2 * i0 ≤ 600000 by omega)
  have hsl : 13000 + 14 * i0 ≤ room_1.slots := (show 13000 + 14 * i0 ≤ 7302250 by omega)
  refine lv_aload_n hx hb dL_law_762 rfl (lv_at hl 1 rfl) ?_
  refine lv_aload_n hx hb dL_law_763 rfl (lv_at hl 0 rfl) ?_
  refine lv_iload_n hx hb dL_law_764 rfl (lv_at hl 3 rfl) ?_
  refine lv_iconst (v := 1) hx hb dL_law_765 (by decide) ?_
  refine lv_iadd hx hb dL_law_766 ?_
  refine va_sld hx hb hX hbl hbA V.2.2.2.1 (law_in (j := 1) rfl (by omega) hL) dL_law_767 ?_
  refine lv_topi (fun a1 ea1 => ?_)
  refine lv_aload_n hx hb dL_law_768 rfl (lv_at hl 0 rfl) ?_
  refine lv_iload_n hx hb dL_law_769 rfl (lv_at hl 3 rfl) ?_
  refine lv_iconst (v := 2) hx hb dL_law_770 (by decide) ?_
  refine lv_iadd hx hb dL_law_771 ?_
  refine va_sld hx hb hX hbl hbA V.2.2.2.1 (law_in (j := 2) rfl (by omega) hL) dL_law_772 ?_
  refine lv_topi (fun a2 ea2 => ?_)
  refine lv_aload_n hx hb dL_law_773 rfl (lv_at hl 0 rfl) ?_
  refine lv_iload_n hx hb dL_law_774 rfl (lv_at hl 3 rfl) ?_
  refine lv_iconst (v := 3) hx hb dL_law_775 (by decide) ?_
  refine lv_iadd hx hb dL_law_776 ?_
  refine va_sld hx hb hX hbl hbA V.2.2.2.1 (law_in (j := 3) rfl (by omega) hL) dL_law_777 ?_
  refine lv_topi (fun a3 ea3 => ?_)
  have hq := hF a1 a2 a3 i0 (by omega) t gs hs kt tu tq nT nH U hI
  refine cl_YN (n := 3) (As := [.int a1, .int a2, .int a3]) (rest := []) C V hb12 hbk (fun T a6 t u sh => j_X6_fills_Y T a6 t u sh a1 a2 a3) (fun t => j_X6_fills_N t a1 a2 a3) (fun xo xa ad ta us T f g nT nH rest t u sh hf x0 hj => k_X6_fills_Y l D tc xo xa ad ta us T f g nT nH rest t u sh a1 a2 a3 hf hj) (fun xo xa ad f g nT nH rest t hf x0 hj => k_X6_fills_N l D tc xo xa ad f g nT nH rest t a1 a2 a3 hf hj) (fun r t1 g1 h1 => ∃ U1, j_X7_fills U a1 a2 a3 = some (r, U1) ∧ Inv (i0 + 6) t1 g1 h1 kt tu tq nT nH U1) (fun i hi hh => by obtain ⟨r, t1, u1, s1, U1, z1, z2, z3⟩ := hq.1 i hi hh (ha i 6) sh; exact ⟨r, t1, u1, s1, z1, U1, z2, z3⟩) (fun hh => by obtain ⟨r, t1, U1, z1, z2, z3⟩ := hq.2 hh; exact ⟨r, t1, z1, U1, z2, z3⟩) tw_471 tw_472 tw_473 tw_474 (by decide +kernel) ⟨(Nat.le_of_ble_eq_true rfl), (Nat.le_of_ble_eq_true rfl)⟩ ⟨(Nat.le_of_ble_eq_true rfl), (Nat.le_of_ble_eq_true rfl)⟩ ⟨hcl, hsl⟩ rfl hl.1 rfl (Nat.le_of_ble_eq_true rfl) dL_law_778 (fun r t gs hs sh hP H locs V => ?_)
  obtain ⟨U1, hjm, hI2⟩ := hP
  refine lv_aload_n hx hb dL_law_781 rfl (lv_at hl 2 rfl) ?_
  refine lv_aload_n hx hb dL_law_782 rfl (lv_at hl 0 rfl) ?_
  refine lv_iload_n hx hb dL_law_783 rfl (lv_at hl 3 rfl) ?_
  refine lv_iconst (v := 1) hx hb dL_law_784 (by decide) ?_
  refine lv_iadd hx hb dL_law_785 ?_
  refine va_sld hx hb hX hbl hbA V.2.2.2.1 (law_in (j := 1) rfl (by omega) hL) dL_law_786 ?_
  refine x_topi ea1 ?_
  refine lv_aload_n hx hb dL_law_787 rfl (lv_at hl 0 rfl) ?_
  refine lv_iload_n hx hb dL_law_788 rfl (lv_at hl 3 rfl) ?_
  refine lv_iconst (v := 2) hx hb dL_law_789 (by decide) ?_
  refine lv_iadd hx hb dL_law_790 ?_
  refine va_sld hx hb hX hbl hbA V.2.2.2.1 (law_in (j := 2) rfl (by omega) hL) dL_law_791 ?_
  refine x_topi ea2 ?_
  refine lv_aload_n hx hb dL_law_792 rfl (lv_at hl 0 rfl) ?_
  refine lv_iload_n hx hb dL_law_793 rfl (lv_at hl 3 rfl) ?_
  refine lv_iconst (v := 3) hx hb dL_law_794 (by decide) ?_
  refine lv_iadd hx hb dL_law_795 ?_
  refine va_sld hx hb hX hbl hbA V.2.2.2.1 (law_in (j := 3) rfl (by omega) hL) dL_law_796 ?_
  refine x_topi ea3 ?_
  refine x_midI V (rf_run (n := 3) (As := [.int a1, .int a2, .int a3]) (rest := [.int r]) C V (k_X7_fills l D tc mo mad U a1 a2 a3 hjm) tw_749 tw_750 tw_751 tw_752 (by decide +kernel) ⟨(Nat.le_of_ble_eq_true rfl), (Nat.le_of_ble_eq_true rfl)⟩ ⟨hcl, hsl⟩ rfl hl.1 rfl (Nat.le_of_ble_eq_true rfl) dL_law_797) (fun H locs V _ => ?_)
  refine lv_icmp_eq (tgt := 950) hx hb dL_law_800 (by decide) (fun _ => ?_) (fun hne => absurd rfl hne)
  refine W.widen (k := 72 + 2 * i0) (n := 13084 + 14 * i0) (by omega) (by omega) ?_
  exact hn _ _ _ _ _ _ _ _ _ _ _ _ _ _ _ _ ls hI2 V hl

set_option maxHeartbeats 4000000 in
set_option maxRecDepth 100000 in
theorem law_fill {p : Program} {l : Launch} {e : Env} {s : State} {m : MethodId} {below : List Frame} {meth : Method} {c : Code} {Q : State → Prop} {D : va_G} {tc : Nat → ClassId} {b L xo mo : Nat} {mad : Nat → Nat} {xs : Nat → Int32} {i0 : Nat} {Inv : IVT} {H : Heap} {locs : List Loc} {ls : Array Slot} {t : Nat → Int32} {gs : St} {hs : Nat → St} {kt : Nat → Option Nat} {tu : Nat → Int32} {tq : Nat → (Nat → Int32) × (Nat → Int32)} {nT nH : Nat} {U : St} {xa ad : Nat → Nat} {ta ha : Nat → Nat → Nat} {sh : Nat} (C : Cx p s m #[Value.ref b] meth c cL_law 4 RL ret) (hX : va_X b L xs s s.heap) (hbl : b < s.heap.size) (hL : L ≤ 3072) (hi0 : i0 + 6 ≤ L) (hn : LNext p l e s m below meth c Q D tc b xo mo mad Inv i0) (hB : FcB Inv) (hI : Inv i0 t gs hs kt tu tq nT nH U) (V : Wd D tc (fun q : Nat => s.heap.size ≤ q) s H locs (Xw tc xo xa ad ta ha sh t gs hs kt tu tq nT nH ++ (Mw tc mo mad U ++ []))) (hl : lv_has ls 4 [(0, .ref b), (1, .ref xo), (2, .ref mo), (3, .int (nI i0))]) (hF : Fc_fill Inv) : W p l e room_1 s m #[Value.ref b] below meth c H locs (60 + 2 * i0) (13000 + 14 * i0) Q (F0 m 805 ls []) := by
  obtain ⟨hx, hb, hr, hml, hown, hts, hlk, hN⟩ := id C
  have hbA : ¬ (fun q : Nat => s.heap.size ≤ q) b := Nat.not_le.mpr hbl
  obtain ⟨hb4, hb12, hbk⟩ := hB _ _ _ _ _ _ _ _ _ _ hI
  have hcl : 60 + 2 * i0 ≤ room_1.cells := (show 60 + 2 * i0 ≤ 600000 by omega)
  have hsl : 13000 + 14 * i0 ≤ room_1.slots := (show 13000 + 14 * i0 ≤ 7302250 by omega)
  refine lv_aload_n hx hb dL_law_805 rfl (lv_at hl 1 rfl) ?_
  refine lv_aload_n hx hb dL_law_806 rfl (lv_at hl 0 rfl) ?_
  refine lv_iload_n hx hb dL_law_807 rfl (lv_at hl 3 rfl) ?_
  refine lv_iconst (v := 1) hx hb dL_law_808 (by decide) ?_
  refine lv_iadd hx hb dL_law_809 ?_
  refine va_sld hx hb hX hbl hbA V.2.2.2.1 (law_in (j := 1) rfl (by omega) hL) dL_law_810 ?_
  refine lv_topi (fun a1 ea1 => ?_)
  obtain ⟨r0, t0, u0, U0, hq1, hq2, hq3⟩ := hF a1 i0 (by omega) t gs hs kt tu tq nT nH U hI
  refine cl_S (n := 1) (As := [.int a1]) (rest := []) C V (fun t u => j_X6_fill t u a1) (fun xo xa ad f g nT nH rest t u x0 hj => k_X6_fill l D tc xo xa ad f g nT nH rest t u a1 hj) (fun r t1 g1 => ∃ U1, j_X7_fill_ U a1 = some (r, U1) ∧ Inv (i0 + 6) t1 g1 hs kt tu tq nT nH U1) ⟨r0, t0, u0, hq1, U0, hq2, hq3⟩ tw_487 tw_488 tw_489 tw_490 (by decide +kernel) ⟨(Nat.le_of_ble_eq_true rfl), (Nat.le_of_ble_eq_true rfl)⟩ ⟨hcl, hsl⟩ rfl hl.1 rfl (Nat.le_of_ble_eq_true rfl) dL_law_811 (fun r t gs hP H locs V => ?_)
  obtain ⟨U1, hjm, hI2⟩ := hP
  refine lv_aload_n hx hb dL_law_814 rfl (lv_at hl 2 rfl) ?_
  refine lv_aload_n hx hb dL_law_815 rfl (lv_at hl 0 rfl) ?_
  refine lv_iload_n hx hb dL_law_816 rfl (lv_at hl 3 rfl) ?_
  refine lv_iconst (v := 1) hx hb dL_law_817 (by decide) ?_
  refine lv_iadd hx hb dL_law_818 ?_
  refine va_sld hx hb hX hbl hbA V.2.2.2.1 (law_in (j := 1) rfl (by omega) hL) dL_law_819 ?_
  refine x_topi ea1 ?_
  refine x_midI V (rf_run (n := 1) (As := [.int a1]) (rest := [.int r]) C V (k_X7_fill_ l D tc mo mad U a1 hjm) tw_753 tw_754 tw_755 tw_756 (by decide +kernel) ⟨(Nat.le_of_ble_eq_true rfl), (Nat.le_of_ble_eq_true rfl)⟩ ⟨hcl, hsl⟩ rfl hl.1 rfl (Nat.le_of_ble_eq_true rfl) dL_law_820) (fun H locs V _ => ?_)
  refine lv_icmp_eq (tgt := 950) hx hb dL_law_823 (by decide) (fun _ => ?_) (fun hne => absurd rfl hne)
  refine W.widen (k := 72 + 2 * i0) (n := 13084 + 14 * i0) (by omega) (by omega) ?_
  exact hn _ _ _ _ _ _ _ _ _ _ _ _ _ _ _ _ ls hI2 V hl

set_option maxHeartbeats 4000000 in
set_option maxRecDepth 100000 in
theorem law_apart {p : Program} {l : Launch} {e : Env} {s : State} {m : MethodId} {below : List Frame} {meth : Method} {c : Code} {Q : State → Prop} {D : va_G} {tc : Nat → ClassId} {b L xo mo : Nat} {mad : Nat → Nat} {xs : Nat → Int32} {i0 : Nat} {Inv : IVT} {H : Heap} {locs : List Loc} {ls : Array Slot} {t : Nat → Int32} {gs : St} {hs : Nat → St} {kt : Nat → Option Nat} {tu : Nat → Int32} {tq : Nat → (Nat → Int32) × (Nat → Int32)} {nT nH : Nat} {U : St} {xa ad : Nat → Nat} {ta ha : Nat → Nat → Nat} {sh : Nat} (C : Cx p s m #[Value.ref b] meth c cL_law 4 RL ret) (hX : va_X b L xs s s.heap) (hbl : b < s.heap.size) (hL : L ≤ 3072) (hi0 : i0 + 6 ≤ L) (hn : LNext p l e s m below meth c Q D tc b xo mo mad Inv i0) (hB : FcB Inv) (hI : Inv i0 t gs hs kt tu tq nT nH U) (V : Wd D tc (fun q : Nat => s.heap.size ≤ q) s H locs (Xw tc xo xa ad ta ha sh t gs hs kt tu tq nT nH ++ (Mw tc mo mad U ++ []))) (hl : lv_has ls 4 [(0, .ref b), (1, .ref xo), (2, .ref mo), (3, .int (nI i0))]) (hF : Fc_apart Inv) : W p l e room_1 s m #[Value.ref b] below meth c H locs (60 + 2 * i0) (13000 + 14 * i0) Q (F0 m 828 ls []) := by
  obtain ⟨hx, hb, hr, hml, hown, hts, hlk, hN⟩ := id C
  have hbA : ¬ (fun q : Nat => s.heap.size ≤ q) b := Nat.not_le.mpr hbl
  obtain ⟨hb4, hb12, hbk⟩ := hB _ _ _ _ _ _ _ _ _ _ hI
  have hcl : 60 + 2 * i0 ≤ room_1.cells := (show 60 + 2 * i0 ≤ 600000 by omega)
  have hsl : 13000 + 14 * i0 ≤ room_1.slots := (show 13000 + 14 * i0 ≤ 7302250 by omega)
  refine lv_aload_n hx hb dL_law_828 rfl (lv_at hl 1 rfl) ?_
  refine lv_aload_n hx hb dL_law_829 rfl (lv_at hl 0 rfl) ?_
  refine lv_iload_n hx hb dL_law_830 rfl (lv_at hl 3 rfl) ?_
  refine lv_iconst (v := 1) hx hb dL_law_831 (by decide) ?_
  refine lv_iadd hx hb dL_law_832 ?_
  refine va_sld hx hb hX hbl hbA V.2.2.2.1 (law_in (j := 1) rfl (by omega) hL) dL_law_833 ?_
  refine lv_topi (fun a1 ea1 => ?_)
  refine lv_aload_n hx hb dL_law_834 rfl (lv_at hl 0 rfl) ?_
  refine lv_iload_n hx hb dL_law_835 rfl (lv_at hl 3 rfl) ?_
  refine lv_iconst (v := 2) hx hb dL_law_836 (by decide) ?_
  refine lv_iadd hx hb dL_law_837 ?_
  refine va_sld hx hb hX hbl hbA V.2.2.2.1 (law_in (j := 2) rfl (by omega) hL) dL_law_838 ?_
  refine lv_topi (fun a2 ea2 => ?_)
  refine lv_aload_n hx hb dL_law_839 rfl (lv_at hl 0 rfl) ?_
  refine lv_iload_n hx hb dL_law_840 rfl (lv_at hl 3 rfl) ?_
  refine lv_iconst (v := 3) hx hb dL_law_841 (by decide) ?_
  refine lv_iadd hx hb dL_law_842 ?_
  refine va_sld hx hb hX hbl hbA V.2.2.2.1 (law_in (j := 3) rfl (by omega) hL) dL_law_843 ?_
  refine lv_topi (fun a3 ea3 => ?_)
  have hq := hF a1 a2 a3 i0 (by omega) t gs hs kt tu tq nT nH U hI
  refine cl_YN (n := 3) (As := [.int a1, .int a2, .int a3]) (rest := []) C V hb12 hbk (fun T a6 t u sh => j_X6_apart_Y T a6 t u sh a1 a2 a3) (fun t => j_X6_apart_N t a1 a2 a3) (fun xo xa ad ta us T f g nT nH rest t u sh hf x0 hj => k_X6_apart_Y l D tc xo xa ad ta us T f g nT nH rest t u sh a1 a2 a3 hf hj) (fun xo xa ad f g nT nH rest t hf x0 hj => k_X6_apart_N l D tc xo xa ad f g nT nH rest t a1 a2 a3 hf hj) (fun r t1 g1 h1 => ∃ U1, j_X7_apart U a1 a2 a3 = some (r, U1) ∧ Inv (i0 + 6) t1 g1 h1 kt tu tq nT nH U1) (fun i hi hh => by obtain ⟨r, t1, u1, s1, U1, z1, z2, z3⟩ := hq.1 i hi hh (ha i 6) sh; exact ⟨r, t1, u1, s1, z1, U1, z2, z3⟩) (fun hh => by obtain ⟨r, t1, U1, z1, z2, z3⟩ := hq.2 hh; exact ⟨r, t1, z1, U1, z2, z3⟩) tw_491 tw_492 tw_493 tw_494 (by decide +kernel) ⟨(Nat.le_of_ble_eq_true rfl), (Nat.le_of_ble_eq_true rfl)⟩ ⟨(Nat.le_of_ble_eq_true rfl), (Nat.le_of_ble_eq_true rfl)⟩ ⟨hcl, hsl⟩ rfl hl.1 rfl (Nat.le_of_ble_eq_true rfl) dL_law_844 (fun r t gs hs sh hP H locs V => ?_)
  obtain ⟨U1, hjm, hI2⟩ := hP
  refine lv_aload_n hx hb dL_law_847 rfl (lv_at hl 2 rfl) ?_
  refine lv_aload_n hx hb dL_law_848 rfl (lv_at hl 0 rfl) ?_
  refine lv_iload_n hx hb dL_law_849 rfl (lv_at hl 3 rfl) ?_
  refine lv_iconst (v := 1) hx hb dL_law_850 (by decide) ?_
  refine lv_iadd hx hb dL_law_851 ?_
  refine va_sld hx hb hX hbl hbA V.2.2.2.1 (law_in (j := 1) rfl (by omega) hL) dL_law_852 ?_
  refine x_topi ea1 ?_
  refine lv_aload_n hx hb dL_law_853 rfl (lv_at hl 0 rfl) ?_
  refine lv_iload_n hx hb dL_law_854 rfl (lv_at hl 3 rfl) ?_
  refine lv_iconst (v := 2) hx hb dL_law_855 (by decide) ?_
  refine lv_iadd hx hb dL_law_856 ?_
  refine va_sld hx hb hX hbl hbA V.2.2.2.1 (law_in (j := 2) rfl (by omega) hL) dL_law_857 ?_
  refine x_topi ea2 ?_
  refine lv_aload_n hx hb dL_law_858 rfl (lv_at hl 0 rfl) ?_
  refine lv_iload_n hx hb dL_law_859 rfl (lv_at hl 3 rfl) ?_
  refine lv_iconst (v := 3) hx hb dL_law_860 (by decide) ?_
  refine lv_iadd hx hb dL_law_861 ?_
  refine va_sld hx hb hX hbl hbA V.2.2.2.1 (law_in (j := 3) rfl (by omega) hL) dL_law_862 ?_
  refine x_topi ea3 ?_
  refine x_midI V (rf_run (n := 3) (As := [.int a1, .int a2, .int a3]) (rest := [.int r]) C V (k_X7_apart l D tc mo mad U a1 a2 a3 hjm) tw_757 tw_758 tw_759 tw_760 (by decide +kernel) ⟨(Nat.le_of_ble_eq_true rfl), (Nat.le_of_ble_eq_true rfl)⟩ ⟨hcl, hsl⟩ rfl hl.1 rfl (Nat.le_of_ble_eq_true rfl) dL_law_863) (fun H locs V _ => ?_)
  refine lv_icmp_eq (tgt := 950) hx hb dL_law_866 (by decide) (fun _ => ?_) (fun hne => absurd rfl hne)
  refine W.widen (k := 72 + 2 * i0) (n := 13084 + 14 * i0) (by omega) (by omega) ?_
  exact hn _ _ _ _ _ _ _ _ _ _ _ _ _ _ _ _ ls hI2 V hl

set_option maxHeartbeats 4000000 in
set_option maxRecDepth 100000 in
theorem law_rules {p : Program} {l : Launch} {e : Env} {s : State} {m : MethodId} {below : List Frame} {meth : Method} {c : Code} {Q : State → Prop} {D : va_G} {tc : Nat → ClassId} {b L xo mo : Nat} {mad : Nat → Nat} {xs : Nat → Int32} {i0 : Nat} {Inv : IVT} {H : Heap} {locs : List Loc} {ls : Array Slot} {t : Nat → Int32} {gs : St} {hs : Nat → St} {kt : Nat → Option Nat} {tu : Nat → Int32} {tq : Nat → (Nat → Int32) × (Nat → Int32)} {nT nH : Nat} {U : St} {xa ad : Nat → Nat} {ta ha : Nat → Nat → Nat} {sh : Nat} (C : Cx p s m #[Value.ref b] meth c cL_law 4 RL ret) (hX : va_X b L xs s s.heap) (hbl : b < s.heap.size) (hL : L ≤ 3072) (hi0 : i0 + 6 ≤ L) (hn : LNext p l e s m below meth c Q D tc b xo mo mad Inv i0) (hB : FcB Inv) (hI : Inv i0 t gs hs kt tu tq nT nH U) (V : Wd D tc (fun q : Nat => s.heap.size ≤ q) s H locs (Xw tc xo xa ad ta ha sh t gs hs kt tu tq nT nH ++ (Mw tc mo mad U ++ []))) (hl : lv_has ls 4 [(0, .ref b), (1, .ref xo), (2, .ref mo), (3, .int (nI i0))]) (hF : Fc_rules Inv) : W p l e room_1 s m #[Value.ref b] below meth c H locs (60 + 2 * i0) (13000 + 14 * i0) Q (F0 m 871 ls []) := by
  obtain ⟨hx, hb, hr, hml, hown, hts, hlk, hN⟩ := id C
  have hbA : ¬ (fun q : Nat => s.heap.size ≤ q) b := Nat.not_le.mpr hbl
  obtain ⟨hb4, hb12, hbk⟩ := hB _ _ _ _ _ _ _ _ _ _ hI
  have hcl : 60 + 2 * i0 ≤ room_1.cells := (show 60 + 2 * i0 ≤ 600000 by omega)
  have hsl : 13000 + 14 * i0 ≤ room_1.slots := (show 13000 + 14 * i0 ≤ 7302250 by omega)
  refine lv_aload_n hx hb dL_law_871 rfl (lv_at hl 1 rfl) ?_
  refine lv_aload_n hx hb dL_law_872 rfl (lv_at hl 0 rfl) ?_
  refine lv_iload_n hx hb dL_law_873 rfl (lv_at hl 3 rfl) ?_
  refine lv_iconst (v := 1) hx hb dL_law_874 (by decide) ?_
  refine lv_iadd hx hb dL_law_875 ?_
  refine va_sld hx hb hX hbl hbA V.2.2.2.1 (law_in (j := 1) rfl (by omega) hL) dL_law_876 ?_
  refine lv_topi (fun a1 ea1 => ?_)
  have hq := hF a1 i0 (by omega) t gs hs kt tu tq nT nH U hI
  refine cl_YN (n := 1) (As := [.int a1]) (rest := []) C V hb12 hbk (fun T a6 t u sh => j_X6_rules_Y T a6 t u sh a1) (fun t => j_X6_rules_N t a1) (fun xo xa ad ta us T f g nT nH rest t u sh hf x0 hj => k_X6_rules_Y l D tc xo xa ad ta us T f g nT nH rest t u sh a1 hf hj) (fun xo xa ad f g nT nH rest t hf x0 hj => k_X6_rules_N l D tc xo xa ad f g nT nH rest t a1 hf hj) (fun r t1 g1 h1 => ∃ U1, j_X7_rules U a1 = some (r, U1) ∧ Inv (i0 + 6) t1 g1 h1 kt tu tq nT nH U1) (fun i hi hh => by obtain ⟨r, t1, u1, s1, U1, z1, z2, z3⟩ := hq.1 i hi hh (ha i 6) sh; exact ⟨r, t1, u1, s1, z1, U1, z2, z3⟩) (fun hh => by obtain ⟨r, t1, U1, z1, z2, z3⟩ := hq.2 hh; exact ⟨r, t1, z1, U1, z2, z3⟩) tw_499 tw_500 tw_501 tw_502 (by decide +kernel) ⟨(Nat.le_of_ble_eq_true rfl), (Nat.le_of_ble_eq_true rfl)⟩ ⟨(Nat.le_of_ble_eq_true rfl), (Nat.le_of_ble_eq_true rfl)⟩ ⟨hcl, hsl⟩ rfl hl.1 rfl (Nat.le_of_ble_eq_true rfl) dL_law_877 (fun r t gs hs sh hP H locs V => ?_)
  obtain ⟨U1, hjm, hI2⟩ := hP
  refine lv_aload_n hx hb dL_law_880 rfl (lv_at hl 2 rfl) ?_
  refine lv_aload_n hx hb dL_law_881 rfl (lv_at hl 0 rfl) ?_
  refine lv_iload_n hx hb dL_law_882 rfl (lv_at hl 3 rfl) ?_
  refine lv_iconst (v := 1) hx hb dL_law_883 (by decide) ?_
  refine lv_iadd hx hb dL_law_884 ?_
  refine va_sld hx hb hX hbl hbA V.2.2.2.1 (law_in (j := 1) rfl (by omega) hL) dL_law_885 ?_
  refine x_topi ea1 ?_
  refine x_midI V (rf_run (n := 1) (As := [.int a1]) (rest := [.int r]) C V (k_X7_rules l D tc mo mad U a1 hjm) tw_761 tw_762 tw_763 tw_764 (by decide +kernel) ⟨(Nat.le_of_ble_eq_true rfl), (Nat.le_of_ble_eq_true rfl)⟩ ⟨hcl, hsl⟩ rfl hl.1 rfl (Nat.le_of_ble_eq_true rfl) dL_law_886) (fun H locs V _ => ?_)
  refine lv_icmp_eq (tgt := 950) hx hb dL_law_889 (by decide) (fun _ => ?_) (fun hne => absurd rfl hne)
  refine W.widen (k := 72 + 2 * i0) (n := 13084 + 14 * i0) (by omega) (by omega) ?_
  exact hn _ _ _ _ _ _ _ _ _ _ _ _ _ _ _ _ ls hI2 V hl

set_option maxHeartbeats 4000000 in
set_option maxRecDepth 100000 in
theorem law_say {p : Program} {l : Launch} {e : Env} {s : State} {m : MethodId} {below : List Frame} {meth : Method} {c : Code} {Q : State → Prop} {D : va_G} {tc : Nat → ClassId} {b L xo mo : Nat} {mad : Nat → Nat} {xs : Nat → Int32} {i0 : Nat} {Inv : IVT} {H : Heap} {locs : List Loc} {ls : Array Slot} {t : Nat → Int32} {gs : St} {hs : Nat → St} {kt : Nat → Option Nat} {tu : Nat → Int32} {tq : Nat → (Nat → Int32) × (Nat → Int32)} {nT nH : Nat} {U : St} {xa ad : Nat → Nat} {ta ha : Nat → Nat → Nat} {sh : Nat} (C : Cx p s m #[Value.ref b] meth c cL_law 4 RL ret) (hX : va_X b L xs s s.heap) (hbl : b < s.heap.size) (hL : L ≤ 3072) (hi0 : i0 + 6 ≤ L) (hn : LNext p l e s m below meth c Q D tc b xo mo mad Inv i0) (hB : FcB Inv) (hI : Inv i0 t gs hs kt tu tq nT nH U) (V : Wd D tc (fun q : Nat => s.heap.size ≤ q) s H locs (Xw tc xo xa ad ta ha sh t gs hs kt tu tq nT nH ++ (Mw tc mo mad U ++ []))) (hl : lv_has ls 4 [(0, .ref b), (1, .ref xo), (2, .ref mo), (3, .int (nI i0))]) (hF : Fc_say Inv) : W p l e room_1 s m #[Value.ref b] below meth c H locs (60 + 2 * i0) (13000 + 14 * i0) Q (F0 m 894 ls []) := by
  obtain ⟨hx, hb, hr, hml, hown, hts, hlk, hN⟩ := id C
  have hbA : ¬ (fun q : Nat => s.heap.size ≤ q) b := Nat.not_le.mpr hbl
  obtain ⟨hb4, hb12, hbk⟩ := hB _ _ _ _ _ _ _ _ _ _ hI
  have hcl : 60 + 2 * i0 ≤ room_1.cells := (show 60 + 2 * i0 ≤ 600000 by omega)
  have hsl : 13000 + 14 * i0 ≤ room_1.slots := (show 13000 + 14 * i0 ≤ 7302250 by omega)
  refine lv_aload_n hx hb dL_law_894 rfl (lv_at hl 1 rfl) ?_
  refine lv_aload_n hx hb dL_law_895 rfl (lv_at hl 0 rfl) ?_
  refine lv_iload_n hx hb dL_law_896 rfl (lv_at hl 3 rfl) ?_
  refine lv_iconst (v := 1) hx hb dL_law_897 (by decide) ?_
  refine lv_iadd hx hb dL_law_898 ?_
  refine va_sld hx hb hX hbl hbA V.2.2.2.1 (law_in (j := 1) rfl (by omega) hL) dL_law_899 ?_
  refine lv_topi (fun a1 ea1 => ?_)
  obtain ⟨r0, t0, u0, U0, hq1, hq2, hq3⟩ := hF a1 i0 (by omega) t gs hs kt tu tq nT nH U hI
  refine cl_S (n := 1) (As := [.int a1]) (rest := []) C V (fun t u => j_X6_say t u a1) (fun xo xa ad f g nT nH rest t u x0 hj => k_X6_say l D tc xo xa ad f g nT nH rest t u a1 hj) (fun r t1 g1 => ∃ U1, j_X7_say U a1 = some (r, U1) ∧ Inv (i0 + 6) t1 g1 hs kt tu tq nT nH U1) ⟨r0, t0, u0, hq1, U0, hq2, hq3⟩ tw_503 tw_504 tw_505 tw_506 (by decide +kernel) ⟨(Nat.le_of_ble_eq_true rfl), (Nat.le_of_ble_eq_true rfl)⟩ ⟨hcl, hsl⟩ rfl hl.1 rfl (Nat.le_of_ble_eq_true rfl) dL_law_900 (fun r t gs hP H locs V => ?_)
  obtain ⟨U1, hjm, hI2⟩ := hP
  refine lv_aload_n hx hb dL_law_903 rfl (lv_at hl 2 rfl) ?_
  refine lv_aload_n hx hb dL_law_904 rfl (lv_at hl 0 rfl) ?_
  refine lv_iload_n hx hb dL_law_905 rfl (lv_at hl 3 rfl) ?_
  refine lv_iconst (v := 1) hx hb dL_law_906 (by decide) ?_
  refine lv_iadd hx hb dL_law_907 ?_
  refine va_sld hx hb hX hbl hbA V.2.2.2.1 (law_in (j := 1) rfl (by omega) hL) dL_law_908 ?_
  refine x_topi ea1 ?_
  refine x_midI V (rf_run (n := 1) (As := [.int a1]) (rest := [.int r]) C V (k_X7_say l D tc mo mad U a1 hjm) tw_765 tw_766 tw_767 tw_768 (by decide +kernel) ⟨(Nat.le_of_ble_eq_true rfl), (Nat.le_of_ble_eq_true rfl)⟩ ⟨hcl, hsl⟩ rfl hl.1 rfl (Nat.le_of_ble_eq_true rfl) dL_law_909) (fun H locs V _ => ?_)
  refine lv_icmp_eq (tgt := 950) hx hb dL_law_912 (by decide) (fun _ => ?_) (fun hne => absurd rfl hne)
  refine W.widen (k := 72 + 2 * i0) (n := 13084 + 14 * i0) (by omega) (by omega) ?_
  exact hn _ _ _ _ _ _ _ _ _ _ _ _ _ _ _ _ ls hI2 V hl

set_option maxHeartbeats 4000000 in
set_option maxRecDepth 100000 in
theorem law_check {p : Program} {l : Launch} {e : Env} {s : State} {m : MethodId} {below : List Frame} {meth : Method} {c : Code} {Q : State → Prop} {D : va_G} {tc : Nat → ClassId} {b L xo mo : Nat} {mad : Nat → Nat} {xs : Nat → Int32} {i0 : Nat} {Inv : IVT} {H : Heap} {locs : List Loc} {ls : Array Slot} {t : Nat → Int32} {gs : St} {hs : Nat → St} {kt : Nat → Option Nat} {tu : Nat → Int32} {tq : Nat → (Nat → Int32) × (Nat → Int32)} {nT nH : Nat} {U : St} {xa ad : Nat → Nat} {ta ha : Nat → Nat → Nat} {sh : Nat} (C : Cx p s m #[Value.ref b] meth c cL_law 4 RL ret) (hX : va_X b L xs s s.heap) (hbl : b < s.heap.size) (hL : L ≤ 3072) (hi0 : i0 + 6 ≤ L) (hn : LNext p l e s m below meth c Q D tc b xo mo mad Inv i0) (hB : FcB Inv) (hI : Inv i0 t gs hs kt tu tq nT nH U) (V : Wd D tc (fun q : Nat => s.heap.size ≤ q) s H locs (Xw tc xo xa ad ta ha sh t gs hs kt tu tq nT nH ++ (Mw tc mo mad U ++ []))) (hl : lv_has ls 4 [(0, .ref b), (1, .ref xo), (2, .ref mo), (3, .int (nI i0))]) (hF : Fc_check Inv) : W p l e room_1 s m #[Value.ref b] below meth c H locs (60 + 2 * i0) (13000 + 14 * i0) Q (F0 m 917 ls []) := by
  obtain ⟨hx, hb, hr, hml, hown, hts, hlk, hN⟩ := id C
  have hbA : ¬ (fun q : Nat => s.heap.size ≤ q) b := Nat.not_le.mpr hbl
  obtain ⟨hb4, hb12, hbk⟩ := hB _ _ _ _ _ _ _ _ _ _ hI
  have hcl : 60 + 2 * i0 ≤ room_1.cells := (show 60 + 2 * i0 ≤ 600000 by omega)
  have hsl : 13000 + 14 * i0 ≤ room_1.slots := (show 13000 + 14 * i0 ≤ 7302250 by omega)
  refine lv_aload_n hx hb dL_law_917 rfl (lv_at hl 1 rfl) ?_
  refine lv_aload_n hx hb dL_law_918 rfl (lv_at hl 0 rfl) ?_
  refine lv_iload_n hx hb dL_law_919 rfl (lv_at hl 3 rfl) ?_
  refine lv_iconst (v := 1) hx hb dL_law_920 (by decide) ?_
  refine lv_iadd hx hb dL_law_921 ?_
  refine va_sld hx hb hX hbl hbA V.2.2.2.1 (law_in (j := 1) rfl (by omega) hL) dL_law_922 ?_
  refine lv_topi (fun a1 ea1 => ?_)
  refine lv_aload_n hx hb dL_law_923 rfl (lv_at hl 0 rfl) ?_
  refine lv_iload_n hx hb dL_law_924 rfl (lv_at hl 3 rfl) ?_
  refine lv_iconst (v := 2) hx hb dL_law_925 (by decide) ?_
  refine lv_iadd hx hb dL_law_926 ?_
  refine va_sld hx hb hX hbl hbA V.2.2.2.1 (law_in (j := 2) rfl (by omega) hL) dL_law_927 ?_
  refine lv_topi (fun a2 ea2 => ?_)
  have hq := hF a1 a2 i0 (by omega) t gs hs kt tu tq nT nH U hI
  refine cl_YN (n := 2) (As := [.int a1, .int a2]) (rest := []) C V hb12 hbk (fun T a6 t u sh => j_X6_check_Y T a6 t u sh a1 a2) (fun t => j_X6_check_N t a1 a2) (fun xo xa ad ta us T f g nT nH rest t u sh hf x0 hj => k_X6_check_Y l D tc xo xa ad ta us T f g nT nH rest t u sh a1 a2 hf hj) (fun xo xa ad f g nT nH rest t hf x0 hj => k_X6_check_N l D tc xo xa ad f g nT nH rest t a1 a2 hf hj) (fun r t1 g1 h1 => ∃ U1, j_X7_check U a1 a2 = some (r, U1) ∧ Inv (i0 + 6) t1 g1 h1 kt tu tq nT nH U1) (fun i hi hh => by obtain ⟨r, t1, u1, s1, U1, z1, z2, z3⟩ := hq.1 i hi hh (ha i 6) sh; exact ⟨r, t1, u1, s1, z1, U1, z2, z3⟩) (fun hh => by obtain ⟨r, t1, U1, z1, z2, z3⟩ := hq.2 hh; exact ⟨r, t1, z1, U1, z2, z3⟩) tw_507 tw_508 tw_509 tw_510 (by decide +kernel) ⟨(Nat.le_of_ble_eq_true rfl), (Nat.le_of_ble_eq_true rfl)⟩ ⟨(Nat.le_of_ble_eq_true rfl), (Nat.le_of_ble_eq_true rfl)⟩ ⟨hcl, hsl⟩ rfl hl.1 rfl (Nat.le_of_ble_eq_true rfl) dL_law_928 (fun r t gs hs sh hP H locs V => ?_)
  obtain ⟨U1, hjm, hI2⟩ := hP
  refine lv_aload_n hx hb dL_law_931 rfl (lv_at hl 2 rfl) ?_
  refine lv_aload_n hx hb dL_law_932 rfl (lv_at hl 0 rfl) ?_
  refine lv_iload_n hx hb dL_law_933 rfl (lv_at hl 3 rfl) ?_
  refine lv_iconst (v := 1) hx hb dL_law_934 (by decide) ?_
  refine lv_iadd hx hb dL_law_935 ?_
  refine va_sld hx hb hX hbl hbA V.2.2.2.1 (law_in (j := 1) rfl (by omega) hL) dL_law_936 ?_
  refine x_topi ea1 ?_
  refine lv_aload_n hx hb dL_law_937 rfl (lv_at hl 0 rfl) ?_
  refine lv_iload_n hx hb dL_law_938 rfl (lv_at hl 3 rfl) ?_
  refine lv_iconst (v := 2) hx hb dL_law_939 (by decide) ?_
  refine lv_iadd hx hb dL_law_940 ?_
  refine va_sld hx hb hX hbl hbA V.2.2.2.1 (law_in (j := 2) rfl (by omega) hL) dL_law_941 ?_
  refine x_topi ea2 ?_
  refine x_midI V (rf_run (n := 2) (As := [.int a1, .int a2]) (rest := [.int r]) C V (k_X7_check l D tc mo mad U a1 a2 hjm) tw_769 tw_770 tw_771 tw_772 (by decide +kernel) ⟨(Nat.le_of_ble_eq_true rfl), (Nat.le_of_ble_eq_true rfl)⟩ ⟨hcl, hsl⟩ rfl hl.1 rfl (Nat.le_of_ble_eq_true rfl) dL_law_942) (fun H locs V _ => ?_)
  refine lv_icmp_eq (tgt := 950) hx hb dL_law_945 (by decide) (fun _ => ?_) (fun hne => absurd rfl hne)
  refine W.widen (k := 72 + 2 * i0) (n := 13084 + 14 * i0) (by omega) (by omega) ?_
  exact hn _ _ _ _ _ _ _ _ _ _ _ _ _ _ _ _ ls hI2 V hl
