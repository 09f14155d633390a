def Fc_machine (Inv : IVT) : Prop := ∀ (k0 : Nat), k0 + 6 ≤ 3072 → ∀ (t : Nat → Int32) (gs : St) (hs : Nat → St) (kt : Nat → Option Nat) (tu : Nat → Int32) (tq : Nat → (Nat → Int32) × (Nat → Int32)) (nT nH : Nat) (U : St), Inv k0 t gs hs kt tu tq nT nH U → (nT = 4 → ∃ U1 : St, j_X7_machine U = some (-4, U1) ∧ Inv (k0 + 6) t gs hs kt tu tq nT nH U1) ∧ (nT < 4 → ∃ U1 : St, j_X7_machine U = some (nI nT, U1) ∧ Inv (k0 + 6) t gs hs kt (fun j => if j = nT then 0 else tu j) (fun j => if j = nT then (fun _ => 0, fun _ => 0) else tq j) (nT + 1) nH U1)
def Fc_row (Inv : IVT) : Prop := ∀ a1 a2 a3 a4 a5 : Int32, ∀ (k0 : Nat), k0 + 6 ≤ 3072 → ∀ (t : Nat → Int32) (gs : St) (hs : Nat → St) (kt : Nat → Option Nat) (tu : Nat → Int32) (tq : Nat → (Nat → Int32) × (Nat → Int32)) (nT nH : Nat) (U : St), Inv k0 t gs hs kt tu tq nT nH U → (∀ j, j < nT → a1 = nI j → ∀ u : St, (u.2.1 1, u.2.1 2) = tq j → ∃ (r : Int32) (t1 : Nat → Int32) (u1 U1 : St), j_X6_row_Y (tu j) t u a1 a2 a3 a4 a5 = some (r, t1, u1) ∧ j_X7_row U a1 a2 a3 a4 a5 = some (r, U1) ∧ Inv (k0 + 6) t1 gs hs kt tu (fun k => if k = j then (u1.2.1 1, u1.2.1 2) else tq k) nT nH U1) ∧ (FN (nI nT) a1 → ∃ (r : Int32) (t1 : Nat → Int32) (U1 : St), j_X6_row_N t a1 a2 a3 a4 a5 = some (r, t1) ∧ j_X7_row U a1 a2 a3 a4 a5 = some (r, U1) ∧ Inv (k0 + 6) t1 gs hs kt tu tq nT nH U1)
def Fc_begin (Inv : IVT) : Prop := ∀ a1 a2 a3 a4 a5 : Int32, FcYN Inv a1 (fun T a6 t u sh => j_X6_begin_Y T a6 t u sh a1 a2 a3 a4 a5) (fun t => j_X6_begin_N t a1 a2 a3 a4 a5) (fun U => j_X7_begin U a1 a2 a3 a4 a5)
def Fc_history (Inv : IVT) : Prop := ∀ a1 a2 : Int32, ∀ (k0 : Nat), k0 + 6 ≤ 3072 → ∀ (t : Nat → Int32) (gs : St) (hs : Nat → St) (kt : Nat → Option Nat) (tu : Nat → Int32) (tq : Nat → (Nat → Int32) × (Nat → Int32)) (nT nH : Nat) (U : St), Inv k0 t gs hs kt tu tq nT nH U → (∀ r : Int32, ((¬ a1 = 6 ∧ j_X3_isKind a1 = some 0 ∧ r = -1) ∨ (¬ a1 = 6 ∧ j_X3_isKind a1 = some 1 ∧ ¬ a2 = 0 ∧ r = -2) ∨ (¬ a1 = 6 ∧ j_X3_isKind a1 = some 1 ∧ a2 = 0 ∧ nH = 12 ∧ r = -4) ∨ (a1 = 6 ∧ FN (nI nT) a2 ∧ r = -1) ∨ (a1 = 6 ∧ (∃ j, j < nT ∧ a2 = nI j) ∧ nH = 12 ∧ r = -4)) → ∃ U1 : St, j_X7_history U a1 a2 = some (r, U1) ∧ Inv (k0 + 6) t gs hs kt tu tq nT nH U1) ∧ (¬ a1 = 6 → j_X3_isKind a1 = some 1 → a2 = 0 → nH < 12 → ∃ U1 : St, j_X7_history U a1 a2 = some (nI nH, U1) ∧ Inv (k0 + 6) t gs (fun i => if i = nH then sI St0 0 a1 else hs i) (fun i => if i = nH then none else kt i) tu tq nT (nH + 1) U1) ∧ (∀ j, j < nT → a2 = nI j → a1 = 6 → nH < 12 → ∃ U1 : St, j_X7_history U a1 a2 = some (nI nH, U1) ∧ Inv (k0 + 6) t gs (fun i => if i = nH then sI St0 0 a1 else hs i) (fun i => if i = nH then some j else kt i) (fun k => if k = j then 1 else tu k) tq nT (nH + 1) U1)
def Fc_copy (Inv : IVT) : Prop := ∀ a1 : Int32, ∀ (k0 : Nat), k0 + 6 ≤ 3072 → ∀ (t : Nat → Int32) (gs : St) (hs : Nat → St) (kt : Nat → Option Nat) (tu : Nat → Int32) (tq : Nat → (Nat → Int32) × (Nat → Int32)) (nT nH : Nat) (U : St), Inv k0 t gs hs kt tu tq nT nH U → (∀ r : Int32, ((FN (nI nH) a1 ∧ r = -1) ∨ ((∃ i, i < nH ∧ a1 = nI i) ∧ nH = 12 ∧ r = -4)) → ∃ U1 : St, j_X7_copy U a1 = some (r, U1) ∧ Inv (k0 + 6) t gs hs kt tu tq nT nH U1) ∧ (∀ i, i < nH → a1 = nI i → nH < 12 → ∃ U1 : St, j_X7_copy U a1 = some (nI nH, U1) ∧ Inv (k0 + 6) t gs (fun k => if k = nH then twS (hs i) else hs k) (fun k => if k = nH then kt i else kt k) tu tq nT (nH + 1) U1)
set_option maxHeartbeats 4000000 in
set_option maxRecDepth 100000 in
theorem law_machine {p : Program} {l : Launch} {e : Env} {s : State} {m : MethodId} {below : List Frame} {meth : Method} {c : Code} {Q : State → Prop} {D : va_G} {tc : Nat → ClassId} {b L xo mo : Nat} {mad : Nat → Nat} {xs : Nat → Int32} {i0 : Nat} {Inv : IVT} {H : Heap} {locs : List Loc} {ls : Array Slot} {t : Nat → Int32} {gs : St} {hs : Nat → St} {kt : Nat → Option Nat} {tu : Nat → Int32} {tq : Nat → (Nat → Int32) × (Nat → Int32)} {nT nH : Nat} {U : St} {xa ad : Nat → Nat} {ta ha : Nat → Nat → Nat} {sh : Nat} (C : Cx p s m #[Value.ref b] meth c cL_law 4 RL ret) (hX : va_X b L xs s s.heap) (hbl : b < s.heap.size) (hL : L ≤ 3072) (hi0 : i0 + 6 ≤ L) (hn : LNext p l e s m below meth c Q D tc b xo mo mad Inv i0) (hB : FcB Inv) (hI : Inv i0 t gs hs kt tu tq nT nH U) (V : Wd D tc (fun q : Nat => s.heap.size ≤ q) s H locs (Xw tc xo xa ad ta ha sh t gs hs kt tu tq nT nH ++ (Mw tc mo mad U ++ []))) (hl : lv_has ls 4 [(0, .ref b), (1, .ref xo), (2, .ref mo), (3, .int (nI i0))]) (hF : Fc_machine Inv) : W p l e room_1 s m #[Value.ref b] below meth c H locs (60 + 2 * i0) (13000 + 14 * i0) Q (F0 m 140 ls []) := by
  obtain ⟨hx, hb, hr, hml, hown, hts, hlk, hN⟩ := id C
  have hbA : ¬ (fun q : Nat => s.heap.size ≤ q) b := Nat.not_le.mpr hbl
  obtain ⟨hb4, hb12, hbk⟩ := hB _ _ _ _ _ _ _ _ _ _ hI
  have hcl : 60 + 2 * i0 ≤ room_1.cells := (show 60 + 2 * i0 ≤ 600000 by omega)
  have hsl : 13000 + 14 * i0 ≤ room_1.slots := (show 13000 + 14 * i0 ≤ 7302250 by omega)
  have hclA : 60 + 2 * i0 + 8 ≤ room_1.cells := (show 60 + 2 * i0 + 8 ≤ 600000 by omega)
  have hslA : 13000 + 14 * i0 + 81 ≤ room_1.slots := (show 13000 + 14 * i0 + 81 ≤ 7302250 by omega)
  have hcl3 : 60 + 2 * i0 + 3 ≤ room_1.cells := (show 60 + 2 * i0 + 3 ≤ 600000 by omega)
  have hsl3 : 13000 + 14 * i0 + 67 ≤ room_1.slots := (show 13000 + 14 * i0 + 67 ≤ 7302250 by omega)
  refine lv_aload_n hx hb dL_law_140 rfl (lv_at hl 1 rfl) ?_
  have hq := hF  i0 (by omega) t gs hs kt tu tq nT nH U hI
  refine cl_machine (rest := []) C V hb4 hbk tw_172 (Nat.le_of_ble_eq_true rfl) (Nat.le_of_ble_eq_true rfl) ⟨hcl3, hsl3⟩ hl.1 rfl (Nat.le_of_ble_eq_true rfl) dL_law_141 (fun h4 H locs V => ?_) (fun h4 ta1 H locs V => ?_)
  · obtain ⟨U1, hjm, hI2⟩ := hq.1 h4
    have hcl2 := hcl
    have hsl2 := hsl
    refine lv_aload_n hx hb dL_law_144 rfl (lv_at hl 2 rfl) ?_
    refine x_midI V (rf_run (n := 0) (As := []) (rest := [.int (-4)]) C V (k_X7_machine l D tc mo mad U  hjm) tw_611 tw_612 tw_613 tw_614 (by decide +kernel) ⟨(Nat.le_of_ble_eq_true rfl), (Nat.le_of_ble_eq_true rfl)⟩ ⟨hcl2, hsl2⟩ rfl hl.1 rfl (Nat.le_of_ble_eq_true rfl) dL_law_145) (fun H locs V _ => ?_)
    refine lv_icmp_eq (tgt := 950) hx hb dL_law_148 (by decide) (fun _ => ?_) (fun hne => absurd rfl hne)
    refine W.widen (k := 72 + 2 * i0) (n := 13084 + 14 * i0) (by omega) (by omega) ?_
    exact hn _ _ _ _ _ _ _ _ _ _ _ _ _ _ _ _ ls hI2 V hl
  · obtain ⟨U1, hjm, hI2⟩ := hq.2 h4
    have hcl2 := hcl3
    have hsl2 := hsl3
    refine lv_aload_n hx hb dL_law_144 rfl (lv_at hl 2 rfl) ?_
    refine x_midI V (rf_run (n := 0) (As := []) (rest := [.int (nI nT)]) C V (k_X7_machine l D tc mo mad U  hjm) tw_611 tw_612 tw_613 tw_614 (by decide +kernel) ⟨(Nat.le_of_ble_eq_true rfl), (Nat.le_of_ble_eq_true rfl)⟩ ⟨hcl2, hsl2⟩ rfl hl.1 rfl (Nat.le_of_ble_eq_true rfl) dL_law_145) (fun H locs V _ => ?_)
    refine lv_icmp_eq (tgt := 950) hx hb dL_law_148 (by decide) (fun _ => ?_) (fun hne => absurd rfl hne)
    refine W.widen (k := 72 + 2 * i0) (n := 13084 + 14 * i0) (by omega) (by omega) ?_
    exact hn _ _ _ _ _ _ _ _ _ _ _ _ _ _ _ _ ls hI2 V hl

set_option maxHeartbeats 4000000 in
set_option maxRecDepth 100000 in
theorem law_row {p : Program} {l : Launch} {e : Env} {s : State} {m : MethodId} {below : List Frame} {meth : Method} {c : Code} {Q : State → Prop} {D : va_G} {tc : Nat → ClassId} {b L xo mo : Nat} {mad : Nat → Nat} {xs : Nat → Int32} {i0 : Nat} {Inv : IVT} {H : Heap} {locs : List Loc} {ls : Array Slot} {t : Nat → Int32} {gs : St} {hs : Nat → St} {kt : Nat → Option Nat} {tu : Nat → Int32} {tq : Nat → (Nat → Int32) × (Nat → Int32)} {nT nH : Nat} {U : St} {xa ad : Nat → Nat} {ta ha : Nat → Nat → Nat} {sh : Nat} (C : Cx p s m #[Value.ref b] meth c cL_law 4 RL ret) (hX : va_X b L xs s s.heap) (hbl : b < s.heap.size) (hL : L ≤ 3072) (hi0 : i0 + 6 ≤ L) (hn : LNext p l e s m below meth c Q D tc b xo mo mad Inv i0) (hB : FcB Inv) (hI : Inv i0 t gs hs kt tu tq nT nH U) (V : Wd D tc (fun q : Nat => s.heap.size ≤ q) s H locs (Xw tc xo xa ad ta ha sh t gs hs kt tu tq nT nH ++ (Mw tc mo mad U ++ []))) (hl : lv_has ls 4 [(0, .ref b), (1, .ref xo), (2, .ref mo), (3, .int (nI i0))]) (hF : Fc_row Inv) : W p l e room_1 s m #[Value.ref b] below meth c H locs (60 + 2 * i0) (13000 + 14 * i0) Q (F0 m 153 ls []) := by
  obtain ⟨hx, hb, hr, hml, hown, hts, hlk, hN⟩ := id C
  have hbA : ¬ (fun q : Nat => s.heap.size ≤ q) b := Nat.not_le.mpr hbl
  obtain ⟨hb4, hb12, hbk⟩ := hB _ _ _ _ _ _ _ _ _ _ hI
  have hcl : 60 + 2 * i0 ≤ room_1.cells := (show 60 + 2 * i0 ≤ 600000 by omega)
  have hsl : 13000 + 14 * i0 ≤ room_1.slots := (show 13000 + 14 * i0 ≤ 7302250 by omega)
  have hclA : 60 + 2 * i0 + 8 ≤ room_1.cells := (show 60 + 2 * i0 + 8 ≤ 600000 by omega)
  have hslA : 13000 + 14 * i0 + 81 ≤ room_1.slots := (show 13000 + 14 * i0 + 81 ≤ 7302250 by omega)
  have hcl3 : 60 + 2 * i0 + 3 ≤ room_1.cells := (show 60 + 2 * i0 + 3 ≤ 600000 by omega)
  have hsl3 : 13000 + 14 * i0 + 67 ≤ room_1.slots := (show 13000 + 14 * i0 + 67 ≤ 7302250 by omega)
  refine lv_aload_n hx hb dL_law_153 rfl (lv_at hl 1 rfl) ?_
  refine lv_aload_n hx hb dL_law_154 rfl (lv_at hl 0 rfl) ?_
  refine lv_iload_n hx hb dL_law_155 rfl (lv_at hl 3 rfl) ?_
  refine lv_iconst (v := 1) hx hb dL_law_156 (by decide) ?_
  refine lv_iadd hx hb dL_law_157 ?_
  refine va_sld hx hb hX hbl hbA V.2.2.2.1 (law_in (j := 1) rfl (by omega) hL) dL_law_158 ?_
  refine lv_topi (fun a1 ea1 => ?_)
  refine lv_aload_n hx hb dL_law_159 rfl (lv_at hl 0 rfl) ?_
  refine lv_iload_n hx hb dL_law_160 rfl (lv_at hl 3 rfl) ?_
  refine lv_iconst (v := 2) hx hb dL_law_161 (by decide) ?_
  refine lv_iadd hx hb dL_law_162 ?_
  refine va_sld hx hb hX hbl hbA V.2.2.2.1 (law_in (j := 2) rfl (by omega) hL) dL_law_163 ?_
  refine lv_topi (fun a2 ea2 => ?_)
  refine lv_aload_n hx hb dL_law_164 rfl (lv_at hl 0 rfl) ?_
  refine lv_iload_n hx hb dL_law_165 rfl (lv_at hl 3 rfl) ?_
  refine lv_iconst (v := 3) hx hb dL_law_166 (by decide) ?_
  refine lv_iadd hx hb dL_law_167 ?_
  refine va_sld hx hb hX hbl hbA V.2.2.2.1 (law_in (j := 3) rfl (by omega) hL) dL_law_168 ?_
  refine lv_topi (fun a3 ea3 => ?_)
  refine lv_aload_n hx hb dL_law_169 rfl (lv_at hl 0 rfl) ?_
  refine lv_iload_n hx hb dL_law_170 rfl (lv_at hl 3 rfl) ?_
  refine lv_iconst (v := 4) hx hb dL_law_171 (by decide) ?_
  refine lv_iadd hx hb dL_law_172 ?_
  refine va_sld hx hb hX hbl hbA V.2.2.2.1 (law_in (j := 4) rfl (by omega) hL) dL_law_173 ?_
  refine lv_topi (fun a4 ea4 => ?_)
  refine lv_aload_n hx hb dL_law_174 rfl (lv_at hl 0 rfl) ?_
  refine lv_iload_n hx hb dL_law_175 rfl (lv_at hl 3 rfl) ?_
  refine lv_iconst (v := 5) hx hb dL_law_176 (by decide) ?_
  refine lv_iadd hx hb dL_law_177 ?_
  refine va_sld hx hb hX hbl hbA V.2.2.2.1 (law_in (j := 5) rfl (by omega) hL) dL_law_178 ?_
  refine lv_topi (fun a5 ea5 => ?_)
  have hq := hF a1 a2 a3 a4 a5 i0 (by omega) t gs hs kt tu tq nT nH U hI
  refine cl_row (rest := []) C V hb4 (fun r t1 q1 => ∃ U1, j_X7_row U a1 a2 a3 a4 a5 = some (r, U1) ∧ Inv (i0 + 6) t1 gs hs kt tu q1 nT nH U1) (fun j hj hh u hu => by obtain ⟨r, t1, u1, U1, z1, z2, z3⟩ := hq.1 j hj hh u hu; exact ⟨r, t1, u1, z1, U1, z2, z3⟩) (fun hh => by obtain ⟨r, t1, U1, z1, z2, z3⟩ := hq.2 hh; exact ⟨r, t1, z1, U1, z2, z3⟩) tw_191 (Nat.le_of_ble_eq_true rfl) (Nat.le_of_ble_eq_true rfl) ⟨hcl, hsl⟩ hl.1 rfl (Nat.le_of_ble_eq_true rfl) dL_law_179 (fun r t tq hP H locs V => ?_)
  obtain ⟨U1, hjm, hI2⟩ := hP
  have hcl2 := hcl
  have hsl2 := hsl
  refine lv_aload_n hx hb dL_law_182 rfl (lv_at hl 2 rfl) ?_
  refine lv_aload_n hx hb dL_law_183 rfl (lv_at hl 0 rfl) ?_
  refine lv_iload_n hx hb dL_law_184 rfl (lv_at hl 3 rfl) ?_
  refine lv_iconst (v := 1) hx hb dL_law_185 (by decide) ?_
  refine lv_iadd hx hb dL_law_186 ?_
  refine va_sld hx hb hX hbl hbA V.2.2.2.1 (law_in (j := 1) rfl (by omega) hL) dL_law_187 ?_
  refine x_topi ea1 ?_
  refine lv_aload_n hx hb dL_law_188 rfl (lv_at hl 0 rfl) ?_
  refine lv_iload_n hx hb dL_law_189 rfl (lv_at hl 3 rfl) ?_
  refine lv_iconst (v := 2) hx hb dL_law_190 (by decide) ?_
  refine lv_iadd hx hb dL_law_191 ?_
  refine va_sld hx hb hX hbl hbA V.2.2.2.1 (law_in (j := 2) rfl (by omega) hL) dL_law_192 ?_
  refine x_topi ea2 ?_
  refine lv_aload_n hx hb dL_law_193 rfl (lv_at hl 0 rfl) ?_
  refine lv_iload_n hx hb dL_law_194 rfl (lv_at hl 3 rfl) ?_
  refine lv_iconst (v := 3) hx hb dL_law_195 (by decide) ?_
  refine lv_iadd hx hb dL_law_196 ?_
  refine va_sld hx hb hX hbl hbA V.2.2.2.1 (law_in (j := 3) rfl (by omega) hL) dL_law_197 ?_
  refine x_topi ea3 ?_
  refine lv_aload_n hx hb dL_law_198 rfl (lv_at hl 0 rfl) ?_
  refine lv_iload_n hx hb dL_law_199 rfl (lv_at hl 3 rfl) ?_
  refine lv_iconst (v := 4) hx hb dL_law_200 (by decide) ?_
  refine lv_iadd hx hb dL_law_201 ?_
  refine va_sld hx hb hX hbl hbA V.2.2.2.1 (law_in (j := 4) rfl (by omega) hL) dL_law_202 ?_
  refine x_topi ea4 ?_
  refine lv_aload_n hx hb dL_law_203 rfl (lv_at hl 0 rfl) ?_
  refine lv_iload_n hx hb dL_law_204 rfl (lv_at hl 3 rfl) ?_
  refine lv_iconst (v := 5) hx hb dL_law_205 (by decide) ?_
  refine lv_iadd hx hb dL_law_206 ?_
  refine va_sld hx hb hX hbl hbA V.2.2.2.1 (law_in (j := 5) rfl (by omega) hL) dL_law_207 ?_
  refine x_topi ea5 ?_
  refine x_midI V (rf_run (n := 5) (As := [.int a1, .int a2, .int a3, .int a4, .int a5]) (rest := [.int r]) C V (k_X7_row l D tc mo mad U a1 a2 a3 a4 a5 hjm) tw_615 tw_616 tw_617 tw_618 (by decide +kernel) ⟨(Nat.le_of_ble_eq_true rfl), (Nat.le_of_ble_eq_true rfl)⟩ ⟨hcl2, hsl2⟩ rfl hl.1 rfl (Nat.le_of_ble_eq_true rfl) dL_law_208) (fun H locs V _ => ?_)
  refine lv_icmp_eq (tgt := 950) hx hb dL_law_211 (by decide) (fun _ => ?_) (fun hne => absurd rfl hne)
  refine W.widen (k := 72 + 2 * i0) (n := 13084 + 14 * i0) (by omega) (by omega) ?_
  exact hn _ _ _ _ _ _ _ _ _ _ _ _ _ _ _ _ ls hI2 V hl

set_option maxHeartbeats 4000000 in
set_option maxRecDepth 100000 in
theorem law_history {p : Program} {l : Launch} {e : Env} {s : State} {m : MethodId} {below : List Frame} {meth : Method} {c : Code} {Q : State → Prop} {D : va_G} {tc : Nat → ClassId} {b L xo mo : Nat} {mad : Nat → Nat} {xs : Nat → Int32} {i0 : Nat} {Inv : IVT} {H : Heap} {locs : List Loc} {ls : Array Slot} {t : Nat → Int32} {gs : St} {hs : Nat → St} {kt : Nat → Option Nat} {tu : Nat → Int32} {tq : Nat → (Nat → Int32) × (Nat → Int32)} {nT nH : Nat} {U : St} {xa ad : Nat → Nat} {ta ha : Nat → Nat → Nat} {sh : Nat} (C : Cx p s m #[Value.ref b] meth c cL_law 4 RL ret) (hX : va_X b L xs s s.heap) (hbl : b < s.heap.size) (hL : L ≤ 3072) (hi0 : i0 + 6 ≤ L) (hn : LNext p l e s m below meth c Q D tc b xo mo mad Inv i0) (hB : FcB Inv) (hI : Inv i0 t gs hs kt tu tq nT nH U) (V : Wd D tc (fun q : Nat => s.heap.size ≤ q) s H locs (Xw tc xo xa ad ta ha sh t gs hs kt tu tq nT nH ++ (Mw tc mo mad U ++ []))) (hl : lv_has ls 4 [(0, .ref b), (1, .ref xo), (2, .ref mo), (3, .int (nI i0))]) (hF : Fc_history Inv) : W p l e room_1 s m #[Value.ref b] below meth c H locs (60 + 2 * i0) (13000 + 14 * i0) Q (F0 m 216 ls []) := by
  obtain ⟨hx, hb, hr, hml, hown, hts, hlk, hN⟩ := id C
  have hbA : ¬ (fun q : Nat => s.heap.size ≤ q) b := Nat.not_le.mpr hbl
  obtain ⟨hb4, hb12, hbk⟩ := hB _ _ _ _ _ _ _ _ _ _ hI
  have hcl : 60 + 2 * i0 ≤ room_1.cells := (show 60 + 2 * i0 ≤ 600000 by omega)
  have hsl : 13000 + 14 * i0 ≤ room_1.slots := (show 13000 + 14 * i0 ≤ 7302250 by omega)
  have hclA : 60 + 2 * i0 + 8 ≤ room_1.cells := (show 60 + 2 * i0 + 8 ≤ 600000 by omega)
  have hslA : 13000 + 14 * i0 + 81 ≤ room_1.slots := (show 13000 + 14 * i0 + 81 ≤ 7302250 by omega)
  have hcl3 : 60 + 2 * i0 + 3 ≤ room_1.cells := (show 60 + 2 * i0 + 3 ≤ 600000 by omega)
  have hsl3 : 13000 + 14 * i0 + 67 ≤ room_1.slots := (show 13000 + 14 * i0 + 67 ≤ 7302250 by omega)
  refine lv_aload_n hx hb dL_law_216 rfl (lv_at hl 1 rfl) ?_
  refine lv_aload_n hx hb dL_law_217 rfl (lv_at hl 0 rfl) ?_
  refine lv_iload_n hx hb dL_law_218 rfl (lv_at hl 3 rfl) ?_
  refine lv_iconst (v := 1) hx hb dL_law_219 (by decide) ?_
  refine lv_iadd hx hb dL_law_220 ?_
  refine va_sld hx hb hX hbl hbA V.2.2.2.1 (law_in (j := 1) rfl (by omega) hL) dL_law_221 ?_
  refine lv_topi (fun a1 ea1 => ?_)
  refine lv_aload_n hx hb dL_law_222 rfl (lv_at hl 0 rfl) ?_
  refine lv_iload_n hx hb dL_law_223 rfl (lv_at hl 3 rfl) ?_
  refine lv_iconst (v := 2) hx hb dL_law_224 (by decide) ?_
  refine lv_iadd hx hb dL_law_225 ?_
  refine va_sld hx hb hX hbl hbA V.2.2.2.1 (law_in (j := 2) rfl (by omega) hL) dL_law_226 ?_
  refine lv_topi (fun a2 ea2 => ?_)
  have hq := hF a1 a2 i0 (by omega) t gs hs kt tu tq nT nH U hI
  refine cl_history (rest := []) C V hb4 hb12 tw_211 (Nat.le_of_ble_eq_true rfl) (Nat.le_of_ble_eq_true rfl) ⟨hclA, hslA⟩ hl.1 rfl (Nat.le_of_ble_eq_true rfl) dL_law_227 (fun r hh H locs V => ?_) (fun z1 z2 z3 z4 ha1 H locs V => ?_) (fun j z1 z2 z3 z4 ha1 H locs V => ?_)
  · obtain ⟨U1, hjm, hI2⟩ := hq.1 r hh
    have hcl2 := hcl
    have hsl2 := hsl
    refine lv_aload_n hx hb dL_law_230 rfl (lv_at hl 2 rfl) ?_
    refine lv_aload_n hx hb dL_law_231 rfl (lv_at hl 0 rfl) ?_
    refine lv_iload_n hx hb dL_law_232 rfl (lv_at hl 3 rfl) ?_
    refine lv_iconst (v := 1) hx hb dL_law_233 (by decide) ?_
    refine lv_iadd hx hb dL_law_234 ?_
    refine va_sld hx hb hX hbl hbA V.2.2.2.1 (law_in (j := 1) rfl (by omega) hL) dL_law_235 ?_
    refine x_topi ea1 ?_
    refine lv_aload_n hx hb dL_law_236 rfl (lv_at hl 0 rfl) ?_
    refine lv_iload_n hx hb dL_law_237 rfl (lv_at hl 3 rfl) ?_
    refine lv_iconst (v := 2) hx hb dL_law_238 (by decide) ?_
    refine lv_iadd hx hb dL_law_239 ?_
    refine va_sld hx hb hX hbl hbA V.2.2.2.1 (law_in (j := 2) rfl (by omega) hL) dL_law_240 ?_
    refine x_topi ea2 ?_
    refine x_midI V (rf_run (n := 2) (As := [.int a1, .int a2]) (rest := [.int r]) C V (k_X7_history l D tc mo mad U a1 a2 hjm) tw_622 tw_623 tw_624 tw_625 (by decide +kernel) ⟨(Nat.le_of_ble_eq_true rfl), (Nat.le_of_ble_eq_true rfl)⟩ ⟨hcl2, hsl2⟩ rfl hl.1 rfl (Nat.le_of_ble_eq_true rfl) dL_law_241) (fun H locs V _ => ?_)
    refine lv_icmp_eq (tgt := 950) hx hb dL_law_244 (by decide) (fun _ => ?_) (fun hne => absurd rfl hne)
    refine W.widen (k := 72 + 2 * i0) (n := 13084 + 14 * i0) (by omega) (by omega) ?_
    exact hn _ _ _ _ _ _ _ _ _ _ _ _ _ _ _ _ ls hI2 V hl
  · obtain ⟨U1, hjm, hI2⟩ := hq.2.1 z1 z2 z3 z4
    have hcl2 := hclA
    have hsl2 := hslA
    refine lv_aload_n hx hb dL_law_230 rfl (lv_at hl 2 rfl) ?_
    refine lv_aload_n hx hb dL_law_231 rfl (lv_at hl 0 rfl) ?_
    refine lv_iload_n hx hb dL_law_232 rfl (lv_at hl 3 rfl) ?_
    refine lv_iconst (v := 1) hx hb dL_law_233 (by decide) ?_
    refine lv_iadd hx hb dL_law_234 ?_
    refine va_sld hx hb hX hbl hbA V.2.2.2.1 (law_in (j := 1) rfl (by omega) hL) dL_law_235 ?_
    refine x_topi ea1 ?_
    refine lv_aload_n hx hb dL_law_236 rfl (lv_at hl 0 rfl) ?_
    refine lv_iload_n hx hb dL_law_237 rfl (lv_at hl 3 rfl) ?_
    refine lv_iconst (v := 2) hx hb dL_law_238 (by decide) ?_
    refine lv_iadd hx hb dL_law_239 ?_
    refine va_sld hx hb hX hbl hbA V.2.2.2.1 (law_in (j := 2) rfl (by omega) hL) dL_law_240 ?_
    refine x_topi ea2 ?_
    refine x_midI V (rf_run (n := 2) (As := [.int a1, .int a2]) (rest := [.int (nI nH)]) C V (k_X7_history l D tc mo mad U a1 a2 hjm) tw_622 tw_623 tw_624 tw_625 (by decide +kernel) ⟨(Nat.le_of_ble_eq_true rfl), (Nat.le_of_ble_eq_true rfl)⟩ ⟨hcl2, hsl2⟩ rfl hl.1 rfl (Nat.le_of_ble_eq_true rfl) dL_law_241) (fun H locs V _ => ?_)
    refine lv_icmp_eq (tgt := 950) hx hb dL_law_244 (by decide) (fun _ => ?_) (fun hne => absurd rfl hne)
    refine W.widen (k := 72 + 2 * i0) (n := 13084 + 14 * i0) (by omega) (by omega) ?_
    exact hn _ _ _ _ _ _ _ _ _ _ _ _ _ _ _ _ ls hI2 V hl
  · obtain ⟨U1, hjm, hI2⟩ := hq.2.2 j z1 z2 z3 z4
    have hcl2 := hclA
    have hsl2 := hslA
    refine lv_aload_n hx hb dL_law_230 rfl (lv_at hl 2 rfl) ?_
    refine lv_aload_n hx hb dL_law_231 rfl (lv_at hl 0 rfl) ?_
    refine lv_iload_n hx hb dL_law_232 rfl (lv_at hl 3 rfl) ?_
    refine lv_iconst (v := 1) hx hb dL_law_233 (by decide) ?_
    refine lv_iadd hx hb dL_law_234 ?_
    refine va_sld hx hb hX hbl hbA V.2.2.2.1 (law_in (j := 1) rfl (by omega) hL) dL_law_235 ?_
    refine x_topi ea1 ?_
    refine lv_aload_n hx hb dL_law_236 rfl (lv_at hl 0 rfl) ?_
    refine lv_iload_n hx hb dL_law_237 rfl (lv_at hl 3 rfl) ?_
    refine lv_iconst (v := 2) hx hb dL_law_238 (by decide) ?_
    refine lv_iadd hx hb dL_law_239 ?_
    refine va_sld hx hb hX hbl hbA V.2.2.2.1 (law_in (j := 2) rfl (by omega) hL) dL_law_240 ?_
    refine x_topi ea2 ?_
    refine x_midI V (rf_run (n := 2) (As := [.int a1, .int a2]) (rest := [.int (nI nH)]) C V (k_X7_history l D tc mo mad U a1 a2 hjm) tw_622 tw_623 tw_624 tw_625 (by decide +kernel) ⟨(Nat.le_of_ble_eq_true rfl), (Nat.le_of_ble_eq_true rfl)⟩ ⟨hcl2, hsl2⟩ rfl hl.1 rfl (Nat.le_of_ble_eq_true rfl) dL_law_241) (fun H locs V _ => ?_)
    refine lv_icmp_eq (tgt := 950) hx hb dL_law_244 (by decide) (fun _ => ?_) (fun hne => absurd rfl hne)
    refine W.widen (k := 72 + 2 * i0) (n := 13084 + 14 * i0) (by omega) (by omega) ?_
    exact hn _ _ _ _ _ _ _ _ _ _ _ _ _ _ _ _ ls hI2 V hl

set_option maxHeartbeats 4000000 in
set_option maxRecDepth 100000 in
theorem law_copy {p : Program} {l : Launch} {e : Env} {s : State} {m : MethodId} {below : List Frame} {meth : Method} {c : Code} {Q : State → Prop} {D : va_G} {tc : Nat → ClassId} {b L xo mo : Nat} {mad : Nat → Nat} {xs : Nat → Int32} {i0 : Nat} {Inv : IVT} {H : Heap} {locs : List Loc} {ls : Array Slot} {t : Nat → Int32} {gs : St} {hs : Nat → St} {kt : Nat → Option Nat} {tu : Nat → Int32} {tq : Nat → (Nat → Int32) × (Nat → Int32)} {nT nH : Nat} {U : St} {xa ad : Nat → Nat} {ta ha : Nat → Nat → Nat} {sh : Nat} (C : Cx p s m #[Value.ref b] meth c cL_law 4 RL ret) (hX : va_X b L xs s s.heap) (hbl : b < s.heap.size) (hL : L ≤ 3072) (hi0 : i0 + 6 ≤ L) (hn : LNext p l e s m below meth c Q D tc b xo mo mad Inv i0) (hB : FcB Inv) (hI : Inv i0 t gs hs kt tu tq nT nH U) (V : Wd D tc (fun q : Nat => s.heap.size ≤ q) s H locs (Xw tc xo xa ad ta ha sh t gs hs kt tu tq nT nH ++ (Mw tc mo mad U ++ []))) (hl : lv_has ls 4 [(0, .ref b), (1, .ref xo), (2, .ref mo), (3, .int (nI i0))]) (hF : Fc_copy Inv) : W p l e room_1 s m #[Value.ref b] below meth c H locs (60 + 2 * i0) (13000 + 14 * i0) Q (F0 m 249 ls []) := by
  obtain ⟨hx, hb, hr, hml, hown, hts, hlk, hN⟩ := id C
  have hbA : ¬ (fun q : Nat => s.heap.size ≤ q) b := Nat.not_le.mpr hbl
  obtain ⟨hb4, hb12, hbk⟩ := hB _ _ _ _ _ _ _ _ _ _ hI
  have hcl : 60 + 2 * i0 ≤ room_1.cells := (show 60 + 2 * i0 ≤ 600000 by omega)
  have hsl : 13000 + 14 * i0 ≤ room_1.slots := (show 13000 + 14 * i0 ≤ 7302250 by omega)
  have hclA : 60 + 2 * i0 + 8 ≤ room_1.cells := (show 60 + 2 * i0 + 8 ≤ 600000 by omega)
  have hslA : 13000 + 14 * i0 + 81 ≤ room_1.slots := (show 13000 + 14 * i0 + 81 ≤ 7302250 by omega)
  have hcl3 : 60 + 2 * i0 + 3 ≤ room_1.cells := (show 60 + 2 * i0 + 3 ≤ 600000 by omega)
  have hsl3 : 13000 + 14 * i0 + 67 ≤ room_1.slots := (show 13000 + 14 * i0 + 67 ≤ 7302250 by omega)
  refine lv_aload_n hx hb dL_law_249 rfl (lv_at hl 1 rfl) ?_
  refine lv_aload_n hx hb dL_law_250 rfl (lv_at hl 0 rfl) ?_
  refine lv_iload_n hx hb dL_law_251 rfl (lv_at hl 3 rfl) ?_
  refine lv_iconst (v := 1) hx hb dL_law_252 (by decide) ?_
  refine lv_iadd hx hb dL_law_253 ?_
  refine va_sld hx hb hX hbl hbA V.2.2.2.1 (law_in (j := 1) rfl (by omega) hL) dL_law_254 ?_
  refine lv_topi (fun a1 ea1 => ?_)
  have hq := hF a1 i0 (by omega) t gs hs kt tu tq nT nH U hI
  refine cl_copy (rest := []) C V hb12 tw_223 (Nat.le_of_ble_eq_true rfl) (Nat.le_of_ble_eq_true rfl) ⟨hclA, hslA⟩ hl.1 rfl (Nat.le_of_ble_eq_true rfl) dL_law_255 (fun r hh H locs V => ?_) (fun i z1 z2 z3 ha1 H locs V => ?_)
  · obtain ⟨U1, hjm, hI2⟩ := hq.1 r hh
    have hcl2 := hcl
    have hsl2 := hsl
    refine lv_aload_n hx hb dL_law_258 rfl (lv_at hl 2 rfl) ?_
    refine lv_aload_n hx hb dL_law_259 rfl (lv_at hl 0 rfl) ?_
    refine lv_iload_n hx hb dL_law_260 rfl (lv_at hl 3 rfl) ?_
    refine lv_iconst (v := 1) hx hb dL_law_261 (by decide) ?_
    refine lv_iadd hx hb dL_law_262 ?_
    refine va_sld hx hb hX hbl hbA V.2.2.2.1 (law_in (j := 1) rfl (by omega) hL) dL_law_263 ?_
    refine x_topi ea1 ?_
    refine x_midI V (rf_run (n := 1) (As := [.int a1]) (rest := [.int r]) C V (k_X7_copy l D tc mo mad U a1 hjm) tw_626 tw_627 tw_628 tw_629 (by decide +kernel) ⟨(Nat.le_of_ble_eq_true rfl), (Nat.le_of_ble_eq_true rfl)⟩ ⟨hcl2, hsl2⟩ rfl hl.1 rfl (Nat.le_of_ble_eq_true rfl) dL_law_264) (fun H locs V _ => ?_)
    refine lv_icmp_eq (tgt := 950) hx hb dL_law_267 (by decide) (fun _ => ?_) (fun hne => absurd rfl hne)
    refine W.widen (k := 72 + 2 * i0) (n := 13084 + 14 * i0) (by omega) (by omega) ?_
    exact hn _ _ _ _ _ _ _ _ _ _ _ _ _ _ _ _ ls hI2 V hl
  · obtain ⟨U1, hjm, hI2⟩ := hq.2 i z1 z2 z3
    have hcl2 := hclA
    have hsl2 := hslA
    refine lv_aload_n hx hb dL_law_258 rfl (lv_at hl 2 rfl) ?_
    refine lv_aload_n hx hb dL_law_259 rfl (lv_at hl 0 rfl) ?_
    refine lv_iload_n hx hb dL_law_260 rfl (lv_at hl 3 rfl) ?_
    refine lv_iconst (v := 1) hx hb dL_law_261 (by decide) ?_
    refine lv_iadd hx hb dL_law_262 ?_
    refine va_sld hx hb hX hbl hbA V.2.2.2.1 (law_in (j := 1) rfl (by omega) hL) dL_law_263 ?_
    refine x_topi ea1 ?_
    refine x_midI V (rf_run (n := 1) (As := [.int a1]) (rest := [.int (nI nH)]) C V (k_X7_copy l D tc mo mad U a1 hjm) tw_626 tw_627 tw_628 tw_629 (by decide +kernel) ⟨(Nat.le_of_ble_eq_true rfl), (Nat.le_of_ble_eq_true rfl)⟩ ⟨hcl2, hsl2⟩ rfl hl.1 rfl (Nat.le_of_ble_eq_true rfl) dL_law_264) (fun H locs V _ => ?_)
    refine lv_icmp_eq (tgt := 950) hx hb dL_law_267 (by decide) (fun _ => ?_) (fun hne => absurd rfl hne)
    refine W.widen (k := 72 + 2 * i0) (n := 13084 + 14 * i0) (by omega) (by omega) ?_
    exact hn _ _ _ _ _ _ _ _ _ _ _ _ _ _ _ _ ls hI2 V hl

set_option maxHeartbeats 4000000 in
set_option maxRecDepth 100000 in
theorem law_begin {p : Program} {l : Launch} {e : Env} {s : State} {m : MethodId} {below : List Frame} {meth : Method} {c : Code} {Q : State → Prop} {D : va_G} {tc : Nat → ClassId} {b L xo mo : Nat} {mad : Nat → Nat} {xs : Nat → Int32} {i0 : Nat} {Inv : IVT} {H : Heap} {locs : List Loc} {ls : Array Slot} {t : Nat → Int32} {gs : St} {hs : Nat → St} {kt : Nat → Option Nat} {tu : Nat → Int32} {tq : Nat → (Nat → Int32) × (Nat → Int32)} {nT nH : Nat} {U : St} {xa ad : Nat → Nat} {ta ha : Nat → Nat → Nat} {sh : Nat} (C : Cx p s m #[Value.ref b] meth c cL_law 4 RL ret) (hX : va_X b L xs s s.heap) (hbl : b < s.heap.size) (hL : L ≤ 3072) (hi0 : i0 + 6 ≤ L) (hn : LNext p l e s m below meth c Q D tc b xo mo mad Inv i0) (hB : FcB Inv) (hI : Inv i0 t gs hs kt tu tq nT nH U) (V : Wd D tc (fun q : Nat => s.heap.size ≤ q) s H locs (Xw tc xo xa ad ta ha sh t gs hs kt tu tq nT nH ++ (Mw tc mo mad U ++ []))) (hl : lv_has ls 4 [(0, .ref b), (1, .ref xo), (2, .ref mo), (3, .int (nI i0))]) (hE : StA (fun q : Nat => s.heap.size ≤ q) s) (hF : Fc_begin Inv) : W p l e room_1 s m #[Value.ref b] below meth c H locs (60 + 2 * i0) (13000 + 14 * i0) Q (F0 m 272 ls []) := by
  obtain ⟨hx, hb, hr, hml, hown, hts, hlk, hN⟩ := id C
  have hbA : ¬ (fun q : Nat => s.heap.size ≤ q) b := Nat.not_le.mpr hbl
  obtain ⟨hb4, hb12, hbk⟩ := hB _ _ _ _ _ _ _ _ _ _ hI
  have hcl : 60 + 2 * i0 ≤ room_1.cells := (show 60 + 2 * i0 ≤ 600000 by omega)
  have hsl : 13000 + 14 * i0 ≤ room_1.slots := (show 13000 + 14 * i0 ≤ 7302250 by omega)
  have hclA : 60 + 2 * i0 + 8 ≤ room_1.cells := (show 60 + 2 * i0 + 8 ≤ 600000 by omega)
  have hslA : 13000 + 14 * i0 + 81 ≤ room_1.slots := (show 13000 + 14 * i0 + 81 ≤ 7302250 by omega)
  have hcl3 : 60 + 2 * i0 + 3 ≤ room_1.cells := (show 60 + 2 * i0 + 3 ≤ 600000 by omega)
  have hsl3 : 13000 + 14 * i0 + 67 ≤ room_1.slots := (show 13000 + 14 * i0 + 67 ≤ 7302250 by omega)
  refine lv_aload_n hx hb dL_law_272 rfl (lv_at hl 1 rfl) ?_
  refine lv_aload_n hx hb dL_law_273 rfl (lv_at hl 0 rfl) ?_
  refine lv_iload_n hx hb dL_law_274 rfl (lv_at hl 3 rfl) ?_
  refine lv_iconst (v := 1) hx hb dL_law_275 (by decide) ?_
  refine lv_iadd hx hb dL_law_276 ?_
  refine va_sld hx hb hX hbl hbA V.2.2.2.1 (law_in (j := 1) rfl (by omega) hL) dL_law_277 ?_
  refine lv_topi (fun a1 ea1 => ?_)
  refine lv_aload_n hx hb dL_law_278 rfl (lv_at hl 0 rfl) ?_
  refine lv_iload_n hx hb dL_law_279 rfl (lv_at hl 3 rfl) ?_
  refine lv_iconst (v := 2) hx hb dL_law_280 (by decide) ?_
  refine lv_iadd hx hb dL_law_281 ?_
  refine va_sld hx hb hX hbl hbA V.2.2.2.1 (law_in (j := 2) rfl (by omega) hL) dL_law_282 ?_
  refine lv_topi (fun a2 ea2 => ?_)
  refine lv_aload_n hx hb dL_law_283 rfl (lv_at hl 0 rfl) ?_
  refine lv_iload_n hx hb dL_law_284 rfl (lv_at hl 3 rfl) ?_
  refine lv_iconst (v := 3) hx hb dL_law_285 (by decide) ?_
  refine lv_iadd hx hb dL_law_286 ?_
  refine va_sld hx hb hX hbl hbA V.2.2.2.1 (law_in (j := 3) rfl (by omega) hL) dL_law_287 ?_
  refine lv_topi (fun a3 ea3 => ?_)
  refine lv_aload_n hx hb dL_law_288 rfl (lv_at hl 0 rfl) ?_
  refine lv_iload_n hx hb dL_law_289 rfl (lv_at hl 3 rfl) ?_
  refine lv_iconst (v := 4) hx hb dL_law_290 (by decide) ?_
  refine lv_iadd hx hb dL_law_291 ?_
  refine va_sld hx hb hX hbl hbA V.2.2.2.1 (law_in (j := 4) rfl (by omega) hL) dL_law_292 ?_
  refine lv_topi (fun a4 ea4 => ?_)
  refine lv_aload_n hx hb dL_law_293 rfl (lv_at hl 0 rfl) ?_
  refine lv_iload_n hx hb dL_law_294 rfl (lv_at hl 3 rfl) ?_
  refine lv_iconst (v := 5) hx hb dL_law_295 (by decide) ?_
  refine lv_iadd hx hb dL_law_296 ?_
  refine va_sld hx hb hX hbl hbA V.2.2.2.1 (law_in (j := 5) rfl (by omega) hL) dL_law_297 ?_
  refine lv_topi (fun a5 ea5 => ?_)
  have hq := hF a1 a2 a3 a4 a5 i0 (by omega) t gs hs kt tu tq nT nH U hI
  refine cl_begin (rest := []) hE C V hb12 hbk (fun r t1 g1 h1 => ∃ U1, j_X7_begin U a1 a2 a3 a4 a5 = some (r, U1) ∧ Inv (i0 + 6) t1 g1 h1 kt tu tq nT nH U1) (fun i hi hh => by obtain ⟨r, t1, u1, s1, U1, z1, z2, z3⟩ := hq.1 i hi hh (ha i 6) sh; exact ⟨r, t1, u1, s1, z1, U1, z2, z3⟩) (fun hh => by obtain ⟨r, t1, U1, z1, z2, z3⟩ := hq.2 hh; exact ⟨r, t1, z1, U1, z2, z3⟩) tw_240 (Nat.le_of_ble_eq_true rfl) (Nat.le_of_ble_eq_true rfl) ⟨hcl, hsl⟩ hl.1 rfl (Nat.le_of_ble_eq_true rfl) dL_law_298 (fun r t gs hs sh hP H locs V => ?_)
  obtain ⟨U1, hjm, hI2⟩ := hP
  have hcl2 := hcl
  have hsl2 := hsl
  refine lv_aload_n hx hb dL_law_301 rfl (lv_at hl 2 rfl) ?_
  refine lv_aload_n hx hb dL_law_302 rfl (lv_at hl 0 rfl) ?_
  refine lv_iload_n hx hb dL_law_303 rfl (lv_at hl 3 rfl) ?_
  refine lv_iconst (v := 1) hx hb dL_law_304 (by decide) ?_
  refine lv_iadd hx hb dL_law_305 ?_
  refine va_sld hx hb hX hbl hbA V.2.2.2.1 (law_in (j := 1) rfl (by omega) hL) dL_law_306 ?_
  refine x_topi ea1 ?_
  refine lv_aload_n hx hb dL_law_307 rfl (lv_at hl 0 rfl) ?_
  refine lv_iload_n hx hb dL_law_308 rfl (lv_at hl 3 rfl) ?_
  refine lv_iconst (v := 2) hx hb dL_law_309 (by decide) ?_
  refine lv_iadd hx hb dL_law_310 ?_
  refine va_sld hx hb hX hbl hbA V.2.2.2.1 (law_in (j := 2) rfl (by omega) hL) dL_law_311 ?_
  refine x_topi ea2 ?_
  refine lv_aload_n hx hb dL_law_312 rfl (lv_at hl 0 rfl) ?_
  refine lv_iload_n hx hb dL_law_313 rfl (lv_at hl 3 rfl) ?_
  refine lv_iconst (v := 3) hx hb dL_law_314 (by decide) ?_
  refine lv_iadd hx hb dL_law_315 ?_
  refine va_sld hx hb hX hbl hbA V.2.2.2.1 (law_in (j := 3) rfl (by omega) hL) dL_law_316 ?_
  refine x_topi ea3 ?_
  refine lv_aload_n hx hb dL_law_317 rfl (lv_at hl 0 rfl) ?_
  refine lv_iload_n hx hb dL_law_318 rfl (lv_at hl 3 rfl) ?_
  refine lv_iconst (v := 4) hx hb dL_law_319 (by decide) ?_
  refine lv_iadd hx hb dL_law_320 ?_
  refine va_sld hx hb hX hbl hbA V.2.2.2.1 (law_in (j := 4) rfl (by omega) hL) dL_law_321 ?_
  refine x_topi ea4 ?_
  refine lv_aload_n hx hb dL_law_322 rfl (lv_at hl 0 rfl) ?_
  refine lv_iload_n hx hb dL_law_323 rfl (lv_at hl 3 rfl) ?_
  refine lv_iconst (v := 5) hx hb dL_law_324 (by decide) ?_
  refine lv_iadd hx hb dL_law_325 ?_
  refine va_sld hx hb hX hbl hbA V.2.2.2.1 (law_in (j := 5) rfl (by omega) hL) dL_law_326 ?_
  refine x_topi ea5 ?_
  refine x_midI V (rf_run (n := 5) (As := [.int a1, .int a2, .int a3, .int a4, .int a5]) (rest := [.int r]) C V (k_X7_begin l D tc mo mad U a1 a2 a3 a4 a5 hjm) tw_634 tw_635 tw_636 tw_637 (by decide +kernel) ⟨(Nat.le_of_ble_eq_true rfl), (Nat.le_of_ble_eq_true rfl)⟩ ⟨hcl2, hsl2⟩ rfl hl.1 rfl (Nat.le_of_ble_eq_true rfl) dL_law_327) (fun H locs V _ => ?_)
  refine lv_icmp_eq (tgt := 950) hx hb dL_law_330 (by decide) (fun _ => ?_) (fun hne => absurd rfl hne)
  refine W.widen (k := 72 + 2 * i0) (n := 13084 + 14 * i0) (by omega) (by omega) ?_
  exact hn _ _ _ _ _ _ _ _ _ _ _ _ _ _ _ _ ls hI2 V hl
