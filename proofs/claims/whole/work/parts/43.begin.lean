/-! ===== the static row of acts ===== -/
def acts (k : Nat) : Int32 := ([3, 2, 2, 2, 3, 3, 4] : List Int32).getD k 0
def StA (A : Nat → Prop) (U : State) : Prop := ∃ tA : Nat, va_Z "HistoryCourt$Model" "ACTS" "[I" (.ref tA) A U U.heap ∧ va_T .int tA 7 (fun k => .int (acts k)) A U U.heap
theorem StA.blind {A : Nat → Prop} {U : State} {g : JFrame} {mk : MethodId} {a : Array Value} (h : StA A U) : StA A (U.calling g mk a) := by
  obtain ⟨tA, h1, h2⟩ := h
  exact ⟨tA, va_Z.moved (u := U) (U := U.calling g mk a) (Vm.Alike.refl U.vm) h1, va_T.moved (u := U) (U := U.calling g mk a) (Vm.Alike.refl U.vm) h2⟩
theorem StA.call {D : va_G} {tc : Nat → ClassId} {A : Nat → Prop} {s : State} {H : Heap} {locs : List Loc} {ws wc : va_W} (h : StA A s) (V : Wd D tc A s H locs ws) (isC : List Nat) (hC : isC.map (fun i => ws[i]?) = wc.map some) : ∀ U : State, U.heap = H → s.WarmedH U.vm → StA (va_A wc H.size) U := by
  intro U hU hW
  obtain ⟨tA, h1, h2⟩ := h
  have hF := va_free (wc := wc) V.2.2.1 V.2.2.2.1 V.2.2.2.2 isC hC
  refine ⟨tA, ?_, ?_⟩
  · rw [hU]
    exact ((h1.kept V.2.2.2.1.2.1).narrow hF).moved hW.alike
  · rw [hU]
    exact ((h2.kept V.2.2.2.1.2.1).narrow hF).moved hW.alike
theorem x_entIE {l : Launch} {D : va_G} {tc : Nat → ClassId} {cc : ByteArray} {own : String} {ws : va_W} {y : MethodName} {maxL fr lo : Nat} {av : List Value} {ty : FieldType} {S : Type} {x0 : S} (val : S → Int32) (wf : S → va_W) (hy : plainName y.cls = true) (ho : y.cls = own) (hlen : (lg_sl av).length ≤ maxL)
    (body : ∀ (p : Program) (e : Env) (s : State) (m : MethodId) (args : Array Value) (below : List Frame) (meth : Method) (c : Code) (A : Nat → Prop) (Q : State → Prop) (ls : Array Slot), StA A s →
      Cx p s m args meth c cc maxL own (some ty) → Wd D tc A s s.heap [] ws → lv_has ls maxL (lv_args 0 av) → RetI p l e (rmz fr 0 0 lo) s m args below meth c Q cc D tc A ty (some x0) val wf →
      W p l e (rmz fr 0 0 lo) s m args below meth c s.heap [] 0 0 Q (F0 m 0 ls [])) :
    MetE l D tc y cc maxL (some ty) fr 0 0 lo av ws (fun sz U => StA (va_A ws sz) U) (fun v w => v = some (.int (val x0)) ∧ w = wf x0) :=
  x_entE hy ho hlen (fun p e s m args below meth c A sz ls hA _ hE _ C V hl => body p e s m args below meth c A _ ls (by rw [hA]; exact hE) C V hl (fun x hx hn V hdg => by
    cases hx
    exact x_ireti (Nat.le_refl 0) (Nat.le_refl 0) C hA hn ⟨rfl, rfl⟩ V hdg))
theorem x_runSE {p : Program} {l : Launch} {e : Env} {R : Room} {s : State} {m : MethodId} {args : Array Value} {below : List Frame} {meth : Method} {c : Code} {H : Heap} {locs : List Loc} {cells slots : Nat} {cc : ByteArray} {nL : Nat} {own : String} {ret : Option FieldType} {D : va_G} {tc : Nat → ClassId} {A : Nat → Prop} {ws : va_W} {pc : Nat} {ls : Array Slot} {rest : List Value} {y : MethodName} {bytes : ByteArray} {maxL fr mc ms lo n index : Nat} {rt : Option FieldType} {wc : va_W} {RT : Option Value → va_W → Prop} {As st0 : List Value} (hE : StA A s) (X : Cx p s m args meth c cc nL own ret) (V : Wd D tc A s H locs ws) (isC : List Nat) (hC : isC.map (fun i => ws[i]?) = wc.map some) (hn : va_nd isC = true)
    (hM : MetE l D tc y bytes maxL rt fr mc ms lo As wc (fun sz U => StA (va_A wc sz) U) RT) (h1 : Cond.methodLink own index y ∈ lw_g) (h2 : Cond.static y ∈ lw_g) (h4 : Cond.initialized y.cls ∈ lw_g) (h5 : Cond.code y bytes maxL rt ∈ lw_g)
    (hd : y.cls ≠ "java/lang/invoke/MethodHandle" ∧ y.cls ≠ "java/lang/invoke/VarHandle" ∧ (parseMethodDescriptor y.desc).map (fun d => d.parameters.length) = some n) (hR : fr + 1 ≤ R.frames ∧ 8 + (maxL + 11) + lo ≤ R.locals) (hf : cells + mc ≤ R.cells ∧ slots + ms ≤ R.slots)
    (hlen : As.length = n) (hls : ls.size = nL) (hst : st0 = As.reverse ++ rest) (hroom : (rest.map fun v => v.category).sum ≤ 8) (hdg : decode cc pc = .ok (.invokestatic index, 3)) :
    va_Run p l e R s m args below meth c H locs cells slots mc ms (F0 m pc ls st0) rest (QcM D wc H.size rt RT As.toArray) (va_A wc H.size) := by
  obtain ⟨hx, hb, hr, hml, hown, hts, hlocks, hN⟩ := X
  subst hst
  refine va_runS (As := As) (rest := rest) ⟨hx, hb, hml, hown, hts⟩ (hM H.size) ⟨callB_of n hts (x_good h5) rfl rfl rfl (hts _ h4) (hts _ h1) hd hR, hts _ h2⟩ ⟨fun a U g mk q => ?_, fun U hU hW => ?_⟩ rfl hlen hls rfl (lv_room hroom) hdg hf
  · have hb := PreM.blind D tc wc H.size As a U g mk ⟨q.1, q.2.1⟩
    exact ⟨hb.1, hb.2, q.2.2.blind⟩
  · have hp := x_pre (av := As) V hN isC hC hn U hU hW
    exact ⟨hp.1, hp.2, hE.call V isC hC U hU hW⟩
def j_X3_allows (v0 : Int32) (v1 : Int32) (v2 : Int32) : Option (Int32) :=
  (j_X3_isKind v0).bind (fun r1 => if r1 = (0 : Int32) then some (0 : Int32) else if v1 < (0 : Int32) then some (0 : Int32) else gd v0 7 (if v1 < (acts v0.toNatClampNeg) then if v0 = (4 : Int32) then if v2 < (0 : Int32) then some (0 : Int32) else if (16 : Int32) ≤ v2 then some (0 : Int32) else some (1 : Int32) else if v0 = (5 : Int32) then if v2 < (0 : Int32) then some (0 : Int32) else if (4 : Int32) ≤ v2 then some (0 : Int32) else some (1 : Int32) else some (1 : Int32) else some (0 : Int32)))
set_option maxHeartbeats 4000000 in
set_option maxRecDepth 100000 in
theorem k_X3_allows (l : Launch) (D : va_G) (tc : Nat → ClassId) (ws : va_W) (v0 : Int32) (v1 : Int32) (v2 : Int32) {x0 : Int32} (hj : j_X3_allows v0 v1 v2 = some x0) : MetE l D tc yX3_allows cX3_allows 3 (some .boolean) 1 0 0 20 [.int v0, .int v1, .int v2] (ws) (fun sz U => StA (va_A (ws) sz) U) (fun v w => v = (some (.int x0)) ∧ w = ws) :=
  x_entIE (fun x : Int32 => x) (fun _ : Int32 => ws) (by decide) (own := RX3) rfl (Nat.le_of_ble_eq_true rfl) (fun p e s m args below meth c A Q ls hEx C V hl hret => by
  obtain ⟨tA, hZ, hTT⟩ := id hEx
  obtain ⟨hx, hb, hr, hml, hown, hts, hlk, hN⟩ := id C
  have hRf : 1 ≤ (rmz 1 0 0 20).frames := Nat.le_refl _
  have hRl : 20 ≤ (rmz 1 0 0 20).locals := Nat.le_refl _
  generalize (rmz 1 0 0 20) = R at hret hRf hRl ⊢
  generalize s.heap = H at V ⊢
  generalize ([] : List Loc) = locs at V ⊢
  have hl : lv_has ls 3 [(0, .int v0), (1, .int v1), (2, .int v2)] := hl
  unfold j_X3_allows at hj
  refine lv_iload_n hx hb dX3_allows_0 rfl (lv_at hl 0 rfl) ?_
  obtain ⟨r1, hr1, hj⟩ := bd_some hj
  refine x_allI V _ (rg_map _) (x_runS (n := 1) (rest := []) C V _ (rg_map _) (rg_nd _) (k_X3_isKind l D tc (ws) v0 hr1) tw_247 tw_216 tw_8 tw_217 (by decide +kernel) ⟨Nat.le_trans (Nat.le_of_ble_eq_true rfl) hRf, Nat.le_trans (Nat.le_of_ble_eq_true rfl) hRl⟩ ⟨Nat.zero_le _, Nat.zero_le _⟩ rfl hl.1 rfl (Nat.le_of_ble_eq_true rfl) dX3_allows_1) (fun H locs V zr1 => ?_)
  replace V : Wd D tc A s H locs (ws) := V
  refine lv_if_eq (tgt := 20) hx hb dX3_allows_4 (by decide) (fun c2 => ?_) (fun c2 => ?_)
  · replace hj := ip _ c2 hj
    refine lv_iconst (v := 0) hx hb dX3_allows_20 (by decide) ?_
    exact hret (0 : Int32) hj zn_0 V dX3_allows_21
  · replace hj := iq _ c2 hj
    refine lv_iload_n hx hb dX3_allows_7 rfl (lv_at hl 1 rfl) ?_
    refine lv_if_lt (tgt := 20) hx hb dX3_allows_8 (by decide) (fun c3 => ?_) (fun c3 => ?_)
    · replace hj := ip _ c3 hj
      refine lv_iconst (v := 0) hx hb dX3_allows_20 (by decide) ?_
      exact hret (0 : Int32) hj zn_0 V dX3_allows_21
    · replace hj := iq _ c3 hj
      refine lv_iload_n hx hb dX3_allows_11 rfl (lv_at hl 1 rfl) ?_
      refine va_gets hx hb hZ V.2.2.2.1 hown (hts _ tw_248) (fun _ h => h) dX3_allows_12 ?_
      refine lv_iload_n hx hb dX3_allows_15 rfl (lv_at hl 0 rfl) ?_
      obtain ⟨i4, hj⟩ := gd_some hj
      refine va_ti hx hb hTT V.2.2.2.1 i4 rfl dX3_allows_16 ?_
      refine lv_icmp_lt (tgt := 22) hx hb dX3_allows_17 (by decide) (fun c5 => ?_) (fun c5 => ?_)
      · replace hj := ip _ c5 hj
        refine lv_iload_n hx hb dX3_allows_22 rfl (lv_at hl 0 rfl) ?_
        refine lv_iconst (v := 4) hx hb dX3_allows_23 (by decide) ?_
        refine lv_icmp_ne (tgt := 43) hx hb dX3_allows_24 (by decide) (fun c6 => ?_) (fun c6 => ?_)
        · replace hj := iq _ c6 hj
          refine lv_iload_n hx hb dX3_allows_43 rfl (lv_at hl 0 rfl) ?_
          refine lv_iconst (v := 5) hx hb dX3_allows_44 (by decide) ?_
          refine lv_icmp_ne (tgt := 57) hx hb dX3_allows_45 (by decide) (fun c7 => ?_) (fun c7 => ?_)
          · replace hj := iq _ c7 hj
            refine lv_iconst (v := 1) hx hb dX3_allows_57 (by decide) ?_
            refine lv_goto (tgt := 62) hx hb dX3_allows_58 (by decide) ?_
            exact hret (1 : Int32) hj zn_1 V dX3_allows_62
          · replace hj := ip _ c7 hj
            refine lv_iload_n hx hb dX3_allows_48 rfl (lv_at hl 2 rfl) ?_
            refine lv_if_lt (tgt := 61) hx hb dX3_allows_49 (by decide) (fun c8 => ?_) (fun c8 => ?_)
            · replace hj := ip _ c8 hj
              refine lv_iconst (v := 0) hx hb dX3_allows_61 (by decide) ?_
              exact hret (0 : Int32) hj zn_0 V dX3_allows_62
            · replace hj := iq _ c8 hj
              refine lv_iload_n hx hb dX3_allows_52 rfl (lv_at hl 2 rfl) ?_
              refine lv_iconst (v := 4) hx hb dX3_allows_53 (by decide) ?_
              refine lv_icmp_ge (tgt := 61) hx hb dX3_allows_54 (by decide) (fun c9 => ?_) (fun c9 => ?_)
              · replace hj := ip _ c9 hj
                refine lv_iconst (v := 0) hx hb dX3_allows_61 (by decide) ?_
                exact hret (0 : Int32) hj zn_0 V dX3_allows_62
              · replace hj := iq _ c9 hj
                refine lv_iconst (v := 1) hx hb dX3_allows_57 (by decide) ?_
                refine lv_goto (tgt := 62) hx hb dX3_allows_58 (by decide) ?_
                exact hret (1 : Int32) hj zn_1 V dX3_allows_62
        · replace hj := ip _ c6 hj
          refine lv_iload_n hx hb dX3_allows_27 rfl (lv_at hl 2 rfl) ?_
          refine lv_if_lt (tgt := 41) hx hb dX3_allows_28 (by decide) (fun c10 => ?_) (fun c10 => ?_)
          · replace hj := ip _ c10 hj
            refine lv_iconst (v := 0) hx hb dX3_allows_41 (by decide) ?_
            exact hret (0 : Int32) hj zn_0 V dX3_allows_42
          · replace hj := iq _ c10 hj
            refine lv_iload_n hx hb dX3_allows_31 rfl (lv_at hl 2 rfl) ?_
            refine lv_bipush (v := 16) hx hb dX3_allows_32 (by decide) ?_
            refine lv_icmp_ge (tgt := 41) hx hb dX3_allows_34 (by decide) (fun c11 => ?_) (fun c11 => ?_)
            · replace hj := ip _ c11 hj
              refine lv_iconst (v := 0) hx hb dX3_allows_41 (by decide) ?_
              exact hret (0 : Int32) hj zn_0 V dX3_allows_42
            · replace hj := iq _ c11 hj
              refine lv_iconst (v := 1) hx hb dX3_allows_37 (by decide) ?_
              refine lv_goto (tgt := 42) hx hb dX3_allows_38 (by decide) ?_
              exact hret (1 : Int32) hj zn_1 V dX3_allows_42
      · replace hj := iq _ c5 hj
        refine lv_iconst (v := 0) hx hb dX3_allows_20 (by decide) ?_
        exact hret (0 : Int32) hj zn_0 V dX3_allows_21)
def j_X6_begin_N (t : Nat → Int32) (v1 : Int32) (v2 : Int32) (v3 : Int32) (v4 : Int32) (v5 : Int32) : Option (Int32 × (Nat → Int32)) :=
  some ((-1 : Int32), t)
set_option maxHeartbeats 4000000 in
set_option maxRecDepth 100000 in
theorem k_X6_begin_N (l : Launch) (D : va_G) (tc : Nat → ClassId) (xo : Nat) (xa ad : Nat → Nat) (f g : Nat → Option Nat) (nT nH : Int32) (rest : va_W) (t : Nat → Int32) (v1 : Int32) (v2 : Int32) (v3 : Int32) (v4 : Int32) (v5 : Int32) (hfd : FN nH v1) {x0 : Int32 × (Nat → Int32)} (hj : j_X6_begin_N t v1 v2 v3 v4 v5 = some x0) : MetD l D tc yX6_begin cX6_begin 7 (some .int) 2 42 [.ref xo, .int v1, .int v2, .int v3, .int v4, .int v5] (Bw tc xo xa ad f g nT nH t ++ rest) (some (.int x0.1)) (Bw tc xo xa ad f g nT nH x0.2 ++ rest) :=
  x_entI (fun x : Int32 × (Nat → Int32) => x.1) (fun x : Int32 × (Nat → Int32) => Bw tc xo xa ad f g nT nH x.2 ++ rest) (by decide) (own := RX6) rfl (Nat.le_of_ble_eq_true rfl) (fun p e s m args below meth c A Q ls C V hl hret => by
  obtain ⟨hx, hb, hr, hml, hown, hts, hlk, hN⟩ := id C
  have hRf : 2 ≤ (rmz 2 0 0 42).frames := Nat.le_refl _
  have hRl : 42 ≤ (rmz 2 0 0 42).locals := Nat.le_refl _
  generalize (rmz 2 0 0 42) = R at hret hRf hRl ⊢
  generalize s.heap = H at V ⊢
  generalize ([] : List Loc) = locs at V ⊢
  have hl : lv_has ls 7 [(0, .ref xo), (1, .int v1), (2, .int v2), (3, .int v3), (4, .int v4), (5, .int v5)] := hl
  unfold j_X6_begin_N at hj
  refine lv_aload_n hx hb dX6_begin_0 rfl (lv_at hl 0 rfl) ?_
  refine lv_iload_n hx hb dX6_begin_1 rfl (lv_at hl 1 rfl) ?_
  refine x_allR V _ (rg_map _) (x_runV (n := 1) (rest := []) C V _ (rg_map _) (rg_nd _) (kN_historyOf l D tc xo xa ad f g nT nH t rest v1 hfd) tw_227 tw_229 tp_2 tw_1 tw_230 (by decide +kernel) ⟨Nat.le_trans (Nat.le_of_ble_eq_true rfl) hRf, Nat.le_trans (Nat.le_of_ble_eq_true rfl) hRl⟩ ⟨Nat.zero_le _, Nat.zero_le _⟩ 0 5 rfl rfl rfl hl.1 rfl (Nat.le_of_ble_eq_true rfl) dX6_begin_2) (fun H locs V => ?_)
  replace V : Wd D tc A s H locs (Bw tc xo xa ad f g nT nH t ++ rest) := V
  refine lv_astoreN (lv' := [(6, .null), (0, .ref xo), (1, .int v1), (2, .int v2), (3, .int v3), (4, .int v4), (5, .int v5)]) hx hb dX6_begin_5 hl (by decide) rfl (fun ls hl => ?_)
  refine lv_aloadN hx hb dX6_begin_7 (lv_at hl 0 rfl) ?_
  refine lv_ifnonnullN hx hb dX6_begin_9 ?_
  refine lv_iconst (v := (-1)) hx hb dX6_begin_12 (by decide) ?_
  exact hret ((-1 : Int32), t) hj rfl V dX6_begin_13)
def j_X6_begin_Y (T : TbT) (a6 : Nat) (t : Nat → Int32) (u : St) (sh : Nat) (v1 : Int32) (v2 : Int32) (v3 : Int32) (v4 : Int32) (v5 : Int32) : Option (Int32 × (Nat → Int32) × St × Nat) :=
  if v2 < (0 : Int32) then some ((-2 : Int32), t, u, sh) else if (4 : Int32) ≤ v2 then some ((-2 : Int32), t, u, sh) else (j_X3_allows (u.1 0) v3 v4).bind (fun r3 => if r3 = (0 : Int32) then some ((-2 : Int32), t, u, sh) else (j_X1_isWaiting u v2).bind (fun r5 => if r5 = (0 : Int32) then if (u.1 2) < (10 : Int32) then (j_X1_start u v2 v3 v4 v5).bind (fun ⟨r8, u9⟩ => some (r8, t, u9, sh)) else some ((-4 : Int32), t, u, sh) else some ((-3 : Int32), t, u, sh)))
set_option maxHeartbeats 4000000 in
set_option maxRecDepth 100000 in
theorem k_X6_begin_Y (l : Launch) (D : va_G) (tc : Nat → ClassId) (xo : Nat) (xa ad ta : Nat → Nat) (us : Int32) (T : TbT) (f g : Nat → Option Nat) (nT nH : Int32) (rest : va_W) (t : Nat → Int32) (u : St) (sh : Nat) (v1 : Int32) (v2 : Int32) (v3 : Int32) (v4 : Int32) (v5 : Int32) (hfd : FY nH g (ad 6) v1) {x0 : Int32 × (Nat → Int32) × St × Nat} (hj : j_X6_begin_Y T (ad 6) t u sh v1 v2 v3 v4 v5 = some x0) : MetE l D tc yX6_begin cX6_begin 7 (some .int) 2 0 0 42 [.ref xo, .int v1, .int v2, .int v3, .int v4, .int v5] (Bw tc xo xa ad f g nT nH t ++ (Fw tc ad ta us T sh u ++ rest)) (fun sz U => StA (va_A (Bw tc xo xa ad f g nT nH t ++ (Fw tc ad ta us T sh u ++ rest)) sz) U) (fun v w => v = (some (.int x0.1)) ∧ w = Bw tc xo xa ad f g nT nH x0.2.1 ++ (Fw tc ad ta us T x0.2.2.2 x0.2.2.1 ++ rest)) :=
  x_entIE (fun x : Int32 × (Nat → Int32) × St × Nat => x.1) (fun x : Int32 × (Nat → Int32) × St × Nat => Bw tc xo xa ad f g nT nH x.2.1 ++ (Fw tc ad ta us T x.2.2.2 x.2.2.1 ++ rest)) (by decide) (own := RX6) rfl (Nat.le_of_ble_eq_true rfl) (fun p e s m args below meth c A Q ls hEx C V hl hret => by
  obtain ⟨tA, hZ, hTT⟩ := id hEx
  obtain ⟨hx, hb, hr, hml, hown, hts, hlk, hN⟩ := id C
  have hRf : 2 ≤ (rmz 2 0 0 42).frames := Nat.le_refl _
  have hRl : 42 ≤ (rmz 2 0 0 42).locals := Nat.le_refl _
  generalize (rmz 2 0 0 42) = R at hret hRf hRl ⊢
  generalize s.heap = H at V ⊢
  generalize ([] : List Loc) = locs at V ⊢
  have hl : lv_has ls 7 [(0, .ref xo), (1, .int v1), (2, .int v2), (3, .int v3), (4, .int v4), (5, .int v5)] := hl
  unfold j_X6_begin_Y at hj
  refine lv_aload_n hx hb dX6_begin_0 rfl (lv_at hl 0 rfl) ?_
  refine lv_iload_n hx hb dX6_begin_1 rfl (lv_at hl 1 rfl) ?_
  refine x_allR V _ (rg_map _) (x_runV (n := 1) (rest := []) C V _ (rg_map _) (rg_nd _) (kY_historyOf l D tc xo xa ad f g nT nH t (Fw tc ad ta us T sh u ++ rest) v1 hfd) tw_227 tw_229 tp_2 tw_1 tw_230 (by decide +kernel) ⟨Nat.le_trans (Nat.le_of_ble_eq_true rfl) hRf, Nat.le_trans (Nat.le_of_ble_eq_true rfl) hRl⟩ ⟨Nat.zero_le _, Nat.zero_le _⟩ 0 5 rfl rfl rfl hl.1 rfl (Nat.le_of_ble_eq_true rfl) dX6_begin_2) (fun H locs V => ?_)
  replace V : Wd D tc A s H locs (Bw tc xo xa ad f g nT nH t ++ (Fw tc ad ta us T sh u ++ rest)) := V
  refine lv_astore (lv' := [(6, .ref (ad 6)), (0, .ref xo), (1, .int v1), (2, .int v2), (3, .int v3), (4, .int v4), (5, .int v5)]) hx hb dX6_begin_5 hl (by decide) rfl (fun ls hl => ?_)
  refine lv_aload hx hb dX6_begin_7 (lv_at hl 0 rfl) ?_
  refine lv_ifnonnull (tgt := 14) hx hb dX6_begin_9 (by decide) ?_
  refine lv_iload_n hx hb dX6_begin_14 rfl (lv_at hl 3 rfl) ?_
  refine lv_if_lt (tgt := 37) hx hb dX6_begin_15 (by decide) (fun c1 => ?_) (fun c1 => ?_)
  · replace hj := ip _ c1 hj
    refine lv_bipush (v := (-2)) hx hb dX6_begin_37 (by decide) ?_
    exact hret ((-2 : Int32), t, u, sh) hj rfl V dX6_begin_39
  · replace hj := iq _ c1 hj
    refine lv_iload_n hx hb dX6_begin_18 rfl (lv_at hl 3 rfl) ?_
    refine lv_iconst (v := 4) hx hb dX6_begin_19 (by decide) ?_
    refine lv_icmp_ge (tgt := 37) hx hb dX6_begin_20 (by decide) (fun c2 => ?_) (fun c2 => ?_)
    · replace hj := ip _ c2 hj
      refine lv_bipush (v := (-2)) hx hb dX6_begin_37 (by decide) ?_
      exact hret ((-2 : Int32), t, u, sh) hj rfl V dX6_begin_39
    · replace hj := iq _ c2 hj
      refine lv_aload hx hb dX6_begin_23 (lv_at hl 0 rfl) ?_
      refine x_get hx hb hts hown V inX1 9 rfl rfl 0 (by decide) tw_38 rfl rfl dX6_begin_25 ?_
      refine lv_iload_n hx hb dX6_begin_28 rfl (lv_at hl 4 rfl) ?_
      refine lv_iload hx hb dX6_begin_29 (lv_at hl 5 rfl) ?_
      obtain ⟨r3, hr3, hj⟩ := bd_some hj
      refine x_allI V _ (rg_map _) (x_runSE (n := 3) (rest := []) hEx C V _ (rg_map _) (rg_nd _) (k_X3_allows l D tc (Bw tc xo xa ad f g nT nH t ++ (Fw tc ad ta us T sh u ++ rest)) (u.1 0) v3 v4 hr3) tw_244 tw_245 tw_8 tw_246 (by decide +kernel) ⟨Nat.le_trans (Nat.le_of_ble_eq_true rfl) hRf, Nat.le_trans (Nat.le_of_ble_eq_true rfl) hRl⟩ ⟨Nat.zero_le _, Nat.zero_le _⟩ rfl hl.1 rfl (Nat.le_of_ble_eq_true rfl) dX6_begin_31) (fun H locs V zr3 => ?_)
      replace V : Wd D tc A s H locs (Bw tc xo xa ad f g nT nH t ++ (Fw tc ad ta us T sh u ++ rest)) := V
      refine lv_if_ne (tgt := 40) hx hb dX6_begin_34 (by decide) (fun c4 => ?_) (fun c4 => ?_)
      · replace hj := iq _ c4 hj
        refine lv_aload hx hb dX6_begin_40 (lv_at hl 0 rfl) ?_
        refine lv_iload_n hx hb dX6_begin_42 rfl (lv_at hl 3 rfl) ?_
        obtain ⟨r5, hr5, hj⟩ := bd_some hj
        refine x_midI (w0 := Bw tc xo xa ad f g nT nH t) (wr := rest) V (x_runV (n := 1) (rest := []) C V _ (mid_map _ _ _) (mid_nd _ _) (k_X1_isWaiting l D tc ad ta us T sh u v2 hr5) tw_250 tw_251 tw_252 tw_3 tw_253 (by decide +kernel) ⟨Nat.le_trans (Nat.le_of_ble_eq_true rfl) hRf, Nat.le_trans (Nat.le_of_ble_eq_true rfl) hRl⟩ ⟨Nat.zero_le _, Nat.zero_le _⟩ 9 1 rfl rfl rfl hl.1 rfl (Nat.le_of_ble_eq_true rfl) dX6_begin_43) (fun H locs V zr5 => ?_)
        replace V : Wd D tc A s H locs (Bw tc xo xa ad f g nT nH t ++ (Fw tc ad ta us T sh u ++ rest)) := V
        refine lv_if_eq (tgt := 52) hx hb dX6_begin_46 (by decide) (fun c6 => ?_) (fun c6 => ?_)
        · replace hj := ip _ c6 hj
          refine lv_aload hx hb dX6_begin_52 (lv_at hl 0 rfl) ?_
          refine x_get hx hb hts hown V inX1 9 rfl rfl 2 (by decide) tw_43 rfl rfl dX6_begin_54 ?_
          refine lv_bipush (v := 10) hx hb dX6_begin_57 (by decide) ?_
          refine lv_icmp_lt (tgt := 65) hx hb dX6_begin_59 (by decide) (fun c7 => ?_) (fun c7 => ?_)
          · replace hj := ip _ c7 hj
            refine lv_aload hx hb dX6_begin_65 (lv_at hl 0 rfl) ?_
            refine lv_iload_n hx hb dX6_begin_67 rfl (lv_at hl 3 rfl) ?_
            refine lv_iload_n hx hb dX6_begin_68 rfl (lv_at hl 4 rfl) ?_
            refine lv_iload hx hb dX6_begin_69 (lv_at hl 5 rfl) ?_
            refine lv_iload hx hb dX6_begin_71 (lv_at hl 6 rfl) ?_
            obtain ⟨⟨r8, u9⟩, hr8, hj⟩ := bd_some hj
            refine x_midI (w0 := Bw tc xo xa ad f g nT nH t) (wr := rest) V (x_runV (n := 4) (rest := []) C V _ (mid_map _ _ _) (mid_nd _ _) (k_X1_start l D tc ad ta us T sh u v2 v3 v4 v5 hr8) tw_254 tw_255 tw_256 tw_3 tw_257 (by decide +kernel) ⟨Nat.le_trans (Nat.le_of_ble_eq_true rfl) hRf, Nat.le_trans (Nat.le_of_ble_eq_true rfl) hRl⟩ ⟨Nat.zero_le _, Nat.zero_le _⟩ 9 1 rfl rfl rfl hl.1 rfl (Nat.le_of_ble_eq_true rfl) dX6_begin_73) (fun H locs V zr8 => ?_)
            replace V : Wd D tc A s H locs (Bw tc xo xa ad f g nT nH t ++ (Fw tc ad ta us T sh u9 ++ rest)) := V
            exact hret (r8, t, u9, sh) hj rfl V dX6_begin_76
          · replace hj := iq _ c7 hj
            refine lv_bipush (v := (-4)) hx hb dX6_begin_62 (by decide) ?_
            exact hret ((-4 : Int32), t, u, sh) hj rfl V dX6_begin_64
        · replace hj := iq _ c6 hj
          refine lv_bipush (v := (-3)) hx hb dX6_begin_49 (by decide) ?_
          exact hret ((-3 : Int32), t, u, sh) hj rfl V dX6_begin_51
      · replace hj := ip _ c4 hj
        refine lv_bipush (v := (-2)) hx hb dX6_begin_37 (by decide) ?_
        exact hret ((-2 : Int32), t, u, sh) hj rfl V dX6_begin_39)
