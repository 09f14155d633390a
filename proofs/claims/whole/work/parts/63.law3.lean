/-! THE CLAIM OUT OF ONE WALK OF THE LAW'S BODY. Your part is whole_start (and what it stands on); all else here is the same for every law, but numbers. -/
def R_law : String := "HistoryCourtLaw"
def lw_P (b : Addr) (xs : List Int32) (args : Array Value) (s : State) : Prop := args = #[.ref b] ∧ s.IntsAt b xs ∧ xs.length ≤ 3072 ∧ (Jvm.Cond.and given_1 narrow_1).before args s = true
def lw_Q (_ : Array Value) (s : State) (o : Outcome) (t : State) : Prop := o = .returned (some (.int 1)) ∧ Framed s o t [] 600000 7302250
def lw_Z (below : List Frame) (a : Array Value) (s : State) : State → Prop := fun t => ∃ o, t.status = .running ∧ Ended t below o ∧ lw_Q a s o t
/-- the law's own end, with 1 on the stack, nothing written that was there before, its room as the claim has it -/
theorem lw_ret {p : Program} {l : Launch} {e : Env} {s : State} {m : MethodId} {below : List Frame} {meth : Method} {c : Code} {b : Nat} (hx : p.tables.exec = Jvm.exec) (hb : c.code = code) (hr : meth.sig.returnType = ret) (hlocks : meth.locks = false) {pc : Nat} {H : Heap} {ls : Array Slot} (hdg : decode code pc = .ok (.ireturn, 1)) : W p l e room_1 s m #[Value.ref b] below meth c H [] 600000 7302250 (lw_Z below #[Value.ref b] s) (F0 m pc ls [.int 1]) := by
  intro T hT X
  obtain ⟨fs, hret, hrun, hended, hW, hframe⟩ := X.leave (v := some (.int 1)) (hlocks := hlocks) (fun h => by rw [hr] at h; cases h)
  have hmeth' : T.vm.method? m = some meth := X.method'
  refine ⟨T.setFrames fs, ?_, .returned (some (.int 1)), hrun, hended, rfl, ⟨_, rfl⟩, hW, hframe⟩
  jvm_step X.here [X.here.top, hx, hb, hdg, hmeth', hr, ret, narrow_b1]
  (try refine ⟨rfl, ?_⟩); (try refine ⟨rfl, ?_⟩)
  first | (intro acts; rw [hret _ acts rfl rfl rfl]) | rw [hret _ _ rfl rfl rfl]
  exact Steps.refl _
/-- what holds at the law's entry: the machine, the code, the tables' words (any of lw_tbl by 'hts w (by decide +kernel)'), the script of L ints xs at the cell b, what the Statement gives of the start (any of its parts by flat_of_before) -/
def lw_At (p : Program) (s : State) (m : MethodId) (meth : Method) (c : Code) (b L : Nat) (xs : Nat → Int32) : Prop :=
  p.tables.exec = Jvm.exec ∧ c.code = code ∧ meth.sig.returnType = ret ∧ c.maxLocals = 4 ∧ s.vm.findClass R_law = some m.cls ∧ (∀ w ∈ lw_tbl, w.before #[Value.ref b] s = true) ∧ va_X b L xs s s.heap ∧ b < s.heap.size ∧ meth.locks = false ∧ (Jvm.Cond.and given_1 narrow_1).before #[Value.ref b] s = true

/-- all that the pure side gives -/
def Facts (Inv : IVT) : Prop := FcB Inv ∧ FcM Inv ∧ Fc_machine Inv ∧ Fc_row Inv ∧ Fc_history Inv ∧ Fc_copy Inv ∧ Fc_begin Inv ∧ Fc_answer Inv ∧ Fc_alter Inv ∧ Fc_status Inv ∧ Fc_answered Inv ∧ Fc_call Inv ∧ Fc_about Inv ∧ Fc_ahead Inv ∧ Fc_judge Inv ∧ Fc_first Inv ∧ Fc_orders Inv ∧ Fc_least Inv ∧ Fc_part Inv ∧ Fc_fills Inv ∧ Fc_fill Inv ∧ Fc_apart Inv ∧ Fc_rules Inv ∧ Fc_say Inv ∧ Fc_check Inv
theorem x_runIE {p : Program} {l : Launch} {e : Env} {R : Room} {s : State} {m : MethodId} {args : Array Value} {below : List Frame} {meth : Method} {c : Code} {H : Heap} {locs : List Loc} {cells slots : Nat} {cc : ByteArray} {nL : Nat} {own : String} {ret : Option FieldType} {D : va_G} {tc : Nat → ClassId} {A : Nat → Prop} {ws : va_W} {pc : Nat} {ls : Array Slot} {rest : List Value} {y : MethodName} {bytes : ByteArray} {maxL fr mc ms lo n index : Nat} {wc : va_W} {RT : Option Value → va_W → Prop} {b : Nat} {As st0 : List Value} (hE : va_AO "HistoryCourt$History" s ∧ va_AO "HistoryCourt$Table" s) (X : Cx p s m args meth c cc nL own ret) (V : Wd D tc A s H locs ws) (isC : List Nat) (hC : isC.map (fun i => ws[i]?) = wc.map some) (hn : va_nd isC = true)
    (hM : MetE l D tc y bytes maxL none fr mc ms lo (.ref b :: As) wc (fun _ U => va_AO "HistoryCourt$History" U ∧ va_AO "HistoryCourt$Table" U) RT) (h1 : Cond.methodLink own index y ∈ lw_g) (h2 : Cond.instanceMethod y ∈ lw_g) (h4 : Cond.initialized y.cls ∈ lw_g) (h5 : Cond.code y bytes maxL none ∈ lw_g) (hy1 : y.name = "<init>")
    (hd : y.cls ≠ "java/lang/invoke/MethodHandle" ∧ y.cls ≠ "java/lang/invoke/VarHandle" ∧ (parseMethodDescriptor y.desc).map (fun d => d.parameters.length) = some n) (hR : fr + 1 ≤ R.frames ∧ 8 + (maxL + 11) + lo ≤ R.locals) (hf : cells + mc ≤ R.cells ∧ slots + ms ≤ R.slots)
    (hlen : As.length = n) (hls : ls.size = nL) (hst : st0 = As.reverse ++ .ref b :: rest) (hroom : (rest.map fun v => v.category).sum ≤ 8) (hdg : decode cc pc = .ok (.invokespecial index, 3)) :
    va_Run p l e R s m args below meth c H locs cells slots mc ms (F0 m pc ls st0) rest (QcM D wc H.size none RT (Value.ref b :: As).toArray) (va_A wc H.size) := by
  obtain ⟨hx, hb, hr, hml, hown, hts, hlocks, hN⟩ := X
  subst hst
  refine va_runI (As := As) (rest := rest) ⟨hx, hb, hml, hown, hts⟩ (hM H.size) ⟨callB_of n hts (x_good h5) rfl rfl rfl (hts _ h4) (hts _ h1) hd hR, hy1, hts _ h2⟩ ⟨fun a U g mk q => ?_, fun U hU hW => ?_⟩ rfl hlen hls rfl (lv_room hroom) hdg hf
  · have hb := PreM.blind D tc wc H.size (.ref b :: As) a U g mk ⟨q.1, q.2.1⟩
    exact ⟨hb.1, hb.2, va_AO.moved (u := U) (U := U.calling g mk a) (Vm.Alike.refl U.vm) q.2.2.1, va_AO.moved (u := U) (U := U.calling g mk a) (Vm.Alike.refl U.vm) q.2.2.2⟩
  · have hp := x_pre (av := .ref b :: As) V hN isC hC hn U hU hW
    exact ⟨hp.1, hp.2, va_AO.moved hW.alike hE.1, va_AO.moved hW.alike hE.2⟩
theorem law_le {L i0 : Nat} (hL : L ≤ 3072) (hi : i0 ≤ L) (h : ¬ nI L - 6 < nI i0) : i0 + 6 ≤ L := by
  have e1 : (nI L - nI 6).toInt = (L : Int) - 6 := pk_sub_toInt (by omega) (by decide)
  have e2 : (nI i0).toInt = (i0 : Int) := nI_toInt (by omega)
  have h2 : ¬ (nI L - nI 6).toInt < (nI i0).toInt := fun z => h (Int32.lt_iff_toInt_lt.mpr z)
  omega
set_option maxHeartbeats 8000000 in
set_option maxRecDepth 100000 in
theorem law_loop {p : Program} {l : Launch} {e : Env} {s : State} {m : MethodId} {below : List Frame} {meth : Method} {c : Code} {D : va_G} {tc : Nat → ClassId} {b L xo mo : Nat} {mad : Nat → Nat} {xs : Nat → Int32} {Inv : IVT} (F : Facts Inv) (C : Cx p s m #[Value.ref b] meth c cL_law 4 RL ret) (hE : StA (fun q : Nat => s.heap.size ≤ q) s) (hX : va_X b L xs s s.heap) (hbl : b < s.heap.size) (hL : L ≤ 3072) :
    ∀ (n i0 : Nat), i0 ≤ L → L + 1 ≤ i0 + n → ∀ (t : Nat → Int32) (gs : St) (hs : Nat → St) (kt : Nat → Option Nat) (tu : Nat → Int32) (tq : Nat → (Nat → Int32) × (Nat → Int32)) (nT nH : Nat) (U : St) (xa ad : Nat → Nat) (ta ha : Nat → Nat → Nat) (sh : Nat) (H : Heap) (locs : List Loc) (ls : Array Slot), Inv i0 t gs hs kt tu tq nT nH U →
    Wd D tc (fun q : Nat => s.heap.size ≤ q) s H locs (Xw tc xo xa ad ta ha sh t gs hs kt tu tq nT nH ++ (Mw tc mo mad U ++ [])) → lv_has ls 4 [(0, .ref b), (1, .ref xo), (2, .ref mo), (3, .int (nI i0))] →
    W p l e room_1 s m #[Value.ref b] below meth c H locs (60 + 2 * i0) (13000 + 14 * i0) (lw_Z below #[Value.ref b] s) (F0 m 18 ls []) := by
  obtain ⟨hx, hb, hr, hml, hown, hts, hlk, hN⟩ := id C
  have hbA : ¬ (fun q : Nat => s.heap.size ≤ q) b := Nat.not_le.mpr hbl
  intro n
  induction n with
  | zero =>
    intro i0 h1 h2
    exact absurd h2 (by omega)
  | succ n ih =>
    intro i0 hi hin t gs hs kt tu tq nT nH U xa ad ta ha sh H locs ls hI V hl
    have hn : LNext p l e s m below meth c (lw_Z below #[Value.ref b] s) D tc b xo mo mad Inv i0 ∨ ¬ i0 + 6 ≤ L := by
      by_cases h6 : i0 + 6 ≤ L
      · refine Or.inl ?_
        intro t gs hs kt tu tq nT nH U xa ad ta ha sh H locs ls hI V hl
        refine lv_iinc (v := nI (i0 + 6)) (lv' := [(3, .int (nI (i0 + 6))), (0, .ref b), (1, .ref xo), (2, .ref mo)]) hx hb dL_law_950 hl (k := 3) rfl (by rw [← nI_add]; rfl) (by decide) rfl (fun ls hl => ?_)
        refine lv_goto (tgt := 18) hx hb dL_law_953 (by decide) ?_
        refine W.widen (k := 60 + 2 * (i0 + 6)) (n := 13000 + 14 * (i0 + 6)) (by omega) (by omega) ?_
        exact ih (i0 + 6) h6 (by omega) t gs hs kt tu tq nT nH U xa ad ta ha sh H locs ls hI V (lv_sub hl [1, 2, 3, 0] rfl)
      · exact Or.inr h6
    refine lv_iload_n hx hb dL_law_18 rfl (lv_at hl 3 rfl) ?_
    refine lv_aload_n hx hb dL_law_19 rfl (lv_at hl 0 rfl) ?_
    refine va_slen hx hb hX hbl hbA V.2.2.2.1 dL_law_20 ?_
    refine lv_bipush (v := 6) hx hb dL_law_21 (by decide) ?_
    refine lv_isub hx hb dL_law_23 ?_
    refine lv_icmp_gt (tgt := 956) hx hb dL_law_24 (by decide) (fun _ => ?_) (fun c1 => ?_)
    · refine lv_iconst (v := 1) hx hb dL_law_956 (by decide) ?_
      refine va_forget (fun q hq => V.2.2.2.1.2.2 q hq) ?_
      refine W.widen (k := 600000) (n := 7302250) (by omega) (by omega) ?_
      exact lw_ret hx hb hr hlk dL_law_957
    have hi6 : i0 + 6 ≤ L := law_le hL hi c1
    have hn := hn.resolve_right (fun z => z hi6)
    refine lv_aload_n hx hb dL_law_27 rfl (lv_at hl 0 rfl) ?_
    refine lv_iload_n hx hb dL_law_28 rfl (lv_at hl 3 rfl) ?_
    refine va_sld hx hb hX hbl hbA V.2.2.2.1 (vp_in_nI (by omega) (by omega)) dL_law_29 ?_
    refine lv_bipush (v := 31) hx hb dL_law_30 (by decide) ?_
    refine lv_iand hx hb dL_law_32 ?_
    obtain ⟨j, hj, ej⟩ := pk_andE (xs (nI i0).toNatClampNeg) (m := 31) 5 (by decide)
    refine x_topi ej.symm ?_
    by_cases h0 : j = 0
    · subst h0
      refine lv_tableIn (off := 107) (tgt := 140) hx hb dL_law_33 (by decide) (by decide) rfl (by decide) ?_
      exact law_machine C hX hbl hL hi6 hn F.1 hI V hl F.2.2.1
    by_cases h1 : j = 1
    · subst h1
      refine lv_tableIn (off := 120) (tgt := 153) hx hb dL_law_33 (by decide) (by decide) rfl (by decide) ?_
      exact law_row C hX hbl hL hi6 hn F.1 hI V hl F.2.2.2.1
    by_cases h2 : j = 2
    · subst h2
      refine lv_tableIn (off := 183) (tgt := 216) hx hb dL_law_33 (by decide) (by decide) rfl (by decide) ?_
      exact law_history C hX hbl hL hi6 hn F.1 hI V hl F.2.2.2.2.1
    by_cases h3 : j = 3
    · subst h3
      refine lv_tableIn (off := 216) (tgt := 249) hx hb dL_law_33 (by decide) (by decide) rfl (by decide) ?_
      exact law_copy C hX hbl hL hi6 hn F.1 hI V hl F.2.2.2.2.2.1
    by_cases h4 : j = 4
    · subst h4
      refine lv_tableIn (off := 239) (tgt := 272) hx hb dL_law_33 (by decide) (by decide) rfl (by decide) ?_
      exact law_begin C hX hbl hL hi6 hn F.1 hI V hl hE F.2.2.2.2.2.2.1
    by_cases h5 : j = 5
    · subst h5
      refine lv_tableIn (off := 302) (tgt := 335) hx hb dL_law_33 (by decide) (by decide) rfl (by decide) ?_
      exact law_answer C hX hbl hL hi6 hn F.1 hI V hl F.2.2.2.2.2.2.2.1
    by_cases h6 : j = 6
    · subst h6
      refine lv_tableIn (off := 345) (tgt := 378) hx hb dL_law_33 (by decide) (by decide) rfl (by decide) ?_
      exact law_alter C hX hbl hL hi6 hn F.1 hI V hl F.2.2.2.2.2.2.2.2.1
    by_cases h7 : j = 7
    · subst h7
      refine lv_tableIn (off := 388) (tgt := 421) hx hb dL_law_33 (by decide) (by decide) rfl (by decide) ?_
      exact law_status C hX hbl hL hi6 hn F.1 hI V hl F.2.2.2.2.2.2.2.2.2.1
    by_cases h8 : j = 8
    · subst h8
      refine lv_tableIn (off := 401) (tgt := 434) hx hb dL_law_33 (by decide) (by decide) rfl (by decide) ?_
      exact law_answered C hX hbl hL hi6 hn F.1 hI V hl F.2.2.2.2.2.2.2.2.2.2.1
    by_cases h9 : j = 9
    · subst h9
      refine lv_tableIn (off := 434) (tgt := 467) hx hb dL_law_33 (by decide) (by decide) rfl (by decide) ?_
      exact law_call C hX hbl hL hi6 hn F.1 hI V hl F.2.2.2.2.2.2.2.2.2.2.2.1
    by_cases h10 : j = 10
    · subst h10
      refine lv_tableIn (off := 477) (tgt := 510) hx hb dL_law_33 (by decide) (by decide) rfl (by decide) ?_
      exact law_about C hX hbl hL hi6 hn F.1 hI V hl F.2.2.2.2.2.2.2.2.2.2.2.2.1
    by_cases h11 : j = 11
    · subst h11
      refine lv_tableIn (off := 510) (tgt := 543) hx hb dL_law_33 (by decide) (by decide) rfl (by decide) ?_
      exact law_ahead C hX hbl hL hi6 hn F.1 hI V hl F.2.2.2.2.2.2.2.2.2.2.2.2.2.1
    by_cases h12 : j = 12
    · subst h12
      refine lv_tableIn (off := 563) (tgt := 596) hx hb dL_law_33 (by decide) (by decide) rfl (by decide) ?_
      exact law_judge C hX hbl hL hi6 hn F.1 hI V hl F.2.2.2.2.2.2.2.2.2.2.2.2.2.2.1
    by_cases h13 : j = 13
    · subst h13
      refine lv_tableIn (off := 596) (tgt := 629) hx hb dL_law_33 (by decide) (by decide) rfl (by decide) ?_
      exact law_first C hX hbl hL hi6 hn F.1 hI V hl F.2.2.2.2.2.2.2.2.2.2.2.2.2.2.2.1
    by_cases h14 : j = 14
    · subst h14
      refine lv_tableIn (off := 639) (tgt := 672) hx hb dL_law_33 (by decide) (by decide) rfl (by decide) ?_
      exact law_orders C hX hbl hL hi6 hn F.1 hI V hl F.2.2.2.2.2.2.2.2.2.2.2.2.2.2.2.2.1
    by_cases h15 : j = 15
    · subst h15
      refine lv_tableIn (off := 673) (tgt := 706) hx hb dL_law_33 (by decide) (by decide) rfl (by decide) ?_
      exact law_least C hX hbl hL hi6 hn F.1 hI V hl F.2.2.2.2.2.2.2.2.2.2.2.2.2.2.2.2.2.1
    by_cases h16 : j = 16
    · subst h16
      refine lv_tableIn (off := 706) (tgt := 739) hx hb dL_law_33 (by decide) (by decide) rfl (by decide) ?_
      exact law_part C hX hbl hL hi6 hn F.1 hI V hl F.2.2.2.2.2.2.2.2.2.2.2.2.2.2.2.2.2.2.1
    by_cases h17 : j = 17
    · subst h17
      refine lv_tableIn (off := 729) (tgt := 762) hx hb dL_law_33 (by decide) (by decide) rfl (by decide) ?_
      exact law_fills C hX hbl hL hi6 hn F.1 hI V hl F.2.2.2.2.2.2.2.2.2.2.2.2.2.2.2.2.2.2.2.1
    by_cases h18 : j = 18
    · subst h18
      refine lv_tableIn (off := 772) (tgt := 805) hx hb dL_law_33 (by decide) (by decide) rfl (by decide) ?_
      exact law_fill C hX hbl hL hi6 hn F.1 hI V hl F.2.2.2.2.2.2.2.2.2.2.2.2.2.2.2.2.2.2.2.2.1
    by_cases h19 : j = 19
    · subst h19
      refine lv_tableIn (off := 795) (tgt := 828) hx hb dL_law_33 (by decide) (by decide) rfl (by decide) ?_
      exact law_apart C hX hbl hL hi6 hn F.1 hI V hl F.2.2.2.2.2.2.2.2.2.2.2.2.2.2.2.2.2.2.2.2.2.1
    by_cases h20 : j = 20
    · subst h20
      refine lv_tableIn (off := 838) (tgt := 871) hx hb dL_law_33 (by decide) (by decide) rfl (by decide) ?_
      exact law_rules C hX hbl hL hi6 hn F.1 hI V hl F.2.2.2.2.2.2.2.2.2.2.2.2.2.2.2.2.2.2.2.2.2.2.1
    by_cases h21 : j = 21
    · subst h21
      refine lv_tableIn (off := 861) (tgt := 894) hx hb dL_law_33 (by decide) (by decide) rfl (by decide) ?_
      exact law_say C hX hbl hL hi6 hn F.1 hI V hl F.2.2.2.2.2.2.2.2.2.2.2.2.2.2.2.2.2.2.2.2.2.2.2.1
    by_cases h22 : j = 22
    · subst h22
      refine lv_tableIn (off := 884) (tgt := 917) hx hb dL_law_33 (by decide) (by decide) rfl (by decide) ?_
      exact law_check C hX hbl hL hi6 hn F.1 hI V hl F.2.2.2.2.2.2.2.2.2.2.2.2.2.2.2.2.2.2.2.2.2.2.2.2
    refine lv_tableOut (tgt := 950) hx hb dL_law_33 (Or.inr (by rw [nI_toInt (by omega)]; omega)) (by decide) ?_
    refine W.widen (k := 72 + 2 * i0) (n := 13084 + 14 * i0) (by omega) (by omega) ?_
    exact hn t gs hs kt tu tq nT nH U xa ad ta ha sh H locs ls (F.2.1 i0 (by omega) _ _ _ _ _ _ _ _ _ hI) V hl
