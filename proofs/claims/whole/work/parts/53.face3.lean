/-! ===== blocks in another order ===== -/
def blk {α : Type} (bs : List (List α)) (is : List Nat) : List α := is.flatMap (fun k => bs.getD k [])
theorem blk_perm {α : Type} (bs : List (List α)) {is js : List Nat} (h : is.Perm js) : (blk bs is).Perm (blk bs js) := by
  induction h with
  | nil => exact List.Perm.refl _
  | cons x _ ih =>
    show (bs.getD x [] ++ blk bs _).Perm (bs.getD x [] ++ blk bs _)
    exact List.Perm.append_left _ ih
  | swap x y l =>
    show (bs.getD y [] ++ (bs.getD x [] ++ blk bs l)).Perm (bs.getD x [] ++ (bs.getD y [] ++ blk bs l))
    rw [← List.append_assoc, ← List.append_assoc]
    exact List.Perm.append_right _ List.perm_append_comm
  | trans _ _ h1 h2 => exact h1.trans h2
section FACE3
variable {p : Program} {l : Launch} {e : Env} {R : Room} {s : State} {m : MethodId} {args : Array Value} {below : List Frame} {meth : Method} {c : Code} {H : Heap} {locs : List Loc} {cells slots : Nat} {Q : State → Prop}
variable {cc : ByteArray} {nL : Nat} {own : String} {ret : Option FieldType} {D : va_G} {tc : Nat → ClassId} {A : Nat → Prop} {pc : Nat} {ls : Array Slot} {rest : List Value} {ws : va_W}
variable {xo : Nat} {xa ad : Nat → Nat} {ta ha : Nat → Nat → Nat} {sh : Nat} {t : Nat → Int32} {gs : St} {hs : Nat → St} {kt : Nat → Option Nat} {tu : Nat → Int32} {tq : Nat → (Nat → Int32) × (Nat → Int32)} {nT nH : Nat} {wr : va_W}
theorem x_runVE {y : MethodName} {bytes : ByteArray} {maxL fr mc ms lo n index : Nat} {rt : Option FieldType} {wc : va_W} {RT : Option Value → va_W → Prop} {C : String} {b : Nat} {As st0 : List Value} (hE : StA A s) (X : Cx p s m args meth c cc nL own ret) (V : Wd D tc A s H locs ws) (isC : List Nat) (hC : isC.map (fun i => ws[i]?) = wc.map some) (hn : va_nd isC = true)
    (hM : MetE l D tc y bytes maxL rt fr mc ms lo (.ref b :: As) wc (fun sz U => StA (va_A wc sz) U) RT) (h1 : Cond.methodLink own index y ∈ lw_g) (h2 : Cond.instanceMethod y ∈ lw_g) (h3 : Cond.selects C y y ∈ lw_g) (h4 : Cond.initialized C ∈ lw_g) (h5 : Cond.code y bytes maxL rt ∈ lw_g)
    (hd : y.cls = C ∧ y.cls ≠ "java/lang/invoke/MethodHandle" ∧ y.cls ≠ "java/lang/invoke/VarHandle" ∧ (parseMethodDescriptor y.desc).map (fun d => d.parameters.length) = some n) (hR : fr + 1 ≤ R.frames ∧ 8 + (maxL + 11) + lo ≤ R.locals) (hf : cells + mc ≤ R.cells ∧ slots + ms ≤ R.slots)
    (q0 ci : Nat) {fs : List Value} {T : u_T} {N : Nat} (he : ws[q0]? = some (b, .inr (ci, fs))) (hc : vwCl[ci]? = some (C, T, N)) (hlen : As.length = n) (hls : ls.size = nL) (hst : st0 = As.reverse ++ .ref b :: rest) (hroom : (rest.map fun v => v.category).sum ≤ 8) (hdg : decode cc pc = .ok (.invokevirtual index, 3)) :
    va_Run p l e R s m args below meth c H locs cells slots mc ms (F0 m pc ls st0) rest (QcM D wc H.size rt RT (Value.ref b :: As).toArray) (va_A wc H.size) := by
  obtain ⟨hx, hb, hr, hml, hown, hts, hlocks, hN⟩ := X
  have cw : CallW R s args own C index y bytes maxL rt (Cond.code y bytes maxL rt :: lw_g) (rmz fr mc ms lo) mc ms n := by
    refine cwV n hts ?_ rfl rfl rfl hd hR
    intro w hw
    have hg := x_good h5
    simp only [wsV, List.cons_append, List.nil_append, List.mem_cons] at hw
    rcases hw with rfl | rfl | rfl | rfl | hw
    · exact ⟨h1, good_of_word (lw_gg _ h1)⟩
    · exact ⟨h2, good_of_word (lw_gg _ h2)⟩
    · exact ⟨h3, good_of_word (lw_gg _ h3)⟩
    · exact ⟨h4, good_of_word (lw_gg _ h4)⟩
    · exact hg w (List.mem_cons.mpr hw)
  subst hst
  refine va_runV (As := As) (rest := rest) ⟨hx, hb, hml, hown, hts⟩ (hM H.size) cw ⟨fun a U g mk q => ?_, va_recv V.1 V.2.1 hc he, fun U hU hW => ?_⟩ rfl hlen hls rfl (lv_room hroom) hdg hf
  · have hb := PreM.blind D tc wc H.size (.ref b :: As) a U g mk ⟨q.1, q.2.1⟩
    exact ⟨hb.1, hb.2, q.2.2.blind⟩
  · have hp := x_pre (av := .ref b :: As) V hN isC hC hn U hU hW
    exact ⟨hp.1, hp.2, hE.call V isC hC U hU hW⟩
/-- begin() -/
theorem cl_begin {index : Nat} {st0 : List Value} {h a1 a2 a3 a4 : Int32} (hE : StA A s) (X : Cx p s m args meth c cc nL own ret) (V : Wd D tc A s H locs (Xw tc xo xa ad ta ha sh t gs hs kt tu tq nT nH ++ wr)) (h12 : nH ≤ 12) (hk : ∀ i, i < nH → ∀ j, kt i = some j → j < nT)
    (Post : Int32 → (Nat → Int32) → St → (Nat → St) → Prop)
    (PY : ∀ i, i < nH → h = nI i → ∃ (r : Int32) (t' : Nat → Int32) (u' : St) (sh' : Nat), j_X6_begin_Y (Tq tq (kt i)) (ha i 6) t (mrg gs (hs i)) sh h a1 a2 a3 a4 = some (r, t', u', sh') ∧ Post r t' u' (fun k => if k = i then u' else hs k))
    (PN : FN (nI nH) h → ∃ (r : Int32) (t' : Nat → Int32), j_X6_begin_N t h a1 a2 a3 a4 = some (r, t') ∧ Post r t' gs hs)
    (h1 : Cond.methodLink own index yX6_begin ∈ lw_g) (hRf : 4 ≤ R.frames) (hRl : 200 ≤ R.locals) (hf : cells ≤ R.cells ∧ slots ≤ R.slots) (hls : ls.size = nL) (hst : st0 = .int a4 :: .int a3 :: .int a2 :: .int a1 :: .int h :: .ref xo :: rest) (hroom : (rest.map fun v => v.category).sum ≤ 8) (hdg : decode cc pc = .ok (.invokevirtual index, 3))
    (kk : ∀ (r : Int32) (t' : Nat → Int32) (gs' : St) (hs' : Nat → St) (sh' : Nat), Post r t' gs' hs' → ∀ (H1 : Heap) (locs1 : List Loc), Wd D tc A s H1 locs1 (Xw tc xo xa ad ta ha sh' t' gs' hs' kt tu tq nT nH ++ wr) → W p l e R s m args below meth c H1 locs1 cells slots Q (F0 m (pc + 3) ls (.int r :: rest))) :
    W p l e R s m args below meth c H locs cells slots Q (F0 m pc ls st0) := by
  rcases FN_or nH (by omega) h with hn | ⟨i, hi, rfl⟩
  · obtain ⟨r, t', hj, hp⟩ := PN hn
    rw [Xw_flat] at V
    refine x_allI V _ (rg_map _) (cl_run (n := 5) X V (k_X6_begin_N l D tc _ _ _ _ _ _ _ _ _ h a1 a2 a3 a4 hn hj) h1 (by decide +kernel) (by decide +kernel) (by decide +kernel) (by decide +kernel) ⟨by omega, by omega⟩ hf rfl hls hst hroom hdg) (fun H1 l1 V1 _ => ?_)
    refine kk r t' gs hs sh hp H1 l1 ?_
    rw [Xw_flat]
    exact V1
  · obtain ⟨r, t', u', sh', hj, hp⟩ := PY i hi rfl
    have V2 := V.perm ((Xw_focus i hi (hk i hi)).append_right wr)
    rw [List.append_assoc, List.append_assoc] at V2
    refine x_allI V2 _ (rg_map _) (x_runVE (n := 5) (As := [.int (nI i), .int a1, .int a2, .int a3, .int a4]) (rest := rest) hE X V2 _ (rg_map _) (rg_nd _) (k_X6_begin_Y l D tc xo xa (adi ad (ha i)) (Tt ta (kt i)) (Tu tu (kt i)) (Tq tq (kt i)) (rowT ta nT) (rowH ha nH) (nI nT) (nI nH) (Oth tc ta ha hs kt tu tq nT nH i ++ wr) t (mrg gs (hs i)) sh (nI i) a1 a2 a3 a4 (FY_of hi h12) hj) h1 (by decide +kernel) (by decide +kernel : Cond.selects RX6 yX6_begin yX6_begin ∈ lw_g) tw_1 (by decide +kernel) (by decide +kernel) ⟨by omega, by omega⟩ hf 0 5 rfl rfl rfl hls hst hroom hdg) (fun H1 l1 V1 _ => ?_)
    refine kk r t' u' _ sh' hp H1 l1 ?_
    rw [← List.append_assoc (Fw _ _ _ _ _ _ _), ← List.append_assoc] at V1
    exact V1.perm ((Xw_back i hi (hk i hi)).append_right wr)
/-- the court with table j ahead -/
theorem Xw_table (j : Nat) (hj : j < nT) (t : Nat → Int32) (tu : Nat → Int32) (tq : Nat → (Nat → Int32) × (Nat → Int32)) : (Xw tc xo xa ad ta ha sh t gs hs kt tu tq nT nH ++ wr).Perm (Bw tc xo xa ad (rowT ta nT) (rowH ha nH) (nI nT) (nI nH) t ++ (Tb tc (ta j) (tu j) (some (tq j)) ++ ((List.range nT).flatMap (fun k => if k = j then [] else Tb tc (ta k) (tu k) (some (tq k))) ++ (Gw tc ad sh gs ++ (Hists tc ta ha kt hs nH ++ wr))))) := by
  rw [Xw_flat]
  refine List.Perm.append_left _ ?_
  have p1 : (Tabs tc ta tu tq nT).Perm (Tb tc (ta j) (tu j) (some (tq j)) ++ (List.range nT).flatMap (fun k => if k = j then [] else Tb tc (ta k) (tu k) (some (tq k)))) := flat_out (fun k => Tb tc (ta k) (tu k) (some (tq k))) nT j hj
  have p2 : ((Gw tc ad sh gs ++ (Tabs tc ta tu tq nT ++ Hists tc ta ha kt hs nH)) ++ wr).Perm (Tabs tc ta tu tq nT ++ (Gw tc ad sh gs ++ (Hists tc ta ha kt hs nH ++ wr))) := by
    have := blk_perm [Gw tc ad sh gs, Tabs tc ta tu tq nT, Hists tc ta ha kt hs nH, wr] (is := [0, 1, 2, 3]) (js := [1, 0, 2, 3]) (by decide)
    simpa [blk] using this
  refine p2.trans ?_
  rw [← List.append_assoc (Tb tc (ta j) (tu j) (some (tq j)))]
  exact p1.append_right _
/-- row() -/
theorem cl_row {index : Nat} {st0 : List Value} {h a1 a2 a3 a4 : Int32} (X : Cx p s m args meth c cc nL own ret) (V : Wd D tc A s H locs (Xw tc xo xa ad ta ha sh t gs hs kt tu tq nT nH ++ wr)) (h4 : nT ≤ 4)
    (Post : Int32 → (Nat → Int32) → (Nat → (Nat → Int32) × (Nat → Int32)) → Prop)
    (PY : ∀ j, j < nT → h = nI j → ∀ u : St, (u.2.1 1, u.2.1 2) = tq j → ∃ (r : Int32) (t' : Nat → Int32) (u' : St), j_X6_row_Y (tu j) t u h a1 a2 a3 a4 = some (r, t', u') ∧ Post r t' (fun k => if k = j then (u'.2.1 1, u'.2.1 2) else tq k))
    (PN : FN (nI nT) h → ∃ (r : Int32) (t' : Nat → Int32), j_X6_row_N t h a1 a2 a3 a4 = some (r, t') ∧ Post r t' tq)
    (h1 : Cond.methodLink own index yX6_row ∈ lw_g) (hRf : 4 ≤ R.frames) (hRl : 200 ≤ R.locals) (hf : cells ≤ R.cells ∧ slots ≤ R.slots) (hls : ls.size = nL) (hst : st0 = .int a4 :: .int a3 :: .int a2 :: .int a1 :: .int h :: .ref xo :: rest) (hroom : (rest.map fun v => v.category).sum ≤ 8) (hdg : decode cc pc = .ok (.invokevirtual index, 3))
    (kk : ∀ (r : Int32) (t' : Nat → Int32) (tq' : Nat → (Nat → Int32) × (Nat → Int32)), Post r t' tq' → ∀ (H1 : Heap) (locs1 : List Loc), Wd D tc A s H1 locs1 (Xw tc xo xa ad ta ha sh t' gs hs kt tu tq' nT nH ++ wr) → W p l e R s m args below meth c H1 locs1 cells slots Q (F0 m (pc + 3) ls (.int r :: rest))) :
    W p l e R s m args below meth c H locs cells slots Q (F0 m pc ls st0) := by
  rcases FN_or nT (by omega) h with hn | ⟨j, hj, rfl⟩
  · obtain ⟨r, t', hjj, hp⟩ := PN hn
    rw [Xw_flat] at V
    refine x_allI V _ (rg_map _) (cl_run (n := 5) X V (k_X6_row_N l D tc _ _ _ _ _ _ _ _ _ h a1 a2 a3 a4 hn hjj) h1 (by decide +kernel) (by decide +kernel) (by decide +kernel) (by decide +kernel) ⟨by omega, by omega⟩ hf rfl hls hst hroom hdg) (fun H1 l1 V1 _ => ?_)
    refine kk r t' tq hp H1 l1 ?_
    rw [Xw_flat]
    exact V1
  · obtain ⟨u, hu⟩ : ∃ u : St, (u.2.1 1, u.2.1 2) = tq j := ⟨(fun _ => 0, fun k => if k = 1 then (tq j).1 else (tq j).2, fun _ _ => 0), rfl⟩
    obtain ⟨r, t', u', hjj, hp⟩ := PY j hj rfl u hu
    have V2 := V.perm (Xw_table j hj t tu tq)
    rw [← hu] at V2
    refine x_allI V2 _ (rg_map _) (cl_run (n := 5) X V2 (k_X6_row_Y l D tc _ _ _ (ta j) (tu j) _ _ _ _ _ t u (nI j) a1 a2 a3 a4 (FYt_of hj h4) hjj) h1 (by decide +kernel) (by decide +kernel) (by decide +kernel) (by decide +kernel) ⟨by omega, by omega⟩ hf rfl hls hst hroom hdg) (fun H1 l1 V1 _ => ?_)
    refine kk r t' _ hp H1 l1 (V1.perm ?_)
    have hb := (Xw_table (tc := tc) (xo := xo) (xa := xa) (ad := ad) (ta := ta) (ha := ha) (sh := sh) (gs := gs) (hs := hs) (kt := kt) (nT := nT) (nH := nH) (wr := wr) j hj t' tu (fun k => if k = j then (u'.2.1 1, u'.2.1 2) else tq k)).symm
    simp only [if_true] at hb
    rw [flat_same (f := fun k => Tb tc (ta k) (tu k) (some (if k = j then (u'.2.1 1, u'.2.1 2) else tq k))) (g := fun k => Tb tc (ta k) (tu k) (some (tq k))) nT j (fun k hk => by rw [if_neg hk])] at hb
    exact hb
end FACE3
