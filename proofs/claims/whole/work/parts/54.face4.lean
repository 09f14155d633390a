section FACE4
variable {p : Program} {l : Launch} {e : Env} {R : Room} {s : State} {m : MethodId} {args : Array Value} {below : List Frame} {meth : Method} {c : Code} {H : Heap} {locs : List Loc} {cells slots : Nat} {Q : State → Prop}
variable {cc : ByteArray} {nL : Nat} {own : String} {ret : Option FieldType} {D : va_G} {tc : Nat → ClassId} {A : Nat → Prop} {pc : Nat} {ls : Array Slot} {rest : List Value} {ws : va_W}
variable {xo : Nat} {xa ad : Nat → Nat} {ta ha : Nat → Nat → Nat} {sh : Nat} {t : Nat → Int32} {gs : St} {hs : Nat → St} {kt : Nat → Option Nat} {tu : Nat → Int32} {tq : Nat → (Nat → Int32) × (Nat → Int32)} {nT nH : Nat} {wr : va_W}
/-- one history more -/
theorem Xw_more (hb : Nat → Nat) (kd : Option Nat) (u : St) (tu' : Nat → Int32) (h12 : nH < 2 ^ 31) : (Bw tc xo xa ad (rowT ta nT) (va_up (rowH ha nH) (nI nH).toNatClampNeg (some (hb 6))) (nI nT) (nI nH + 1) t ++ (Gw tc ad sh gs ++ (Tabs tc ta tu' tq nT ++ (Hists tc ta ha kt hs nH ++ (Hw tc hb (tvo ta kd) u ++ wr))))).Perm
    (Xw tc xo xa ad ta (fun i => if i = nH then hb else ha i) sh t gs (fun i => if i = nH then u else hs i) (fun i => if i = nH then kd else kt i) tu' tq nT (nH + 1) ++ wr) := by
  rw [Xw_flat]
  have eR : va_up (rowH ha nH) (nI nH).toNatClampNeg (some (hb 6)) = rowH (fun i => if i = nH then hb else ha i) (nH + 1) := by
    have := rowH_snoc (ha := ha) (ha' := fun i => if i = nH then hb else ha i) (n := nH) (fun j hj => if_neg (by omega)) h12
    simp only [if_true] at this
    exact this
  have eH := Hists_snoc (tc := tc) (ta := ta) (ta' := ta) (ha := ha) (ha' := fun i => if i = nH then hb else ha i) (kt := kt) (kt' := fun i => if i = nH then kd else kt i) (hs := hs) (hs' := fun i => if i = nH then u else hs i) (n := nH) (fun j hj => if_neg (by omega)) (fun j hj => by rw [if_neg (by omega)]) (fun j hj => if_neg (by omega))
  simp only [if_true] at eH
  rw [eR, nI_1, eH]
  refine List.Perm.append_left _ ?_
  have e : Gw tc ad sh gs ++ (Tabs tc ta tu' tq nT ++ (Hists tc ta ha kt hs nH ++ (Hw tc hb (tvo ta kd) u ++ wr))) = (Gw tc ad sh gs ++ (Tabs tc ta tu' tq nT ++ (Hists tc ta ha kt hs nH ++ Hw tc hb (tvo ta kd) u))) ++ wr := by simp
  rw [e]
/-- history() -/
theorem cl_history {index : Nat} {st0 : List Value} {kd mk : Int32} (X : Cx p s m args meth c cc nL own ret) (V : Wd D tc A s H locs (Xw tc xo xa ad ta ha sh t gs hs kt tu tq nT nH ++ wr)) (h4 : nT ≤ 4) (h12 : nH ≤ 12)
    (h1 : Cond.methodLink own index yX6_history ∈ lw_g) (hRf : 4 ≤ R.frames) (hRl : 200 ≤ R.locals) (hf : cells + 8 ≤ R.cells ∧ slots + 81 ≤ R.slots) (hls : ls.size = nL) (hst : st0 = .int mk :: .int kd :: .ref xo :: rest) (hroom : (rest.map fun v => v.category).sum ≤ 8) (hdg : decode cc pc = .ok (.invokevirtual index, 3))
    (kC : ∀ r : Int32, ((¬ kd = 6 ∧ j_X3_isKind kd = some 0 ∧ r = -1) ∨ (¬ kd = 6 ∧ j_X3_isKind kd = some 1 ∧ ¬ mk = 0 ∧ r = -2) ∨ (¬ kd = 6 ∧ j_X3_isKind kd = some 1 ∧ mk = 0 ∧ nH = 12 ∧ r = -4) ∨ (kd = 6 ∧ FN (nI nT) mk ∧ r = -1) ∨ (kd = 6 ∧ (∃ j, j < nT ∧ mk = nI j) ∧ nH = 12 ∧ r = -4)) → ∀ (H1 : Heap) (locs1 : List Loc), Wd D tc A s H1 locs1 (Xw tc xo xa ad ta ha sh t gs hs kt tu tq nT nH ++ wr) → W p l e R s m args below meth c H1 locs1 cells slots Q (F0 m (pc + 3) ls (.int r :: rest)))
    (kN : ¬ kd = 6 → j_X3_isKind kd = some 1 → mk = 0 → nH < 12 → ∀ (ha' : Nat → Nat → Nat) (H1 : Heap) (locs1 : List Loc), Wd D tc A s H1 locs1 (Xw tc xo xa ad ta ha' sh t gs (fun i => if i = nH then sI St0 0 kd else hs i) (fun i => if i = nH then none else kt i) tu tq nT (nH + 1) ++ wr) → W p l e R s m args below meth c H1 locs1 (cells + 8) (slots + 81) Q (F0 m (pc + 3) ls (.int (nI nH) :: rest)))
    (kM : ∀ j, j < nT → mk = nI j → kd = 6 → nH < 12 → ∀ (ha' : Nat → Nat → Nat) (H1 : Heap) (locs1 : List Loc), Wd D tc A s H1 locs1 (Xw tc xo xa ad ta ha' sh t gs (fun i => if i = nH then sI St0 0 kd else hs i) (fun i => if i = nH then some j else kt i) (fun k => if k = j then 1 else tu k) tq nT (nH + 1) ++ wr) → W p l e R s m args below meth c H1 locs1 (cells + 8) (slots + 81) Q (F0 m (pc + 3) ls (.int (nI nH) :: rest))) :
    W p l e R s m args below meth c H locs cells slots Q (F0 m pc ls st0) := by
  have w2 : Cond.instanceMethod yX6_history ∈ lw_g := by decide +kernel
  have w3 : Cond.selects RX6 yX6_history yX6_history ∈ lw_g := by decide +kernel
  have w5 : Cond.code yX6_history cX6_history 5 (some .int) ∈ lw_g := by decide +kernel
  have hd : yX6_history.cls = RX6 ∧ yX6_history.cls ≠ "java/lang/invoke/MethodHandle" ∧ yX6_history.cls ≠ "java/lang/invoke/VarHandle" ∧ (parseMethodDescriptor yX6_history.desc).map (fun d => d.parameters.length) = some 2 := by decide +kernel
  by_cases h6 : kd = 6
  · have hkd : j_X3_isKind kd = some 1 := by rw [h6]; decide
    rcases FN_or nT (by omega) mk with hn | ⟨j, hj, hmj⟩
    · rw [Xw_flat] at V
      refine x_allG V _ (rg_map _) (cl_run (n := 2) X V (kc_X6_history_tn l D tc xo xa ad _ _ _ _ t _ kd mk h6 hkd hn) h1 w2 w3 w5 hd ⟨by omega, by omega⟩ ⟨by omega, by omega⟩ rfl hls hst hroom hdg) (fun v w H1 l1 hRT V1 => ?_)
      obtain ⟨rfl, rfl⟩ := hRT
      refine kC _ (Or.inr (Or.inr (Or.inr (Or.inl ⟨h6, hn, rfl⟩)))) H1 l1 ?_
      rw [Xw_flat]
      exact V1
    · have V2 := V.perm (Xw_table j hj t tu tq)
      subst hmj
      by_cases hlt : nH < 12
      · refine x_allG V2 _ (rg_map _) (cl_run (n := 2) X V2 (kc_X6_history_t0 l D tc xo xa ad _ _ _ _ t _ kd (nI j) (ta j) (tu j) (tq j) h6 hkd (FYt_of hj h4) (nI_lt hlt (by decide)) (vp_in_nI hlt (by decide))) h1 w2 w3 w5 hd ⟨by omega, by omega⟩ hf rfl hls hst hroom hdg) (fun v w H1 l1 hRT V1 => ?_)
        obtain ⟨rfl, hb, rfl⟩ := hRT
        rw [nI_up]
        refine kM j hj rfl h6 hlt (fun i => if i = nH then hb else ha i) H1 l1 (V1.perm (List.Perm.trans ?_ (Xw_more hb (some j) (sI St0 0 kd) (fun k => if k = j then 1 else tu k) (by omega))))
        refine List.Perm.append_left _ ?_
        have p1 : (Tabs tc ta (fun k => if k = j then 1 else tu k) tq nT).Perm (Tb tc (ta j) 1 (some (tq j)) ++ (List.range nT).flatMap (fun k => if k = j then [] else Tb tc (ta k) (tu k) (some (tq k)))) := by
          have h0 := flat_out (fun k => Tb tc (ta k) (if k = j then 1 else tu k) (some (tq k))) nT j hj
          simp only [if_true] at h0
          rw [flat_same (f := fun k => Tb tc (ta k) (if k = j then 1 else tu k) (some (tq k))) (g := fun k => Tb tc (ta k) (tu k) (some (tq k))) nT j (fun k hk => by rw [if_neg hk])] at h0
          exact h0
        have p2 := p1.append_left (Gw tc ad sh gs) |>.append_right (Hists tc ta ha kt hs nH ++ (Hw tc hb (tvo ta (some j)) (sI St0 0 kd) ++ wr))
        have p3 := blk_perm [Tb tc (ta j) 1 (some (tq j)), Hw tc hb (.ref (ta j 0)) (sI St0 0 kd), (List.range nT).flatMap (fun k => if k = j then [] else Tb tc (ta k) (tu k) (some (tq k))), Gw tc ad sh gs, Hists tc ta ha kt hs nH, wr] (is := [0, 1, 2, 3, 4, 5]) (js := [3, 0, 2, 4, 1, 5]) (by decide)
        simp only [blk, List.flatMap_cons, List.flatMap_nil, List.getD_cons_zero, List.getD_cons_succ, List.append_nil] at p3
        refine p3.trans ?_
        simp only [List.append_assoc] at p2
        exact p2.symm
      · refine x_allG V2 _ (rg_map _) (cl_run (n := 2) X V2 (kc_X6_history_tf l D tc xo xa ad _ _ _ _ t _ kd (nI j) (ta j) (tu j) (tq j) h6 hkd (FYt_of hj h4) (by rw [show nH = 12 by omega]; decide)) h1 w2 w3 w5 hd ⟨by omega, by omega⟩ ⟨by omega, by omega⟩ rfl hls hst hroom hdg) (fun v w H1 l1 hRT V1 => ?_)
        obtain ⟨rfl, rfl⟩ := hRT
        exact kC _ (Or.inr (Or.inr (Or.inr (Or.inr ⟨h6, ⟨j, hj, rfl⟩, by omega, rfl⟩)))) H1 l1 (V1.perm (Xw_table j hj t tu tq).symm)
  · rw [Xw_flat] at V
    have hkk : j_X3_isKind kd = some 0 ∨ j_X3_isKind kd = some 1 := by
      unfold j_X3_isKind
      by_cases c1 : kd < 0
      · rw [if_pos c1]; exact Or.inl rfl
      · rw [if_neg c1]
        by_cases c2 : 7 ≤ kd
        · rw [if_pos c2]; exact Or.inl rfl
        · rw [if_neg c2]; exact Or.inr rfl
    rcases hkk with hkd | hkd
    · refine x_allG V _ (rg_map _) (cl_run (n := 2) X V (kc_X6_history_n l D tc xo xa ad _ _ _ _ t _ kd mk h6 hkd) h1 w2 w3 w5 hd ⟨by omega, by omega⟩ ⟨by omega, by omega⟩ rfl hls hst hroom hdg) (fun v w H1 l1 hRT V1 => ?_)
      obtain ⟨rfl, rfl⟩ := hRT
      refine kC _ (Or.inl ⟨h6, hkd, rfl⟩) H1 l1 ?_
      rw [Xw_flat]
      exact V1
    · by_cases hm : mk = 0
      · by_cases hlt : nH < 12
        · refine x_allG V _ (rg_map _) (cl_run (n := 2) X V (kc_X6_history_0 l D tc xo xa ad _ _ _ _ t _ kd mk h6 hkd hm (nI_lt hlt (by decide)) (vp_in_nI hlt (by decide))) h1 w2 w3 w5 hd ⟨by omega, by omega⟩ hf rfl hls hst hroom hdg) (fun v w H1 l1 hRT V1 => ?_)
          obtain ⟨rfl, hb, rfl⟩ := hRT
          rw [nI_up]
          refine kN h6 hkd hm hlt (fun i => if i = nH then hb else ha i) H1 l1 (V1.perm (List.Perm.trans ?_ (Xw_more hb none (sI St0 0 kd) tu (by omega))))
          refine List.Perm.append_left _ ?_
          have p3 := blk_perm [Hw tc hb .null (sI St0 0 kd), Gw tc ad sh gs, Tabs tc ta tu tq nT, Hists tc ta ha kt hs nH, wr] (is := [0, 1, 2, 3, 4]) (js := [1, 2, 3, 0, 4]) (by decide)
          simp only [blk, List.flatMap_cons, List.flatMap_nil, List.getD_cons_zero, List.getD_cons_succ, List.append_nil] at p3
          simp only [List.append_assoc]
          exact p3
        · refine x_allG V _ (rg_map _) (cl_run (n := 2) X V (kc_X6_history_f l D tc xo xa ad _ _ _ _ t _ kd mk h6 hkd hm (by rw [show nH = 12 by omega]; decide)) h1 w2 w3 w5 hd ⟨by omega, by omega⟩ ⟨by omega, by omega⟩ rfl hls hst hroom hdg) (fun v w H1 l1 hRT V1 => ?_)
          obtain ⟨rfl, rfl⟩ := hRT
          refine kC _ (Or.inr (Or.inr (Or.inl ⟨h6, hkd, hm, by omega, rfl⟩))) H1 l1 ?_
          rw [Xw_flat]
          exact V1
      · refine x_allG V _ (rg_map _) (cl_run (n := 2) X V (kc_X6_history_b l D tc xo xa ad _ _ _ _ t _ kd mk h6 hkd hm) h1 w2 w3 w5 hd ⟨by omega, by omega⟩ ⟨by omega, by omega⟩ rfl hls hst hroom hdg) (fun v w H1 l1 hRT V1 => ?_)
        obtain ⟨rfl, rfl⟩ := hRT
        refine kC _ (Or.inr (Or.inl ⟨h6, hkd, hm, rfl⟩)) H1 l1 ?_
        rw [Xw_flat]
        exact V1
/-- the court with history i ahead, without its table -/
theorem Xw_hist (i : Nat) (hi : i < nH) : (Xw tc xo xa ad ta ha sh t gs hs kt tu tq nT nH ++ wr).Perm (Bw tc xo xa ad (rowT ta nT) (rowH ha nH) (nI nT) (nI nH) t ++ (Hw tc (ha i) (tvo ta (kt i)) (hs i) ++ ((List.range nH).flatMap (fun k => if k = i then [] else Hw tc (ha k) (tvo ta (kt k)) (hs k)) ++ (Gw tc ad sh gs ++ (Tabs tc ta tu tq nT ++ wr))))) := by
  rw [Xw_flat]
  refine List.Perm.append_left _ ?_
  have p1 : (Hists tc ta ha kt hs nH).Perm (Hw tc (ha i) (tvo ta (kt i)) (hs i) ++ (List.range nH).flatMap (fun k => if k = i then [] else Hw tc (ha k) (tvo ta (kt k)) (hs k))) := flat_out (fun k => Hw tc (ha k) (tvo ta (kt k)) (hs k)) nH i hi
  have p2 : ((Gw tc ad sh gs ++ (Tabs tc ta tu tq nT ++ Hists tc ta ha kt hs nH)) ++ wr).Perm (Hists tc ta ha kt hs nH ++ (Gw tc ad sh gs ++ (Tabs tc ta tu tq nT ++ wr))) := by
    have := blk_perm [Gw tc ad sh gs, Tabs tc ta tu tq nT, Hists tc ta ha kt hs nH, wr] (is := [0, 1, 2, 3]) (js := [2, 0, 1, 3]) (by decide)
    simpa [blk] using this
  refine p2.trans ?_
  rw [← List.append_assoc (Hw tc (ha i) (tvo ta (kt i)) (hs i))]
  exact p1.append_right _
/-- copy() -/
theorem cl_copy {index : Nat} {st0 : List Value} {h : Int32} (X : Cx p s m args meth c cc nL own ret) (V : Wd D tc A s H locs (Xw tc xo xa ad ta ha sh t gs hs kt tu tq nT nH ++ wr)) (h12 : nH ≤ 12)
    (h1 : Cond.methodLink own index yX6_copy ∈ lw_g) (hRf : 5 ≤ R.frames) (hRl : 200 ≤ R.locals) (hf : cells + 8 ≤ R.cells ∧ slots + 81 ≤ R.slots) (hls : ls.size = nL) (hst : st0 = .int h :: .ref xo :: rest) (hroom : (rest.map fun v => v.category).sum ≤ 8) (hdg : decode cc pc = .ok (.invokevirtual index, 3))
    (kC : ∀ r : Int32, ((FN (nI nH) h ∧ r = -1) ∨ ((∃ i, i < nH ∧ h = nI i) ∧ nH = 12 ∧ r = -4)) → ∀ (H1 : Heap) (locs1 : List Loc), Wd D tc A s H1 locs1 (Xw tc xo xa ad ta ha sh t gs hs kt tu tq nT nH ++ wr) → W p l e R s m args below meth c H1 locs1 cells slots Q (F0 m (pc + 3) ls (.int r :: rest)))
    (kO : ∀ i, i < nH → h = nI i → nH < 12 → ∀ (ha' : Nat → Nat → Nat) (H1 : Heap) (locs1 : List Loc), Wd D tc A s H1 locs1 (Xw tc xo xa ad ta ha' sh t gs (fun k => if k = nH then twS (hs i) else hs k) (fun k => if k = nH then kt i else kt k) tu tq nT (nH + 1) ++ wr) → W p l e R s m args below meth c H1 locs1 (cells + 8) (slots + 81) Q (F0 m (pc + 3) ls (.int (nI nH) :: rest))) :
    W p l e R s m args below meth c H locs cells slots Q (F0 m pc ls st0) := by
  have w2 : Cond.instanceMethod yX6_copy ∈ lw_g := by decide +kernel
  have w3 : Cond.selects RX6 yX6_copy yX6_copy ∈ lw_g := by decide +kernel
  have w5 : Cond.code yX6_copy cX6_copy 3 (some .int) ∈ lw_g := by decide +kernel
  have hd : yX6_copy.cls = RX6 ∧ yX6_copy.cls ≠ "java/lang/invoke/MethodHandle" ∧ yX6_copy.cls ≠ "java/lang/invoke/VarHandle" ∧ (parseMethodDescriptor yX6_copy.desc).map (fun d => d.parameters.length) = some 1 := by decide +kernel
  rcases FN_or nH (by omega) h with hn | ⟨i, hi, hmi⟩
  · rw [Xw_flat] at V
    refine x_allG V _ (rg_map _) (cl_run (n := 1) X V (kc_X6_copy_n l D tc xo xa ad _ _ _ _ t _ h hn) h1 w2 w3 w5 hd ⟨by omega, by omega⟩ ⟨by omega, by omega⟩ rfl hls hst hroom hdg) (fun v w H1 l1 hRT V1 => ?_)
    obtain ⟨rfl, rfl⟩ := hRT
    refine kC _ (Or.inl ⟨hn, rfl⟩) H1 l1 ?_
    rw [Xw_flat]
    exact V1
  · subst hmi
    have fin : ∀ hb : Nat → Nat, (Bw tc xo xa ad (rowT ta nT) (va_up (rowH ha nH) (nI nH).toNatClampNeg (some (hb 6))) (nI nT) (nI nH + 1) t ++ ((Hw tc (ha i) (tvo ta (kt i)) (hs i) ++ Hw tc hb (tvo ta (kt i)) (twS (hs i))) ++ ((List.range nH).flatMap (fun k => if k = i then [] else Hw tc (ha k) (tvo ta (kt k)) (hs k)) ++ (Gw tc ad sh gs ++ (Tabs tc ta tu tq nT ++ wr))))).Perm (Xw tc xo xa ad ta (fun k => if k = nH then hb else ha k) sh t gs (fun k => if k = nH then twS (hs i) else hs k) (fun k => if k = nH then kt i else kt k) tu tq nT (nH + 1) ++ wr) := by
      intro hb
      refine List.Perm.trans ?_ (Xw_more hb (kt i) (twS (hs i)) tu (by omega))
      refine List.Perm.append_left _ ?_
      have p1 : (Hists tc ta ha kt hs nH).Perm (Hw tc (ha i) (tvo ta (kt i)) (hs i) ++ (List.range nH).flatMap (fun k => if k = i then [] else Hw tc (ha k) (tvo ta (kt k)) (hs k))) := flat_out (fun k => Hw tc (ha k) (tvo ta (kt k)) (hs k)) nH i hi
      have p2 := (p1.append_left (Gw tc ad sh gs ++ Tabs tc ta tu tq nT)).append_right (Hw tc hb (tvo ta (kt i)) (twS (hs i)) ++ wr)
      have p3 := blk_perm [Hw tc (ha i) (tvo ta (kt i)) (hs i), Hw tc hb (tvo ta (kt i)) (twS (hs i)), (List.range nH).flatMap (fun k => if k = i then [] else Hw tc (ha k) (tvo ta (kt k)) (hs k)), Gw tc ad sh gs, Tabs tc ta tu tq nT, wr] (is := [0, 1, 2, 3, 4, 5]) (js := [3, 4, 0, 2, 1, 5]) (by decide)
      simp only [blk, List.flatMap_cons, List.flatMap_nil, List.getD_cons_zero, List.getD_cons_succ, List.append_nil] at p3
      simp only [List.append_assoc] at p2 ⊢
      exact p3.trans p2.symm
    have V2 := V.perm (Xw_hist i hi)
    by_cases hlt : nH < 12
    · cases ek : kt i with
      | none =>
        rw [ek] at V2
        refine x_allG V2 _ (rg_map _) (cl_run (n := 1) X V2 (kc_X6_copy_N l D tc xo xa ad _ _ _ _ t _ (ha i) (hs i) (nI i) (FY_of hi h12) (nI_lt hlt (by decide)) (vp_in_nI hlt (by decide))) h1 w2 w3 w5 hd ⟨by omega, by omega⟩ hf rfl hls hst hroom hdg) (fun v w H1 l1 hRT V1 => ?_)
        obtain ⟨rfl, hb, rfl⟩ := hRT
        rw [nI_up]
        have fb := fin hb
        rw [ek] at fb
        have kO1 := kO i hi rfl hlt (fun k => if k = nH then hb else ha k) H1 l1
        rw [ek] at kO1
        exact kO1 (V1.perm fb)
      | some j =>
        rw [ek] at V2
        refine x_allG V2 _ (rg_map _) (cl_run (n := 1) X V2 (kc_X6_copy_R l D tc xo xa ad _ _ _ _ t _ (ha i) (ta j 0) (hs i) (nI i) (FY_of hi h12) (nI_lt hlt (by decide)) (vp_in_nI hlt (by decide))) h1 w2 w3 w5 hd ⟨by omega, by omega⟩ hf rfl hls hst hroom hdg) (fun v w H1 l1 hRT V1 => ?_)
        obtain ⟨rfl, hb, rfl⟩ := hRT
        rw [nI_up]
        have fb := fin hb
        rw [ek] at fb
        have kO1 := kO i hi rfl hlt (fun k => if k = nH then hb else ha k) H1 l1
        rw [ek] at kO1
        exact kO1 (V1.perm fb)
    · cases ek : kt i with
      | none =>
        rw [ek] at V2
        refine x_allG V2 _ (rg_map _) (cl_run (n := 1) X V2 (kc_X6_copy_fN l D tc xo xa ad _ _ _ _ t _ (ha i) (hs i) (nI i) (FY_of hi h12) (by rw [show nH = 12 by omega]; decide)) h1 w2 w3 w5 hd ⟨by omega, by omega⟩ ⟨by omega, by omega⟩ rfl hls hst hroom hdg) (fun v w H1 l1 hRT V1 => ?_)
        obtain ⟨rfl, rfl⟩ := hRT
        have fb := (Xw_hist (tc := tc) (xo := xo) (xa := xa) (ad := ad) (ta := ta) (ha := ha) (sh := sh) (t := t) (gs := gs) (hs := hs) (kt := kt) (tu := tu) (tq := tq) (nT := nT) (nH := nH) (wr := wr) i hi).symm
        rw [ek] at fb
        exact kC _ (Or.inr ⟨⟨i, hi, rfl⟩, by omega, rfl⟩) H1 l1 (V1.perm fb)
      | some j =>
        rw [ek] at V2
        refine x_allG V2 _ (rg_map _) (cl_run (n := 1) X V2 (kc_X6_copy_fR l D tc xo xa ad _ _ _ _ t _ (ha i) (ta j 0) (hs i) (nI i) (FY_of hi h12) (by rw [show nH = 12 by omega]; decide)) h1 w2 w3 w5 hd ⟨by omega, by omega⟩ ⟨by omega, by omega⟩ rfl hls hst hroom hdg) (fun v w H1 l1 hRT V1 => ?_)
        obtain ⟨rfl, rfl⟩ := hRT
        have fb := (Xw_hist (tc := tc) (xo := xo) (xa := xa) (ad := ad) (ta := ta) (ha := ha) (sh := sh) (t := t) (gs := gs) (hs := hs) (kt := kt) (tu := tu) (tq := tq) (nT := nT) (nH := nH) (wr := wr) i hi).symm
        rw [ek] at fb
        exact kC _ (Or.inr ⟨⟨i, hi, rfl⟩, by omega, rfl⟩) H1 l1 (V1.perm fb)
end FACE4
