/-! ===== the other calls of the face ===== -/
theorem Tabs_snoc {tc : Nat → ClassId} {ta ta' : Nat → Nat → Nat} {tu tu' : Nat → Int32} {tq tq' : Nat → (Nat → Int32) × (Nat → Int32)} {n : Nat} (h1 : ∀ j, j < n → ta' j = ta j) (h2 : ∀ j, j < n → tu' j = tu j) (h3 : ∀ j, j < n → tq' j = tq j) : Tabs tc ta' tu' tq' (n + 1) = Tabs tc ta tu tq n ++ Tb tc (ta' n) (tu' n) (some (tq' n)) := by
  unfold Tabs
  rw [List.range_succ, List.flatMap_append]
  simp only [List.flatMap_cons, List.flatMap_nil, List.append_nil]
  congr 1
  simp only [List.flatMap_def]
  congr 1
  apply List.map_congr_left
  intro k hk
  have := List.mem_range.mp hk
  rw [h1 k this, h2 k this, h3 k this]
theorem Tabs_congr {tc : Nat → ClassId} {ta ta' : Nat → Nat → Nat} {tu tu' : Nat → Int32} {tq tq' : Nat → (Nat → Int32) × (Nat → Int32)} {n : Nat} (h1 : ∀ j, j < n → ta' j = ta j) (h2 : ∀ j, j < n → tu' j = tu j) (h3 : ∀ j, j < n → tq' j = tq j) : Tabs tc ta' tu' tq' n = Tabs tc ta tu tq n := by
  unfold Tabs
  simp only [List.flatMap_def]
  congr 1
  apply List.map_congr_left
  intro k hk
  have := List.mem_range.mp hk
  rw [h1 k this, h2 k this, h3 k this]
theorem Hists_congr {tc : Nat → ClassId} {ta ta' ha ha' : Nat → Nat → Nat} {kt kt' : Nat → Option Nat} {hs hs' : Nat → St} {n : Nat} (h1 : ∀ i, i < n → ha' i = ha i) (h2 : ∀ i, i < n → tvo ta' (kt' i) = tvo ta (kt i)) (h3 : ∀ i, i < n → hs' i = hs i) : Hists tc ta' ha' kt' hs' n = Hists tc ta ha kt hs n := by
  unfold Hists
  simp only [List.flatMap_def]
  congr 1
  apply List.map_congr_left
  intro k hk
  have := List.mem_range.mp hk
  rw [h1 k this, h2 k this, h3 k this]
theorem Hists_snoc {tc : Nat → ClassId} {ta ta' ha ha' : Nat → Nat → Nat} {kt kt' : Nat → Option Nat} {hs hs' : Nat → St} {n : Nat} (h1 : ∀ i, i < n → ha' i = ha i) (h2 : ∀ i, i < n → tvo ta' (kt' i) = tvo ta (kt i)) (h3 : ∀ i, i < n → hs' i = hs i) : Hists tc ta' ha' kt' hs' (n + 1) = Hists tc ta ha kt hs n ++ Hw tc (ha' n) (tvo ta' (kt' n)) (hs' n) := by
  rw [← Hists_congr (tc := tc) (ta' := ta') (ha' := ha') (kt' := kt') (hs' := hs') h1 h2 h3]
  unfold Hists
  rw [List.range_succ, List.flatMap_append]
  simp only [List.flatMap_cons, List.flatMap_nil, List.append_nil]
theorem rowT_snoc {ta ta' : Nat → Nat → Nat} {n : Nat} (h : ∀ j, j < n → ta' j = ta j) (hn : n < 2 ^ 31) : va_up (rowT ta n) (nI n).toNatClampNeg (some (ta' n 0)) = rowT ta' (n + 1) := by
  funext j
  rw [nI_clamp hn]
  unfold va_up rowT
  by_cases c : j = n
  · subst c
    rw [if_pos rfl, if_pos (Nat.lt_succ_self j)]
  · rw [if_neg c]
    by_cases c2 : j < n
    · rw [if_pos c2, if_pos (by omega), h j c2]
    · rw [if_neg c2, if_neg (by omega)]
theorem rowH_snoc {ha ha' : Nat → Nat → Nat} {n : Nat} (h : ∀ j, j < n → ha' j = ha j) (hn : n < 2 ^ 31) : va_up (rowH ha n) (nI n).toNatClampNeg (some (ha' n 6)) = rowH ha' (n + 1) := by
  funext j
  rw [nI_clamp hn]
  unfold va_up rowH
  by_cases c : j = n
  · subst c
    rw [if_pos rfl, if_pos (Nat.lt_succ_self j)]
  · rw [if_neg c]
    by_cases c2 : j < n
    · rw [if_pos c2, if_pos (by omega), h j c2]
    · rw [if_neg c2, if_neg (by omega)]
theorem nI_up (n : Nat) : nI n + 1 - 1 = nI n := by rw [nI_1, nI_pred]
/-- only the answers and the told row of u, all else of g -/
def mrgS (g u : St) : St := (fun k => if k = 30 then u.1 k else g.1 k, fun k => if k = 31 ∨ k = 32 then u.2.1 k else g.2.1 k, g.2.2)
section FACE2
variable {p : Program} {l : Launch} {e : Env} {R : Room} {s : State} {m : MethodId} {args : Array Value} {below : List Frame} {meth : Method} {c : Code} {H : Heap} {locs : List Loc} {cells slots : Nat} {Q : State → Prop}
variable {cc : ByteArray} {nL : Nat} {own : String} {ret : Option FieldType} {D : va_G} {tc : Nat → ClassId} {A : Nat → Prop} {pc : Nat} {ls : Array Slot} {rest : List Value} {ws : va_W}
variable {xo : Nat} {xa ad : Nat → Nat} {ta ha : Nat → Nat → Nat} {sh : Nat} {t : Nat → Int32} {gs : St} {hs : Nat → St} {kt : Nat → Option Nat} {tu : Nat → Int32} {tq : Nat → (Nat → Int32) × (Nat → Int32)} {nT nH : Nat} {wr : va_W}
theorem x_allG {mc ms : Nat} {rt : Option FieldType} {wc : va_W} {RT : Option Value → va_W → Prop} {st0 : List Value} {av : Array Value} (V : Wd D tc A s H locs ws) (isC : List Nat) (hC : isC.map (fun i => ws[i]?) = wc.map some)
    (hr : va_Run p l e R s m args below meth c H locs cells slots mc ms (F0 m pc ls st0) rest (QcM D wc H.size rt RT av) (va_A wc H.size))
    (kk : ∀ (v : Option Value) (w1 : va_W) (H1 : Heap) (locs1 : List Loc), RT v w1 → Wd D tc A s H1 locs1 w1 → W p l e R s m args below meth c H1 locs1 (cells + mc) (slots + ms) Q (F0 m (pc + 3) ls (v.toList ++ rest))) :
    W p l e R s m args below meth c H locs cells slots Q (F0 m pc ls st0) :=
  x_back V isC hC rfl hr (fun v w H1 l1 hRT _ hw => kk v w H1 l1 hRT (hw [] [] rfl rfl (fun _ h => absurd h List.not_mem_nil)))
/-- like cl_YN, with a long for an answer -/
theorem cl_YNL {y : MethodName} {bytes : ByteArray} {maxL frY loY frN loN n index : Nat} {As st0 : List Value} {h : Int32} (X : Cx p s m args meth c cc nL own ret) (V : Wd D tc A s H locs (Xw tc xo xa ad ta ha sh t gs hs kt tu tq nT nH ++ wr)) (h12 : nH ≤ 12) (hk : ∀ i, i < nH → ∀ j, kt i = some j → j < nT)
    (jY : TbT → Nat → (Nat → Int32) → St → Nat → Option (Int64 × (Nat → Int32) × St × Nat)) (jN : (Nat → Int32) → Option (Int64 × (Nat → Int32)))
    (KY : ∀ (xo : Nat) (xa ad ta : Nat → Nat) (us : Int32) (T : TbT) (f g : Nat → Option Nat) (nT nH : Int32) (rest : va_W) (t : Nat → Int32) (u : St) (sh : Nat), FY nH g (ad 6) h → ∀ {x0 : Int64 × (Nat → Int32) × St × Nat}, jY T (ad 6) t u sh = some x0 → MetD l D tc y bytes maxL (some .long) frY loY (.ref xo :: As) (Bw tc xo xa ad f g nT nH t ++ (Fw tc ad ta us T sh u ++ rest)) (some (.long x0.1)) (Bw tc xo xa ad f g nT nH x0.2.1 ++ (Fw tc ad ta us T x0.2.2.2 x0.2.2.1 ++ rest)))
    (KN : ∀ (xo : Nat) (xa ad : Nat → Nat) (f g : Nat → Option Nat) (nT nH : Int32) (rest : va_W) (t : Nat → Int32), FN nH h → ∀ {x0 : Int64 × (Nat → Int32)}, jN t = some x0 → MetD l D tc y bytes maxL (some .long) frN loN (.ref xo :: As) (Bw tc xo xa ad f g nT nH t ++ rest) (some (.long x0.1)) (Bw tc xo xa ad f g nT nH x0.2 ++ rest))
    (Post : Int64 → (Nat → Int32) → St → (Nat → St) → Prop)
    (PY : ∀ i, i < nH → h = nI i → ∃ (r : Int64) (t' : Nat → Int32) (u' : St) (sh' : Nat), jY (Tq tq (kt i)) (ha i 6) t (mrg gs (hs i)) sh = some (r, t', u', sh') ∧ Post r t' u' (fun k => if k = i then u' else hs k))
    (PN : FN (nI nH) h → ∃ (r : Int64) (t' : Nat → Int32), jN t = some (r, t') ∧ Post r t' gs hs)
    (h1 : Cond.methodLink own index y ∈ lw_g) (h2 : Cond.instanceMethod y ∈ lw_g) (h3 : Cond.selects RX6 y y ∈ lw_g) (h5 : Cond.code y bytes maxL (some .long) ∈ lw_g)
    (hd : y.cls = RX6 ∧ y.cls ≠ "java/lang/invoke/MethodHandle" ∧ y.cls ≠ "java/lang/invoke/VarHandle" ∧ (parseMethodDescriptor y.desc).map (fun d => d.parameters.length) = some n) (hRY : frY + 1 ≤ R.frames ∧ 8 + (maxL + 11) + loY ≤ R.locals) (hRN : frN + 1 ≤ R.frames ∧ 8 + (maxL + 11) + loN ≤ R.locals) (hf : cells ≤ R.cells ∧ slots ≤ R.slots)
    (hlen : As.length = n) (hls : ls.size = nL) (hst : st0 = As.reverse ++ .ref xo :: rest) (hroom : (rest.map fun v => v.category).sum ≤ 8) (hdg : decode cc pc = .ok (.invokevirtual index, 3))
    (kk : ∀ (r : Int64) (t' : Nat → Int32) (gs' : St) (hs' : Nat → St) (sh' : Nat), Post r t' gs' hs' → ∀ (H1 : Heap) (locs1 : List Loc), Wd D tc A s H1 locs1 (Xw tc xo xa ad ta ha sh' t' gs' hs' kt tu tq nT nH ++ wr) → W p l e R s m args below meth c H1 locs1 cells slots Q (F0 m (pc + 3) ls (.long r :: rest))) :
    W p l e R s m args below meth c H locs cells slots Q (F0 m pc ls st0) := by
  rcases FN_or nH (by omega) h with hn | ⟨i, hi, rfl⟩
  · obtain ⟨r, t', hj, hp⟩ := PN hn
    rw [Xw_flat] at V
    refine x_allL V _ (rg_map _) (cl_run X V (KN _ _ _ _ _ _ _ _ _ hn hj) h1 h2 h3 h5 hd hRN hf hlen hls hst hroom hdg) (fun H1 l1 V1 => ?_)
    refine kk r t' gs hs sh hp H1 l1 ?_
    rw [Xw_flat]
    exact V1
  · obtain ⟨r, t', u', sh', hj, hp⟩ := PY i hi rfl
    have V2 := V.perm ((Xw_focus i hi (hk i hi)).append_right wr)
    rw [List.append_assoc, List.append_assoc] at V2
    refine x_allL V2 _ (rg_map _) (cl_run X V2 (KY xo xa (adi ad (ha i)) (Tt ta (kt i)) (Tu tu (kt i)) (Tq tq (kt i)) (rowT ta nT) (rowH ha nH) (nI nT) (nI nH) (Oth tc ta ha hs kt tu tq nT nH i ++ wr) t (mrg gs (hs i)) sh (FY_of hi h12) hj) h1 h2 h3 h5 hd hRY hf hlen hls hst hroom hdg) (fun H1 l1 V1 => ?_)
    refine kk r t' u' _ sh' hp H1 l1 ?_
    rw [← List.append_assoc (Fw _ _ _ _ _ _ _), ← List.append_assoc] at V1
    exact V1.perm ((Xw_back i hi (hk i hi)).append_right wr)
/-- a method that asks for no history -/
theorem cl_S {y : MethodName} {bytes : ByteArray} {maxL fr lo n index : Nat} {As st0 : List Value} (X : Cx p s m args meth c cc nL own ret) (V : Wd D tc A s H locs (Xw tc xo xa ad ta ha sh t gs hs kt tu tq nT nH ++ wr))
    (jS : (Nat → Int32) → St → Option (Int32 × (Nat → Int32) × St))
    (KS : ∀ (xo : Nat) (xa ad : Nat → Nat) (f g : Nat → Option Nat) (nT nH : Int32) (rest : va_W) (t : Nat → Int32) (u : St) {x0 : Int32 × (Nat → Int32) × St}, jS t u = some x0 → MetD l D tc y bytes maxL (some .int) fr lo (.ref xo :: As) (Bw tc xo xa ad f g nT nH t ++ (Sw tc ad u ++ rest)) (some (.int x0.1)) (Bw tc xo xa ad f g nT nH x0.2.1 ++ (Sw tc ad x0.2.2 ++ rest)))
    (Post : Int32 → (Nat → Int32) → St → Prop)
    (PS : ∃ (r : Int32) (t' : Nat → Int32) (u' : St), jS t gs = some (r, t', u') ∧ Post r t' (mrgS gs u'))
    (h1 : Cond.methodLink own index y ∈ lw_g) (h2 : Cond.instanceMethod y ∈ lw_g) (h3 : Cond.selects RX6 y y ∈ lw_g) (h5 : Cond.code y bytes maxL (some .int) ∈ lw_g)
    (hd : y.cls = RX6 ∧ y.cls ≠ "java/lang/invoke/MethodHandle" ∧ y.cls ≠ "java/lang/invoke/VarHandle" ∧ (parseMethodDescriptor y.desc).map (fun d => d.parameters.length) = some n) (hR : fr + 1 ≤ R.frames ∧ 8 + (maxL + 11) + lo ≤ R.locals) (hf : cells ≤ R.cells ∧ slots ≤ R.slots)
    (hlen : As.length = n) (hls : ls.size = nL) (hst : st0 = As.reverse ++ .ref xo :: rest) (hroom : (rest.map fun v => v.category).sum ≤ 8) (hdg : decode cc pc = .ok (.invokevirtual index, 3))
    (kk : ∀ (r : Int32) (t' : Nat → Int32) (gs' : St), Post r t' gs' → ∀ (H1 : Heap) (locs1 : List Loc), Wd D tc A s H1 locs1 (Xw tc xo xa ad ta ha sh t' gs' hs kt tu tq nT nH ++ wr) → W p l e R s m args below meth c H1 locs1 cells slots Q (F0 m (pc + 3) ls (.int r :: rest))) :
    W p l e R s m args below meth c H locs cells slots Q (F0 m pc ls st0) := by
  obtain ⟨r, t', u', hj, hp⟩ := PS
  have pm : ∀ (t : Nat → Int32) (g u : St), (Xw tc xo xa ad ta ha sh t (mrgS g u) hs kt tu tq nT nH ++ wr).Perm (Bw tc xo xa ad (rowT ta nT) (rowH ha nH) (nI nT) (nI nH) t ++ (Sw tc ad u ++ (((Gw tc ad sh g).take 6 ++ (Tabs tc ta tu tq nT ++ Hists tc ta ha kt hs nH)) ++ wr))) := by
    intro t g u
    rw [Xw_flat]
    refine List.Perm.append_left _ ?_
    have e1 : Gw tc ad sh (mrgS g u) = (Gw tc ad sh g).take 6 ++ Sw tc ad u := rfl
    rw [e1, ← List.append_assoc (Sw tc ad u)]
    refine List.Perm.append_right _ ?_
    rw [← List.append_assoc (Sw tc ad u)]
    exact List.Perm.append_right _ List.perm_append_comm
  have e2 : mrgS gs gs = gs := by
    obtain ⟨a, b, c⟩ := gs
    unfold mrgS
    simp
  have pg := pm t gs gs
  rw [e2] at pg
  have V2 := V.perm pg
  refine x_allI V2 _ (rg_map _) (cl_run X V2 (KS xo xa ad _ _ _ _ _ t gs hj) h1 h2 h3 h5 hd hR hf hlen hls hst hroom hdg) (fun H1 l1 V1 _ => ?_)
  exact kk r t' _ hp H1 l1 (V1.perm (pm t' gs u').symm)
/-- machine() -/
theorem cl_machine {index : Nat} {st0 : List Value} (X : Cx p s m args meth c cc nL own ret) (V : Wd D tc A s H locs (Xw tc xo xa ad ta ha sh t gs hs kt tu tq nT nH ++ wr)) (h4 : nT ≤ 4) (hk : ∀ i, i < nH → ∀ j, kt i = some j → j < nT)
    (h1 : Cond.methodLink own index yX6_machine ∈ lw_g) (hRf : 4 ≤ R.frames) (hRl : 200 ≤ R.locals) (hf : cells + 3 ≤ R.cells ∧ slots + 67 ≤ R.slots) (hls : ls.size = nL) (hst : st0 = .ref xo :: rest) (hroom : (rest.map fun v => v.category).sum ≤ 8) (hdg : decode cc pc = .ok (.invokevirtual index, 3))
    (kF : nT = 4 → ∀ (H1 : Heap) (locs1 : List Loc), Wd D tc A s H1 locs1 (Xw tc xo xa ad ta ha sh t gs hs kt tu tq nT nH ++ wr) → W p l e R s m args below meth c H1 locs1 cells slots Q (F0 m (pc + 3) ls (.int (-4) :: rest)))
    (kO : nT < 4 → ∀ (ta' : Nat → Nat → Nat) (H1 : Heap) (locs1 : List Loc), Wd D tc A s H1 locs1 (Xw tc xo xa ad ta' ha sh t gs hs kt (fun j => if j = nT then 0 else tu j) (fun j => if j = nT then (fun _ => 0, fun _ => 0) else tq j) (nT + 1) nH ++ wr) → W p l e R s m args below meth c H1 locs1 (cells + 3) (slots + 67) Q (F0 m (pc + 3) ls (.int (nI nT) :: rest))) :
    W p l e R s m args below meth c H locs cells slots Q (F0 m pc ls st0) := by
  rw [Xw_flat] at V
  by_cases h : nT < 4
  · refine x_allG V _ (rg_map _) (cl_run (n := 0) X V (kc_X6_machine l D tc xo xa ad _ _ _ _ t _ (nI_lt h (by decide)) (vp_in_nI h (by decide))) h1 (by decide +kernel) (by decide +kernel) (by decide +kernel) (by decide +kernel) ⟨by omega, by omega⟩ hf rfl hls hst hroom hdg) (fun v w H1 l1 hRT V1 => ?_)
    obtain ⟨rfl, tb, rfl⟩ := hRT
    rw [nI_up]
    refine kO h (fun j => if j = nT then tb else ta j) H1 l1 (V1.perm ?_)
    rw [Xw_flat]
    have eT := Tabs_snoc (tc := tc) (ta := ta) (ta' := fun j => if j = nT then tb else ta j) (tu := tu) (tu' := fun j => if j = nT then 0 else tu j) (tq := tq) (tq' := fun j => if j = nT then ((fun _ => 0, fun _ => 0) : (Nat → Int32) × (Nat → Int32)) else tq j) (n := nT) (fun j hj => if_neg (by omega)) (fun j hj => if_neg (by omega)) (fun j hj => if_neg (by omega))
    simp only [if_true] at eT
    have eH : Hists tc (fun j => if j = nT then tb else ta j) ha kt hs nH = Hists tc ta ha kt hs nH := Hists_congr (fun _ _ => rfl) (fun i hi => by
      cases e : kt i with
      | none => rfl
      | some j =>
        have := hk i hi j e
        show Value.ref ((if j = nT then tb else ta j) 0) = .ref (ta j 0)
        rw [if_neg (by omega)]) (fun _ _ => rfl)
    have eR : va_up (rowT ta nT) (nI nT).toNatClampNeg (some (tb 0)) = rowT (fun j => if j = nT then tb else ta j) (nT + 1) := by
      have := rowT_snoc (ta := ta) (ta' := fun j => if j = nT then tb else ta j) (n := nT) (fun j hj => if_neg (by omega)) (by omega)
      simp only [if_true] at this
      exact this
    rw [eR, nI_1, eT, eH]
    refine List.Perm.append_left _ ?_
    rw [← List.append_assoc]
    refine List.Perm.append_right _ ?_
    generalize Tb tc tb 0 (some (fun _ => 0, fun _ => 0)) = a
    generalize Gw tc ad sh gs = b
    generalize Tabs tc ta tu tq nT = c1
    generalize Hists tc ta ha kt hs nH = d
    have q1 : (a ++ (b ++ (c1 ++ d))).Perm ((b ++ (c1 ++ d)) ++ a) := List.perm_append_comm
    refine q1.trans ?_
    rw [List.append_assoc]
    refine List.Perm.append_left b ?_
    rw [List.append_assoc, List.append_assoc]
    exact List.Perm.append_left c1 List.perm_append_comm
  · have h4' : nT = 4 := by omega
    refine W.widen (k := cells) (n := slots) (Nat.le_refl _) (Nat.le_refl _) ?_
    refine x_allG V _ (rg_map _) (cl_run (n := 0) X V (kc_X6_machine_full l D tc xo xa ad _ _ _ _ t _ (by rw [h4']; decide)) h1 (by decide +kernel) (by decide +kernel) (by decide +kernel) (by decide +kernel) ⟨by omega, by omega⟩ ⟨by omega, by omega⟩ rfl hls hst hroom hdg) (fun v w H1 l1 hRT V1 => ?_)
    obtain ⟨rfl, rfl⟩ := hRT
    refine kF h4' H1 l1 ?_
    rw [Xw_flat]
    exact V1
end FACE2
