/-! ===== a call of the face, over the whole court ===== -/
theorem nI_clampI {i : Nat} (h : i < 2 ^ 31) : (nI i).toNatClampNeg = i := nI_clamp h
theorem FY_of {ha : Nat → Nat → Nat} {nH i : Nat} (hi : i < nH) (h12 : nH ≤ 12) : FY (nI nH) (rowH ha nH) (ha i 6) (nI i) := by
  refine ⟨nI_pos (by omega), nI_ge hi (by omega), vp_in_nI (by omega) (by omega), ?_⟩
  rw [nI_clamp (by omega)]
  exact if_pos hi
theorem FYt_of {ta : Nat → Nat → Nat} {nT i : Nat} (hi : i < nT) (h4 : nT ≤ 4) : FYt (nI nT) (rowT ta nT) (ta i 0) (nI i) := by
  refine ⟨nI_pos (by omega), nI_ge hi (by omega), vp_in_nI (by omega) (by omega), ?_⟩
  rw [nI_clamp (by omega)]
  exact if_pos hi
/-- a number names one of n things, or none -/
theorem FN_or (n : Nat) (hn : n < 2 ^ 31) (h : Int32) : FN (nI n) h ∨ ∃ i : Nat, i < n ∧ h = nI i := by
  rcases pk_ix h hn with c | c | ⟨j, hj, rfl⟩
  · exact Or.inl (Or.inl c)
  · by_cases c2 : h < 0
    · exact Or.inl (Or.inl c2)
    · exact Or.inl (Or.inr ⟨c2, c⟩)
  · exact Or.inr ⟨j, hj, rfl⟩
theorem Xw_flat {tc : Nat → ClassId} {xo : Nat} {xa ad : Nat → Nat} {ta ha : Nat → Nat → Nat} {sh : Nat} {t : Nat → Int32} {gs : St} {hs : Nat → St} {kt : Nat → Option Nat} {tu : Nat → Int32} {tq : Nat → (Nat → Int32) × (Nat → Int32)} {nT nH : Nat} {wr : va_W} : Xw tc xo xa ad ta ha sh t gs hs kt tu tq nT nH ++ wr = Bw tc xo xa ad (rowT ta nT) (rowH ha nH) (nI nT) (nI nH) t ++ ((Gw tc ad sh gs ++ (Tabs tc ta tu tq nT ++ Hists tc ta ha kt hs nH)) ++ wr) := by
  unfold Xw
  rw [List.append_assoc]
section FACE
variable {p : Program} {l : Launch} {e : Env} {R : Room} {s : State} {m : MethodId} {args : Array Value} {below : List Frame} {meth : Method} {c : Code} {H : Heap} {locs : List Loc} {cells slots : Nat} {Q : State → Prop}
variable {cc : ByteArray} {nL : Nat} {own : String} {ret : Option FieldType} {D : va_G} {tc : Nat → ClassId} {A : Nat → Prop} {pc : Nat} {ls : Array Slot} {rest : List Value}
variable {xo : Nat} {xa ad : Nat → Nat} {ta ha : Nat → Nat → Nat} {sh : Nat} {t : Nat → Int32} {gs : St} {hs : Nat → St} {kt : Nat → Option Nat} {tu : Nat → Int32} {tq : Nat → (Nat → Int32) × (Nat → Int32)} {nT nH : Nat} {wr : va_W}
/-- the call itself, over any world that begins with the court's object -/
theorem cl_run {y : MethodName} {bytes : ByteArray} {maxL fr mc ms lo n index : Nat} {rt : Option FieldType} {RT : Option Value → va_W → Prop} {As st0 : List Value} {f g : Nat → Option Nat} {mT mH : Int32} {tl : va_W} (X : Cx p s m args meth c cc nL own ret) (V : Wd D tc A s H locs (Bw tc xo xa ad f g mT mH t ++ tl))
    (hM : MetG l D tc y bytes maxL rt fr mc ms lo (.ref xo :: As) (Bw tc xo xa ad f g mT mH t ++ tl) RT) (h1 : Cond.methodLink own index y ∈ lw_g) (h2 : Cond.instanceMethod y ∈ lw_g) (h3 : Cond.selects RX6 y y ∈ lw_g) (h5 : Cond.code y bytes maxL rt ∈ lw_g)
    (hd : y.cls = RX6 ∧ y.cls ≠ "java/lang/invoke/MethodHandle" ∧ y.cls ≠ "java/lang/invoke/VarHandle" ∧ (parseMethodDescriptor y.desc).map (fun d => d.parameters.length) = some n) (hR : fr + 1 ≤ R.frames ∧ 8 + (maxL + 11) + lo ≤ R.locals) (hf : cells + mc ≤ R.cells ∧ slots + ms ≤ R.slots)
    (hlen : As.length = n) (hls : ls.size = nL) (hst : st0 = As.reverse ++ .ref xo :: rest) (hroom : (rest.map fun v => v.category).sum ≤ 8) (hdg : decode cc pc = .ok (.invokevirtual index, 3)) :
    va_Run p l e R s m args below meth c H locs cells slots mc ms (F0 m pc ls st0) rest (QcM D (Bw tc xo xa ad f g mT mH t ++ tl) H.size rt RT (Value.ref xo :: As).toArray) (va_A (Bw tc xo xa ad f g mT mH t ++ tl) H.size) :=
  x_runV X V _ (rg_map _) (rg_nd _) hM h1 h2 h3 tw_1 h5 hd hR hf 0 5 rfl rfl hlen hls hst hroom hdg
/-- a method that asks for a history: whether there is one, or not -/
theorem cl_YN {y : MethodName} {bytes : ByteArray} {maxL frY loY frN loN n index : Nat} {As st0 : List Value} {h : Int32} (X : Cx p s m args meth c cc nL own ret) (V : Wd D tc A s H locs (Xw tc xo xa ad ta ha sh t gs hs kt tu tq nT nH ++ wr)) (h12 : nH ≤ 12) (hk : ∀ i, i < nH → ∀ j, kt i = some j → j < nT)
    (jY : TbT → Nat → (Nat → Int32) → St → Nat → Option (Int32 × (Nat → Int32) × St × Nat)) (jN : (Nat → Int32) → Option (Int32 × (Nat → Int32)))
    (KY : ∀ (xo : Nat) (xa ad ta : Nat → Nat) (us : Int32) (T : TbT) (f g : Nat → Option Nat) (nT nH : Int32) (rest : va_W) (t : Nat → Int32) (u : St) (sh : Nat), FY nH g (ad 6) h → ∀ {x0 : Int32 × (Nat → Int32) × St × Nat}, jY T (ad 6) t u sh = some x0 → MetD l D tc y bytes maxL (some .int) frY loY (.ref xo :: As) (Bw tc xo xa ad f g nT nH t ++ (Fw tc ad ta us T sh u ++ rest)) (some (.int x0.1)) (Bw tc xo xa ad f g nT nH x0.2.1 ++ (Fw tc ad ta us T x0.2.2.2 x0.2.2.1 ++ rest)))
    (KN : ∀ (xo : Nat) (xa ad : Nat → Nat) (f g : Nat → Option Nat) (nT nH : Int32) (rest : va_W) (t : Nat → Int32), FN nH h → ∀ {x0 : Int32 × (Nat → Int32)}, jN t = some x0 → MetD l D tc y bytes maxL (some .int) frN loN (.ref xo :: As) (Bw tc xo xa ad f g nT nH t ++ rest) (some (.int x0.1)) (Bw tc xo xa ad f g nT nH x0.2 ++ rest))
    (Post : Int32 → (Nat → Int32) → St → (Nat → St) → Prop)
    (PY : ∀ i, i < nH → h = nI i → ∃ (r : Int32) (t' : Nat → Int32) (u' : St) (sh' : Nat), jY (Tq tq (kt i)) (ha i 6) t (mrg gs (hs i)) sh = some (r, t', u', sh') ∧ Post r t' u' (fun k => if k = i then u' else hs k))
    (PN : FN (nI nH) h → ∃ (r : Int32) (t' : Nat → Int32), jN t = some (r, t') ∧ Post r t' gs hs)
    (h1 : Cond.methodLink own index y ∈ lw_g) (h2 : Cond.instanceMethod y ∈ lw_g) (h3 : Cond.selects RX6 y y ∈ lw_g) (h5 : Cond.code y bytes maxL (some .int) ∈ lw_g)
    (hd : y.cls = RX6 ∧ y.cls ≠ "java/lang/invoke/MethodHandle" ∧ y.cls ≠ "java/lang/invoke/VarHandle" ∧ (parseMethodDescriptor y.desc).map (fun d => d.parameters.length) = some n) (hRY : frY + 1 ≤ R.frames ∧ 8 + (maxL + 11) + loY ≤ R.locals) (hRN : frN + 1 ≤ R.frames ∧ 8 + (maxL + 11) + loN ≤ R.locals) (hf : cells ≤ R.cells ∧ slots ≤ R.slots)
    (hlen : As.length = n) (hls : ls.size = nL) (hst : st0 = As.reverse ++ .ref xo :: rest) (hroom : (rest.map fun v => v.category).sum ≤ 8) (hdg : decode cc pc = .ok (.invokevirtual index, 3))
    (kk : ∀ (r : Int32) (t' : Nat → Int32) (gs' : St) (hs' : Nat → St) (sh' : Nat), Post r t' gs' hs' → ∀ (H1 : Heap) (locs1 : List Loc), Wd D tc A s H1 locs1 (Xw tc xo xa ad ta ha sh' t' gs' hs' kt tu tq nT nH ++ wr) → W p l e R s m args below meth c H1 locs1 cells slots Q (F0 m (pc + 3) ls (.int r :: rest))) :
    W p l e R s m args below meth c H locs cells slots Q (F0 m pc ls st0) := by
  rcases FN_or nH (by omega) h with hn | ⟨i, hi, rfl⟩
  · obtain ⟨r, t', hj, hp⟩ := PN hn
    rw [Xw_flat] at V
    refine x_allI V _ (rg_map _) (cl_run X V (KN _ _ _ _ _ _ _ _ _ hn hj) h1 h2 h3 h5 hd hRN hf hlen hls hst hroom hdg) (fun H1 l1 V1 _ => ?_)
    refine kk r t' gs hs sh hp H1 l1 ?_
    rw [Xw_flat]
    exact V1
  · obtain ⟨r, t', u', sh', hj, hp⟩ := PY i hi rfl
    have V2 := V.perm ((Xw_focus i hi (hk i hi)).append_right wr)
    rw [List.append_assoc, List.append_assoc] at V2
    refine x_allI V2 _ (rg_map _) (cl_run X V2 (KY xo xa (adi ad (ha i)) (Tt ta (kt i)) (Tu tu (kt i)) (Tq tq (kt i)) (rowT ta nT) (rowH ha nH) (nI nT) (nI nH) (Oth tc ta ha hs kt tu tq nT nH i ++ wr) t (mrg gs (hs i)) sh (FY_of hi h12) hj) h1 h2 h3 h5 hd hRY hf hlen hls hst hroom hdg) (fun H1 l1 V1 _ => ?_)
    refine kk r t' u' _ sh' hp H1 l1 ?_
    rw [← List.append_assoc (Fw _ _ _ _ _ _ _), ← List.append_assoc] at V1
    exact V1.perm ((Xw_back i hi (hk i hi)).append_right wr)
end FACE
