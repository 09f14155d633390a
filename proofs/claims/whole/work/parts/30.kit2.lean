/-! ===== worlds in another order; calls in a part of the world ===== -/
theorem va_P_mem {D : va_G} {cl : List vw_C} {ws : va_W} {H : Heap} : va_P D cl ws H ↔ ∀ q ∈ ws, va_at D cl q H := by
  constructor
  · intro h q hq
    obtain ⟨i, hi⟩ := List.getElem?_of_mem hq
    exact h i q hi
  · intro h k q hk
    exact h q (List.mem_of_getElem? hk)
theorem va_D_nd {A : Nat → Prop} {ws : va_W} : va_D A ws ↔ (ws.map Prod.fst).Nodup ∧ ∀ q ∈ ws, A q.1 := by
  constructor
  · rintro ⟨h1, h2⟩
    refine ⟨?_, fun q hq => ?_⟩
    · rw [List.nodup_iff_pairwise_ne, List.pairwise_iff_getElem]
      intro i j hi hj hij e
      rw [List.length_map] at hi hj
      simp only [List.getElem_map] at e
      have := h1 i j ws[i] ws[j] (List.getElem?_eq_getElem hi) (List.getElem?_eq_getElem hj) e
      omega
    · obtain ⟨i, hi⟩ := List.getElem?_of_mem hq
      exact h2 i q hi
  · rintro ⟨h1, h2⟩
    refine ⟨fun i j p q hi hj e => ?_, fun k q hk => h2 q (List.mem_of_getElem? hk)⟩
    obtain ⟨hi1, rfl⟩ := List.getElem?_eq_some_iff.mp hi
    obtain ⟨hj1, rfl⟩ := List.getElem?_eq_some_iff.mp hj
    rw [List.nodup_iff_pairwise_ne, List.pairwise_iff_getElem] at h1
    rcases Nat.lt_trichotomy i j with c | c | c
    · exact absurd (by rw [List.getElem_map, List.getElem_map]; exact e) (h1 i j (by rw [List.length_map]; exact hi1) (by rw [List.length_map]; exact hj1) c)
    · exact c
    · exact absurd (by rw [List.getElem_map, List.getElem_map]; exact e.symm) (h1 j i (by rw [List.length_map]; exact hj1) (by rw [List.length_map]; exact hi1) c)
theorem va_P.perm {D : va_G} {cl : List vw_C} {ws ws' : va_W} {H : Heap} (h : va_P D cl ws H) (p : ws.Perm ws') : va_P D cl ws' H := va_P_mem.mpr (fun q hq => va_P_mem.mp h q (p.mem_iff.mpr hq))
theorem va_D.perm {A : Nat → Prop} {ws ws' : va_W} (h : va_D A ws) (p : ws.Perm ws') : va_D A ws' := by
  obtain ⟨h1, h2⟩ := va_D_nd.mp h
  exact va_D_nd.mpr ⟨((p.map Prod.fst).nodup_iff).mp h1, fun q hq => h2 q (p.mem_iff.mpr hq)⟩
theorem Wd.perm {D : va_G} {tc : Nat → ClassId} {A : Nat → Prop} {s : State} {H : Heap} {locs : List Loc} {ws ws' : va_W} (V : Wd D tc A s H locs ws) (p : ws.Perm ws') : Wd D tc A s H locs ws' := ⟨V.1, V.2.1.perm p, V.2.2.1.perm p, V.2.2.2.1, V.2.2.2.2⟩
theorem mid_map (w0 wc wr : va_W) : ((List.range wc.length).map (· + w0.length)).map (fun i => (w0 ++ (wc ++ wr))[i]?) = wc.map some := by
  apply List.ext_getElem?
  intro i
  by_cases h : i < wc.length
  · simp only [List.getElem?_map, List.getElem?_range h, Option.map_some]
    rw [List.getElem?_append_right (by omega), Nat.add_sub_cancel, List.getElem?_append_left h, List.getElem?_eq_getElem h]
    rfl
  · simp [h]
theorem mid_nd (w0 wc : va_W) : va_nd ((List.range wc.length).map (· + w0.length)) = true := by
  apply rg_nd_aux
  rw [List.nodup_iff_pairwise_ne, List.pairwise_map]
  have h := List.nodup_range (n := wc.length)
  rw [List.nodup_iff_pairwise_ne] at h
  exact h.imp (fun hab e => hab (by omega))
theorem mid_perm (w0 w1 wr : va_W) : ((w0 ++ wr) ++ w1).Perm (w0 ++ (w1 ++ wr)) := by
  rw [List.append_assoc]
  exact List.Perm.append_left w0 List.perm_append_comm
section KIT3
variable {p : Program} {l : Launch} {e : Env} {R : Room} {s : State} {m : MethodId} {args : Array Value} {below : List Frame} {meth : Method} {c : Code} {H : Heap} {locs : List Loc} {cells slots : Nat} {Q : State → Prop}
variable {cc : ByteArray} {nL : Nat} {own : String} {ret : Option FieldType} {D : va_G} {tc : Nat → ClassId} {A : Nat → Prop} {ws : va_W} {pc : Nat} {ls : Array Slot} {rest : List Value} {a : Nat}
theorem x_midG {mc ms : Nat} {rt : Option FieldType} {w0 wc wr : va_W} {RT : Option Value → va_W → Prop} {st0 : List Value} {av : Array Value} (V : Wd D tc A s H locs (w0 ++ (wc ++ wr)))
    (hr : va_Run p l e R s m args below meth c H locs cells slots mc ms (F0 m pc ls st0) rest (QcM D wc H.size rt RT av) (va_A wc H.size))
    (kk : ∀ (v : Option Value) (w1 : va_W) (H1 : Heap) (locs1 : List Loc), RT v w1 → NR rt v → Wd D tc A s H1 locs1 (w0 ++ (w1 ++ wr)) → W p l e R s m args below meth c H1 locs1 (cells + mc) (slots + ms) Q (F0 m (pc + 3) ls (v.toList ++ rest))) :
    W p l e R s m args below meth c H locs cells slots Q (F0 m pc ls st0) :=
  x_back V _ (mid_map w0 wc wr) rfl hr (fun v w H1 l1 hRT hNR hw => by
    refine kk v w H1 l1 hRT hNR (Wd.perm (hw (w0 ++ wr) (List.range w0.length ++ (List.range wr.length).map (· + (w0.length + wc.length))) ?_ ?_ ?_) (mid_perm w0 w wr))
    · rw [List.map_append, List.map_append]
      congr 1
      · apply List.ext_getElem?
        intro i
        by_cases h : i < w0.length
        · simp only [List.getElem?_map, List.getElem?_range h, Option.map_some]
          rw [List.getElem?_append_left h, List.getElem?_eq_getElem h]
          rfl
        · simp [h]
      · apply List.ext_getElem?
        intro i
        by_cases h : i < wr.length
        · simp only [List.getElem?_map, List.getElem?_range h, Option.map_some]
          rw [← List.append_assoc, List.getElem?_append_right (by rw [List.length_append]; omega), List.length_append, Nat.add_sub_cancel, List.getElem?_eq_getElem h]
          rfl
        · simp [h]
    · apply rg_nd_aux
      rw [List.nodup_append]
      refine ⟨List.nodup_range, ?_, ?_⟩
      · rw [List.nodup_iff_pairwise_ne, List.pairwise_map]
        have h := List.nodup_range (n := wr.length)
        rw [List.nodup_iff_pairwise_ne] at h
        exact h.imp (fun hab e => hab (by omega))
      · intro x hx y hy e
        have h1 := List.mem_range.mp hx
        obtain ⟨z, -, hz⟩ := List.mem_map.mp hy
        omega
    · intro i hi hc
      obtain ⟨y, hy, hy2⟩ := List.mem_map.mp hc
      have hy3 := List.mem_range.mp hy
      rcases List.mem_append.mp hi with h | h
      · have := List.mem_range.mp h
        omega
      · obtain ⟨z, -, hz⟩ := List.mem_map.mp h
        omega)
theorem x_midI {ty : FieldType} {w0 wc wr : va_W} {r1 : Int32} {w1 : va_W} {st0 : List Value} {av : Array Value} (V : Wd D tc A s H locs (w0 ++ (wc ++ wr)))
    (hr : va_Run p l e R s m args below meth c H locs cells slots 0 0 (F0 m pc ls st0) rest (QcM D wc H.size (some ty) (fun v w => v = some (.int r1) ∧ w = w1) av) (va_A wc H.size))
    (kk : ∀ (H1 : Heap) (locs1 : List Loc), Wd D tc A s H1 locs1 (w0 ++ (w1 ++ wr)) → narrow ty (.int r1) = .int r1 → W p l e R s m args below meth c H1 locs1 cells slots Q (F0 m (pc + 3) ls (.int r1 :: rest))) :
    W p l e R s m args below meth c H locs cells slots Q (F0 m pc ls st0) := x_midG V hr (fun v w H1 l1 hRT hn h => by
      obtain ⟨rfl, rfl⟩ := hRT
      exact kk H1 l1 h (hn ty r1 rfl rfl))
theorem x_midL {rt : Option FieldType} {w0 wc wr : va_W} {r1 : Int64} {w1 : va_W} {st0 : List Value} {av : Array Value} (V : Wd D tc A s H locs (w0 ++ (wc ++ wr)))
    (hr : va_Run p l e R s m args below meth c H locs cells slots 0 0 (F0 m pc ls st0) rest (QcM D wc H.size rt (fun v w => v = some (.long r1) ∧ w = w1) av) (va_A wc H.size))
    (kk : ∀ (H1 : Heap) (locs1 : List Loc), Wd D tc A s H1 locs1 (w0 ++ (w1 ++ wr)) → W p l e R s m args below meth c H1 locs1 cells slots Q (F0 m (pc + 3) ls (.long r1 :: rest))) :
    W p l e R s m args below meth c H locs cells slots Q (F0 m pc ls st0) := x_midG V hr (fun v w H1 l1 hRT hn h => by
      obtain ⟨rfl, rfl⟩ := hRT
      exact kk H1 l1 h)
theorem x_midV {rt : Option FieldType} {w0 wc wr : va_W} {w1 : va_W} {st0 : List Value} {av : Array Value} (V : Wd D tc A s H locs (w0 ++ (wc ++ wr)))
    (hr : va_Run p l e R s m args below meth c H locs cells slots 0 0 (F0 m pc ls st0) rest (QcM D wc H.size rt (fun v w => v = none ∧ w = w1) av) (va_A wc H.size))
    (kk : ∀ (H1 : Heap) (locs1 : List Loc), Wd D tc A s H1 locs1 (w0 ++ (w1 ++ wr)) → W p l e R s m args below meth c H1 locs1 cells slots Q (F0 m (pc + 3) ls rest)) :
    W p l e R s m args below meth c H locs cells slots Q (F0 m pc ls st0) := x_midG V hr (fun v w H1 l1 hRT hn h => by
      obtain ⟨rfl, rfl⟩ := hRT
      exact kk H1 l1 h)
theorem x_allR {rt : Option FieldType} {wc : va_W} {v1 : Value} {w1 : va_W} {st0 : List Value} {av : Array Value} (V : Wd D tc A s H locs ws) (isC : List Nat) (hC : isC.map (fun i => ws[i]?) = wc.map some)
    (hr : va_Run p l e R s m args below meth c H locs cells slots 0 0 (F0 m pc ls st0) rest (QcM D wc H.size rt (fun v w => v = some v1 ∧ w = w1) av) (va_A wc H.size))
    (kk : ∀ (H1 : Heap) (locs1 : List Loc), Wd D tc A s H1 locs1 w1 → W p l e R s m args below meth c H1 locs1 cells slots Q (F0 m (pc + 3) ls (v1 :: rest))) :
    W p l e R s m args below meth c H locs cells slots Q (F0 m pc ls st0) := x_all V isC hC hr (fun H1 l1 h _ => kk H1 l1 h)
theorem x_areti {RT : Option Value → va_W → Prop} {w : va_W} {sz mc ms : Nat} {rt : FieldType} {v : Value} (hcl : cells ≤ mc) (hsl : slots ≤ ms) (C : Cx p s m args meth c cc nL own (some rt)) (hA : A = va_A ws sz) (hrt : (∃ n, rt = .object n) ∨ ∃ t, rt = .array t) (hv : v = .null ∨ ∃ a, v = .ref a) (hRT : RT (some v) w) (V : Wd D tc A s H locs w) (hdg : decode cc pc = .ok (.areturn, 1)) :
    W p l e R s m args below meth c H locs cells slots (MQ below (QcM D ws sz (some rt) RT) args s mc ms A) (F0 m pc ls [v]) := by
  obtain ⟨hx, hb, hr, hml, hown, hts, hlocks, hN⟩ := C
  obtain ⟨hK, hP, hD, hS, hA2⟩ := V
  refine W.widen hcl hsl ?_
  exact W.aret hx hb hr hrt hv (fun t ht hW => ⟨⟨some v, w, rfl, hRT, ⟨by rw [ht]; exact hP, by rw [← hA]; exact hD⟩, fun ty2 r2 h1 h2 => by
    rcases hv with rfl | ⟨a, rfl⟩
    · cases h2
    · cases h2⟩, by rw [← hA]; exact hS.F ht⟩) hS.2.2 hdg
end KIT3
/-- the history that there is, at its address; and none -/
def FY (nH : Int32) (g : Nat → Option Nat) (a : Nat) (h : Int32) : Prop := ¬ h < 0 ∧ ¬ nH ≤ h ∧ vp_in h 12 ∧ g h.toNatClampNeg = some a
def FN (nH : Int32) (h : Int32) : Prop := h < 0 ∨ (¬ h < 0 ∧ nH ≤ h)
def Bw (tc : Nat → ClassId) (xo : Nat) (xa ad : Nat → Nat) (f g : Nat → Option Nat) (nT nH : Int32) (t : Nat → Int32) : va_W := [(xo, .inr (5, [.ref (xa 0), .int nT, .ref (xa 1), .int nH, .ref (ad 0), .ref (ad 14), .int (t 42), .ref (ad 16), .int (t 43), .int (t 44)])), (xa 0, .inl (tc 3, 4, .inr (.inr (.inr (.inr f))))), (xa 1, .inl (tc 2, 12, .inr (.inr (.inr (.inr g)))))]
def Sw (tc : Nat → ClassId) (ad : Nat → Nat) (u : St) : va_W := [(ad 14, .inr (0, [.ref (ad 15), .int (u.1 30)])), (ad 15, .inl (tc 0, 64, .inl (u.2.1 31))), (ad 16, .inl (tc 0, 10, .inl (u.2.1 32)))]
/-- the table that there is, at its address -/
def FYt (nT : Int32) (f : Nat → Option Nat) (a : Nat) (h : Int32) : Prop := ¬ h < 0 ∧ ¬ nT ≤ h ∧ vp_in h 4 ∧ f h.toNatClampNeg = some a
set_option maxHeartbeats 4000000 in
theorem kY_historyOf (l : Launch) (D : va_G) (tc : Nat → ClassId) (xo : Nat) (xa ad : Nat → Nat) (f g : Nat → Option Nat) (nT nH : Int32) (t : Nat → Int32) (tl : va_W) (h : Int32) {a : Nat} (hfd : FY nH g a h) : MetD l D tc yX6_historyOf cX6_historyOf 2 (some (.object "HistoryCourt$History")) 0 0 [.ref xo, .int h] (Bw tc xo xa ad f g nT nH t ++ tl) (some (.ref a)) (Bw tc xo xa ad f g nT nH t ++ tl) :=
  x_ent (by decide) (own := RX6) rfl (Nat.le_of_ble_eq_true rfl) (fun p e s m args below meth c A sz ls hA _ _ C V hl => by
  obtain ⟨hx, hb, hr, hml, hown, hts, hlk, hN⟩ := id C
  have hl : lv_has ls 2 [(0, .ref xo), (1, .int h)] := hl
  obtain ⟨h1, h2, h3, h4⟩ := hfd
  refine lv_iload_n hx hb dX6_historyOf_0 rfl (lv_at hl 1 rfl) ?_
  refine lv_if_lt (tgt := 21) hx hb dX6_historyOf_1 (by decide) (fun c1 => absurd c1 h1) (fun c1 => ?_)
  refine lv_iload_n hx hb dX6_historyOf_4 rfl (lv_at hl 1 rfl) ?_
  refine lv_aload_n hx hb dX6_historyOf_5 rfl (lv_at hl 0 rfl) ?_
  refine x_get hx hb hts hown V inX6 0 rfl rfl 3 (by decide) tw_144 rfl rfl dX6_historyOf_6 ?_
  refine lv_icmp_ge (tgt := 21) hx hb dX6_historyOf_9 (by decide) (fun c2 => absurd c2 h2) (fun c2 => ?_)
  refine lv_aload_n hx hb dX6_historyOf_12 rfl (lv_at hl 0 rfl) ?_
  refine x_get hx hb hts hown V inX6 0 rfl rfl 2 (by decide) tw_143 rfl rfl dX6_historyOf_13 ?_
  refine lv_iload_n hx hb dX6_historyOf_16 rfl (lv_at hl 1 rfl) ?_
  refine va_aldq hx hb V.1 V.2.1 2 2 rfl rfl h3 dX6_historyOf_17 ?_
  rw [h4]
  refine lv_goto (tgt := 22) hx hb dX6_historyOf_18 (by decide) ?_
  exact x_areti (Nat.le_refl 0) (Nat.le_refl 0) C hA (Or.inl ⟨_, rfl⟩) (Or.inr ⟨a, rfl⟩) ⟨rfl, rfl⟩ V dX6_historyOf_22)
set_option maxHeartbeats 4000000 in
theorem kN_historyOf (l : Launch) (D : va_G) (tc : Nat → ClassId) (xo : Nat) (xa ad : Nat → Nat) (f g : Nat → Option Nat) (nT nH : Int32) (t : Nat → Int32) (tl : va_W) (h : Int32) (hfd : FN nH h) : MetD l D tc yX6_historyOf cX6_historyOf 2 (some (.object "HistoryCourt$History")) 0 0 [.ref xo, .int h] (Bw tc xo xa ad f g nT nH t ++ tl) (some .null) (Bw tc xo xa ad f g nT nH t ++ tl) :=
  x_ent (by decide) (own := RX6) rfl (Nat.le_of_ble_eq_true rfl) (fun p e s m args below meth c A sz ls hA _ _ C V hl => by
  obtain ⟨hx, hb, hr, hml, hown, hts, hlk, hN⟩ := id C
  have hl : lv_has ls 2 [(0, .ref xo), (1, .int h)] := hl
  refine lv_iload_n hx hb dX6_historyOf_0 rfl (lv_at hl 1 rfl) ?_
  refine lv_if_lt (tgt := 21) hx hb dX6_historyOf_1 (by decide) (fun c1 => ?_) (fun c1 => ?_)
  · refine lv_null hx hb dX6_historyOf_21 ?_
    exact x_areti (Nat.le_refl 0) (Nat.le_refl 0) C hA (Or.inl ⟨_, rfl⟩) (Or.inl rfl) ⟨rfl, rfl⟩ V dX6_historyOf_22
  · refine lv_iload_n hx hb dX6_historyOf_4 rfl (lv_at hl 1 rfl) ?_
    refine lv_aload_n hx hb dX6_historyOf_5 rfl (lv_at hl 0 rfl) ?_
    refine x_get hx hb hts hown V inX6 0 rfl rfl 3 (by decide) tw_144 rfl rfl dX6_historyOf_6 ?_
    refine lv_icmp_ge (tgt := 21) hx hb dX6_historyOf_9 (by decide) (fun c2 => ?_) (fun c2 => ?_)
    · refine lv_null hx hb dX6_historyOf_21 ?_
      exact x_areti (Nat.le_refl 0) (Nat.le_refl 0) C hA (Or.inl ⟨_, rfl⟩) (Or.inl rfl) ⟨rfl, rfl⟩ V dX6_historyOf_22
    · exact absurd hfd (fun z => z.elim c1 (fun y => c2 y.2)))
set_option maxHeartbeats 4000000 in
theorem kY_tableOf (l : Launch) (D : va_G) (tc : Nat → ClassId) (xo : Nat) (xa ad : Nat → Nat) (f g : Nat → Option Nat) (nT nH : Int32) (t : Nat → Int32) (tl : va_W) (h : Int32) {a : Nat} (hfd : FYt nT f a h) : MetD l D tc yX6_tableOf cX6_tableOf 2 (some (.object "HistoryCourt$Table")) 0 0 [.ref xo, .int h] (Bw tc xo xa ad f g nT nH t ++ tl) (some (.ref a)) (Bw tc xo xa ad f g nT nH t ++ tl) :=
  x_ent (by decide) (own := RX6) rfl (Nat.le_of_ble_eq_true rfl) (fun p e s m args below meth c A sz ls hA _ _ C V hl => by
  obtain ⟨hx, hb, hr, hml, hown, hts, hlk, hN⟩ := id C
  have hl : lv_has ls 2 [(0, .ref xo), (1, .int h)] := hl
  obtain ⟨h1, h2, h3, h4⟩ := hfd
  refine lv_iload_n hx hb dX6_tableOf_0 rfl (lv_at hl 1 rfl) ?_
  refine lv_if_lt (tgt := 21) hx hb dX6_tableOf_1 (by decide) (fun c1 => absurd c1 h1) (fun c1 => ?_)
  refine lv_iload_n hx hb dX6_tableOf_4 rfl (lv_at hl 1 rfl) ?_
  refine lv_aload_n hx hb dX6_tableOf_5 rfl (lv_at hl 0 rfl) ?_
  refine x_get hx hb hts hown V inX6 0 rfl rfl 1 (by decide) tw_142 rfl rfl dX6_tableOf_6 ?_
  refine lv_icmp_ge (tgt := 21) hx hb dX6_tableOf_9 (by decide) (fun c2 => absurd c2 h2) (fun c2 => ?_)
  refine lv_aload_n hx hb dX6_tableOf_12 rfl (lv_at hl 0 rfl) ?_
  refine x_get hx hb hts hown V inX6 0 rfl rfl 0 (by decide) tw_141 rfl rfl dX6_tableOf_13 ?_
  refine lv_iload_n hx hb dX6_tableOf_16 rfl (lv_at hl 1 rfl) ?_
  refine va_aldq hx hb V.1 V.2.1 1 3 rfl rfl h3 dX6_tableOf_17 ?_
  rw [h4]
  refine lv_goto (tgt := 22) hx hb dX6_tableOf_18 (by decide) ?_
  exact x_areti (Nat.le_refl 0) (Nat.le_refl 0) C hA (Or.inl ⟨_, rfl⟩) (Or.inr ⟨a, rfl⟩) ⟨rfl, rfl⟩ V dX6_tableOf_22)
set_option maxHeartbeats 4000000 in
theorem kN_tableOf (l : Launch) (D : va_G) (tc : Nat → ClassId) (xo : Nat) (xa ad : Nat → Nat) (f g : Nat → Option Nat) (nT nH : Int32) (t : Nat → Int32) (tl : va_W) (h : Int32) (hfd : FN nT h) : MetD l D tc yX6_tableOf cX6_tableOf 2 (some (.object "HistoryCourt$Table")) 0 0 [.ref xo, .int h] (Bw tc xo xa ad f g nT nH t ++ tl) (some .null) (Bw tc xo xa ad f g nT nH t ++ tl) :=
  x_ent (by decide) (own := RX6) rfl (Nat.le_of_ble_eq_true rfl) (fun p e s m args below meth c A sz ls hA _ _ C V hl => by
  obtain ⟨hx, hb, hr, hml, hown, hts, hlk, hN⟩ := id C
  have hl : lv_has ls 2 [(0, .ref xo), (1, .int h)] := hl
  refine lv_iload_n hx hb dX6_tableOf_0 rfl (lv_at hl 1 rfl) ?_
  refine lv_if_lt (tgt := 21) hx hb dX6_tableOf_1 (by decide) (fun c1 => ?_) (fun c1 => ?_)
  · refine lv_null hx hb dX6_tableOf_21 ?_
    exact x_areti (Nat.le_refl 0) (Nat.le_refl 0) C hA (Or.inl ⟨_, rfl⟩) (Or.inl rfl) ⟨rfl, rfl⟩ V dX6_tableOf_22
  · refine lv_iload_n hx hb dX6_tableOf_4 rfl (lv_at hl 1 rfl) ?_
    refine lv_aload_n hx hb dX6_tableOf_5 rfl (lv_at hl 0 rfl) ?_
    refine x_get hx hb hts hown V inX6 0 rfl rfl 1 (by decide) tw_142 rfl rfl dX6_tableOf_6 ?_
    refine lv_icmp_ge (tgt := 21) hx hb dX6_tableOf_9 (by decide) (fun c2 => ?_) (fun c2 => ?_)
    · refine lv_null hx hb dX6_tableOf_21 ?_
      exact x_areti (Nat.le_refl 0) (Nat.le_refl 0) C hA (Or.inl ⟨_, rfl⟩) (Or.inl rfl) ⟨rfl, rfl⟩ V dX6_tableOf_22
    · exact absurd hfd (fun z => z.elim c1 (fun y => c2 y.2)))
