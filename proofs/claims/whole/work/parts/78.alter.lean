def altV (v : HVT) (c : Nat) (x : Int32) : HVT := ((kdOf v, nOf v, tkOf v), caOf v, acOf v, bgOf v, enOf v, aOf v, bOf v, (fun q => if q = c then x else vOf v q))
theorem WF_alt {v : HVT} {c : Nat} {x : Int32} (h : WF v) (hc : c < nOf v) : WF (altV v c x) := by
  obtain ⟨h1, h2, h3, h4, h5, h6⟩ := h
  refine ⟨h1, h2, h3, h4, h5, fun q hq => ?_⟩
  have hq' : nOf v ≤ q := hq
  refine ⟨(h6 q hq').1, ?_⟩
  show (if q = c then x else vOf v q) = 0
  rw [if_neg (by omega)]
  exact (h6 q hq').2
theorem CR_alt {u : St} {v : HVT} {c : Nat} {x : Int32} (h : CR u v) : CR (sA u 10 c x) (altV v c x) := by
  obtain ⟨h1, h2, h3, h4⟩ := h
  refine ⟨h1, h2, h3, fun q hq => ?_⟩
  obtain ⟨z1, z2, z3, z4, z5, z6, z7⟩ := h4 q hq
  refine ⟨z1, z2, z3, z4, z5, z6, ?_⟩
  show (sA u 10 c x).2.1 10 q = if q = c then x else vOf v q
  rw [sA_2]
  by_cases e : q = c
  · rw [if_pos ⟨rfl, e⟩, if_pos e]
  · rw [if_neg (fun z => e z.2), if_neg e]
    exact z7
theorem RR_alt {U : St} {v : HVT} {i c : Nat} {x : Int32} (h : RR U i v) : RR (sA U 15 (10 * i + c) x) i (altV v c x) := by
  obtain ⟨h1, h2, h3, h4⟩ := h
  refine ⟨h1, h2, h3, fun q hq => ?_⟩
  obtain ⟨z1, z2, z3, z4, z5, z6, z7⟩ := h4 q hq
  refine ⟨z1, z2, z3, z4, z5, z6, ?_⟩
  show (sA U 15 (10 * i + c) x).2.1 15 (10 * i + q) = if q = c then x else vOf v q
  rw [sA_2]
  by_cases e : q = c
  · rw [if_pos ⟨rfl, by rw [e]⟩, if_pos e]
  · rw [if_neg (fun z => e (by omega)), if_neg e]
    exact z7
theorem alter_r0 {U : St} {x y z : Int32} (h : j_X7_isCall U x y = some 0) : j_X7_alter U x y z = some (0, sI U 16 (-1)) := by
  unfold j_X7_alter
  rw [h]
  rfl
theorem alter_r {U : St} {i c n nH : Nat} {x : Int32} (hU : U.1 4 = nI nH) (hi : i < nH) (h12 : nH ≤ 12) (hn7 : U.2.1 7 i = nI n) (hc : c < n) (hn : n ≤ 10) : j_X7_alter U (nI i) (nI c) x = if U.2.1 14 (10 * i + c) = 0 then some (0, sI U 16 (-3)) else some (U.2.1 15 (10 * i + c), sA (sI U 16 0) 15 (10 * i + c) x) := by
  unfold j_X7_alter nm
  rw [isCall_Y hU hi h12 hn7 hc hn, isOpen_r (by omega) (by omega)]
  simp only [Option.bind_some]
  rw [if_neg one_ne]
  by_cases e : U.2.1 14 (10 * i + c) = 0
  · rw [if_pos e, if_pos e, if_neg one_ne]
    rfl
  · rw [if_neg e, if_neg e, if_pos rfl]
    show gd (10 * nI i + nI c) 120 (gd (10 * nI i + nI c) 120 (some ((sI U 16 0).2.1 15 (10 * nI i + nI c).toNatClampNeg, sA (sI U 16 0) 15 (10 * nI i + nI c).toNatClampNeg x))) = _
    rw [ix10, gd_nI (by omega) (by decide), gd_nI (by omega) (by decide), nI_clamp (by omega)]
    rfl
theorem alter_c {T : TbT} {a6 sh n c : Nat} {t : Nat → Int32} {u : St} {y x : Int32} (hu : u.1 2 = nI n) (hc : c < n) (hn : n ≤ 10) : j_X6_alter_Y T a6 t u sh y (nI c) x = if u.2.1 9 c = 0 then some (0, upd t 44 (-3), u, sh) else some (u.2.1 10 c, upd t 44 0, sA u 10 c x, sh) := by
  unfold j_X6_alter_Y
  rw [answered_c hu hc hn]
  by_cases e : u.2.1 9 c = 0
  · rw [if_pos e, if_pos e]
    rfl
  · rw [if_neg e, if_neg e]
    show (j_X1_hasCall u (nI c)).bind _ = _
    rw [hasCall_Y hu hc hn]
    show gd (nI c) 10 _ = _
    rw [gd_nI (by omega) (by decide), nI_clamp (by omega)]
    rfl
theorem fc_alter : Fc_alter Iv := by
  intro a1 a2 a3 k0 hk0 t gs hs kt tu tq nT nH U h
  have h' := fc_M k0 hk0 _ _ _ _ _ _ _ _ _ h
  obtain ⟨c1, c2, c3, c4, c5, c6⟩ := h.1
  refine ⟨fun i hi hh a6 sh => ?_, fun hn => ?_⟩
  · subst hh
    obtain ⟨v, v1, v2, v3, v4⟩ := h.2.2.2.2.1 i hi
    have hn10 := v3.2.1
    have hcr : CR (mrg gs (hs i)) v := v1
    have hm := Iv_mrg i h'
    rcases FN_or (nOf v) (by omega) a2 with hx | ⟨c, hc, rfl⟩
    · refine ⟨0, upd t 44 (-1), mrg gs (hs i), sh, sI U 16 (-1), ?_, alter_r0 (isCall_N c4 hi c2 v2.2.1 hx hn10), Iv_status (-1) hm⟩
      show j_X6_alter_Y _ _ _ _ _ _ _ _ = _
      unfold j_X6_alter_Y j_X6_answered_Y
      rw [hasCall_N hcr.2.1 hx]
      rfl
    · obtain ⟨-, -, -, -, -, z6, z7⟩ := hcr.2.2.2 c (by omega)
      obtain ⟨-, -, -, -, -, w6, w7⟩ := v2.2.2.2 c hc
      have e1 := alter_c (T := Tq tq (kt i)) (a6 := a6) (sh := sh) (t := t) (y := nI i) (x := a3) hcr.2.1 hc hn10
      have e2 := alter_r (x := a3) c4 hi c2 v2.2.1 hc hn10
      rw [z6, z7] at e1
      rw [w6, w7] at e2
      by_cases e : nI (enOf v c) = 0
      · rw [if_pos e] at e1 e2
        exact ⟨0, upd t 44 (-3), _, sh, _, e1, e2, Iv_status (-3) hm⟩
      · rw [if_neg e] at e1 e2
        have hs0 := Iv_status 0 h'
        have v2' : RR (sI U 16 0) i v := v2
        refine ⟨_, _, _, sh, _, e1, e2, Iv_hist (v' := altV v c a3) hs0 i v4 rfl rfl rfl rfl rfl rfl rfl rfl rfl rfl rfl rfl (fun j w hj hne hw hr => RR_other hne hw hr (fun q _ => rfl) (fun q _ => rfl) (fun q hq => rfl) (fun k q h9 h15 hq => ?_)) (CR_alt hcr) (RR_alt v2') (WF_alt v3 hc)⟩
        rw [sA_2, if_neg (fun z => by omega)]
  · refine ⟨0, upd t 44 (-1), sI U 16 (-1), ?_, alter_r0 (isCall_NN c4 hn c2), Iv_status (-1) h'⟩
    rfl
