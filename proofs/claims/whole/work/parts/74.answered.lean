theorem answered_r0 {U : St} {x y : Int32} (h : j_X7_isCall U x y = some 0) : j_X7_answered U x y = some (0, sI U 16 (-1)) := by
  unfold j_X7_answered
  rw [h]
  rfl
theorem answered_r {U : St} {i c n nH : Nat} (hU : U.1 4 = nI nH) (hi : i < nH) (h12 : nH ≤ 12) (hn7 : U.2.1 7 i = nI n) (hc : c < n) (hn : n ≤ 10) : j_X7_answered U (nI i) (nI c) = if U.2.1 14 (10 * i + c) = 0 then some (0, sI U 16 (-3)) else some (U.2.1 15 (10 * i + c), sI U 16 0) := by
  unfold j_X7_answered nm
  rw [isCall_Y hU hi h12 hn7 hc hn, isOpen_r (by omega) (by omega)]
  simp only [Option.bind_some]
  rw [if_neg one_ne]
  by_cases e : U.2.1 14 (10 * i + c) = 0
  · rw [if_pos e, if_pos e, if_neg one_ne]
    rfl
  · rw [if_neg e, if_neg e, if_pos rfl]
    show gd (10 * nI i + nI c) 120 (some ((sI U 16 0).2.1 15 (10 * nI i + nI c).toNatClampNeg, sI U 16 0)) = _
    rw [ix10, gd_nI (by omega) (by decide), nI_clamp (by omega)]
    rfl
theorem answered_c {T : TbT} {a6 sh n c : Nat} {t : Nat → Int32} {u : St} {x : Int32} (hu : u.1 2 = nI n) (hc : c < n) (hn : n ≤ 10) : j_X6_answered_Y T a6 t u sh x (nI c) = if u.2.1 9 c = 0 then some (0, upd t 44 (-3), u, sh) else some (u.2.1 10 c, upd t 44 0, u, sh) := by
  unfold j_X6_answered_Y nm
  rw [hasCall_Y hu hc hn, isOpen_c hu hc hn]
  simp only [Option.bind_some]
  rw [if_neg one_ne]
  by_cases e : u.2.1 9 c = 0
  · rw [if_pos e, if_pos e, if_neg one_ne]
  · rw [if_neg e, if_neg e, if_pos rfl, gd_nI (by omega) (by decide), nI_clamp (by omega)]
theorem fc_answered : Fc_answered Iv := by
  intro a1 a2 k0 hk0 t gs hs kt tu tq nT nH U h
  have h' := fc_M k0 hk0 _ _ _ _ _ _ _ _ _ h
  obtain ⟨c1, c2, c3, c4, c5, c6⟩ := h.1
  refine ⟨fun i hi hh a6 sh => ?_, fun hn => ?_⟩
  · subst hh
    obtain ⟨v, v1, v2, v3, v4⟩ := h.2.2.2.2.1 i hi
    have hn10 := v3.2.1
    have hcr : CR (mrg gs (hs i)) v := v1
    have hm := Iv_mrg i h'
    rcases FN_or (nOf v) (by omega) a2 with hx | ⟨c, hc, rfl⟩
    · refine ⟨0, upd t 44 (-1), mrg gs (hs i), sh, sI U 16 (-1), ?_, answered_r0 (isCall_N c4 hi c2 v2.2.1 hx hn10), Iv_status (-1) hm⟩
      show j_X6_answered_Y _ _ _ _ _ _ _ = _
      unfold j_X6_answered_Y
      rw [hasCall_N hcr.2.1 hx]
      rfl
    · obtain ⟨-, -, -, -, -, z6, z7⟩ := hcr.2.2.2 c (by omega)
      obtain ⟨-, -, -, -, -, w6, w7⟩ := v2.2.2.2 c hc
      have e1 := answered_c (T := Tq tq (kt i)) (a6 := a6) (sh := sh) (t := t) (x := nI i) hcr.2.1 hc hn10
      have e2 := answered_r c4 hi c2 v2.2.1 hc hn10
      rw [z6, z7] at e1
      rw [w6, w7] at e2
      by_cases e : nI (enOf v c) = 0
      · rw [if_pos e] at e1 e2
        exact ⟨0, upd t 44 (-3), _, sh, _, e1, e2, Iv_status (-3) hm⟩
      · rw [if_neg e] at e1 e2
        exact ⟨_, upd t 44 0, _, sh, _, e1, e2, Iv_status 0 hm⟩
  · exact ⟨0, upd t 44 (-1), sI U 16 (-1), rfl, answered_r0 (isCall_NN c4 hn c2), Iv_status (-1) h'⟩
