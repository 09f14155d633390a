theorem CR_mrg {g x : St} {v : HVT} (h : CR x v) : CR (mrg g x) v := h
theorem Iv_mrg {k : Nat} {t : Nat → Int32} {gs : St} {hs : Nat → St} {kt : Nat → Option Nat} {tu : Nat → Int32} {tq : Nat → (Nat → Int32) × (Nat → Int32)} {nT nH : Nat} {U : St} (i : Nat) (h : Iv k t gs hs kt tu tq nT nH U) : Iv k t (mrg gs (hs i)) (fun q => if q = i then mrg gs (hs i) else hs q) kt tu tq nT nH U := by
  refine ⟨h.1, h.2.1, h.2.2.1, h.2.2.2.1, fun j hj => ?_, h.2.2.2.2.2⟩
  obtain ⟨v, v1, v2⟩ := h.2.2.2.2.1 j hj
  refine ⟨v, ?_, v2⟩
  dsimp only
  by_cases e : j = i
  · rw [if_pos e]
    subst e
    exact CR_mrg v1
  · rw [if_neg e]
    exact v1
/-- another status -/
theorem Iv_status {k : Nat} {t : Nat → Int32} {gs : St} {hs : Nat → St} {kt : Nat → Option Nat} {tu : Nat → Int32} {tq : Nat → (Nat → Int32) × (Nat → Int32)} {nT nH : Nat} {U : St} (x : Int32) (h : Iv k t gs hs kt tu tq nT nH U) : Iv k (upd t 44 x) gs hs kt tu tq nT nH (sI U 16 x) := by
  obtain ⟨⟨c1, c2, c3, c4, c5, c6⟩, h2⟩ := h
  exact ⟨⟨c1, c2, c3, c4, rfl, c6⟩, h2⟩
theorem hasCall_Y {u : St} {n j : Nat} (hu : u.1 2 = nI n) (hj : j < n) (hn : n ≤ 10) : j_X1_hasCall u (nI j) = some 1 := by
  unfold j_X1_hasCall
  rw [if_neg (nI_pos (by omega)), hu, if_neg (nI_ge hj (by omega))]
theorem hasCall_N {u : St} {n : Nat} {x : Int32} (hu : u.1 2 = nI n) (h : FN (nI n) x) : j_X1_hasCall u x = some 0 := by
  unfold j_X1_hasCall
  by_cases c : x < 0
  · rw [if_pos c]
  · rw [if_neg c, hu]
    rcases h with z | ⟨-, z⟩
    · exact absurd z c
    · rw [if_pos z]
theorem isOpen_c {u : St} {n j : Nat} (hu : u.1 2 = nI n) (hj : j < n) (hn : n ≤ 10) : j_X1_isOpen u (nI j) = some (if u.2.1 9 j = 0 then 1 else 0) := by
  unfold j_X1_isOpen
  rw [hasCall_Y hu hj hn]
  show gd (nI j) 10 _ = _
  rw [gd_nI (by omega) (by decide), nI_clamp (by omega)]
  by_cases c : u.2.1 9 j = 0
  · rw [if_pos c, if_pos c]
  · rw [if_neg c, if_neg c]
theorem ix10 (i c : Nat) : (10 : Int32) * nI i + nI c = nI (10 * i + c) := by
  rw [show (10 : Int32) = nI 10 from rfl, pk_mul, nI_add]
theorem isCall_Y {U : St} {i c n nH : Nat} (hU : U.1 4 = nI nH) (hi : i < nH) (h12 : nH ≤ 12) (hc : U.2.1 7 i = nI n) (hcn : c < n) (hn : n ≤ 10) : j_X7_isCall U (nI i) (nI c) = some 1 := by
  unfold j_X7_isCall
  rw [isHist_Y hU hi h12]
  show gd (nI i) 12 _ = _
  rw [gd_nI (by omega) (by decide), nI_clamp (by omega), hc, in_Y hcn (by omega)]
  rfl
theorem isCall_N {U : St} {i n nH : Nat} {x : Int32} (hU : U.1 4 = nI nH) (hi : i < nH) (h12 : nH ≤ 12) (hc : U.2.1 7 i = nI n) (hx : FN (nI n) x) (hn : n ≤ 10) : j_X7_isCall U (nI i) x = some 0 := by
  unfold j_X7_isCall
  rw [isHist_Y hU hi h12]
  show gd (nI i) 12 _ = _
  rw [gd_nI (by omega) (by decide), nI_clamp (by omega), hc, in_N (by omega) hx]
  rfl
theorem isCall_NN {U : St} {nH : Nat} {x y : Int32} (hU : U.1 4 = nI nH) (hx : FN (nI nH) x) (h12 : nH ≤ 12) : j_X7_isCall U x y = some 0 := by
  unfold j_X7_isCall
  rw [isHist_N hU hx h12]
  rfl
theorem isOpen_r {U : St} {i c : Nat} (hi : i < 12) (hc : c < 10) : j_X7_isOpen U (nI i) (nI c) = some (if U.2.1 14 (10 * i + c) = 0 then 1 else 0) := by
  unfold j_X7_isOpen
  rw [ix10, gd_nI (by omega) (by decide), nI_clamp (by omega)]
  by_cases e : U.2.1 14 (10 * i + c) = 0
  · rw [if_pos e, if_pos e]
  · rw [if_neg e, if_neg e]
def pk4 (x a b c d : Int32) : Int32 := if x = 0 then a else if x = 1 then b else if x = 2 then c else if x = 3 then d else -1
theorem one_ne : ¬ (1 : Int32) = 0 := by decide
theorem call_c {T : TbT} {a6 sh n c : Nat} {t : Nat → Int32} {u : St} {x a3 : Int32} (hu : u.1 2 = nI n) (hc : c < n) (hn : n ≤ 10) : j_X6_call_Y T a6 t u sh x (nI c) a3 = some (pk4 a3 (u.2.1 4 c) (u.2.1 5 c) (u.2.1 8 c) (u.2.1 9 c), t, u, sh) := by
  unfold j_X6_call_Y pk4
  rw [hasCall_Y hu hc hn]
  simp only [Option.bind_some]
  rw [if_neg one_ne]
  by_cases e0 : a3 = 0
  · rw [if_pos e0, if_pos e0, gd_nI (by omega) (by decide), nI_clamp (by omega)]
  rw [if_neg e0, if_neg e0]
  by_cases e1 : a3 = 1
  · rw [if_pos e1, if_pos e1, gd_nI (by omega) (by decide), nI_clamp (by omega)]
  rw [if_neg e1, if_neg e1]
  by_cases e2 : a3 = 2
  · rw [if_pos e2, if_pos e2, gd_nI (by omega) (by decide), nI_clamp (by omega)]
  rw [if_neg e2, if_neg e2]
  by_cases e3 : a3 = 3
  · rw [if_pos e3, if_pos e3, gd_nI (by omega) (by decide), nI_clamp (by omega)]
  rw [if_neg e3, if_neg e3]
theorem call_r {U : St} {i c n nH : Nat} {a3 : Int32} (hU : U.1 4 = nI nH) (hi : i < nH) (h12 : nH ≤ 12) (hn7 : U.2.1 7 i = nI n) (hc : c < n) (hn : n ≤ 10) : j_X7_call U (nI i) (nI c) a3 = some (pk4 a3 (U.2.1 9 (10 * i + c)) (U.2.1 10 (10 * i + c)) (U.2.1 13 (10 * i + c)) (U.2.1 14 (10 * i + c))) := by
  unfold j_X7_call pk4
  rw [isCall_Y hU hi h12 hn7 hc hn]
  simp only [Option.bind_some]
  rw [if_neg one_ne, ix10]
  by_cases e0 : a3 = 0
  · rw [if_pos e0, if_pos e0, gd_nI (by omega) (by decide), nI_clamp (by omega)]
  rw [if_neg e0, if_neg e0]
  by_cases e1 : a3 = 1
  · rw [if_pos e1, if_pos e1, gd_nI (by omega) (by decide), nI_clamp (by omega)]
  rw [if_neg e1, if_neg e1]
  by_cases e2 : a3 = 2
  · rw [if_pos e2, if_pos e2, gd_nI (by omega) (by decide), nI_clamp (by omega)]
  rw [if_neg e2, if_neg e2]
  by_cases e3 : a3 = 3
  · rw [if_pos e3, if_pos e3, gd_nI (by omega) (by decide), nI_clamp (by omega)]
  rw [if_neg e3, if_neg e3]
theorem fc_call : Fc_call Iv := by
  intro a1 a2 a3 k0 hk0 t gs hs kt tu tq nT nH U h
  have h' := fc_M k0 hk0 _ _ _ _ _ _ _ _ _ h
  obtain ⟨c1, c2, c3, c4, c5, c6⟩ := h.1
  refine ⟨fun i hi hh a6 sh => ?_, fun hn => ?_⟩
  · subst hh
    obtain ⟨v, v1, v2, v3, v4⟩ := h.2.2.2.2.1 i hi
    have hn10 := v3.2.1
    have hcr : CR (mrg gs (hs i)) v := v1
    have fin : ∀ r : Int32, j_X6_call_Y (Tq tq (kt i)) a6 t (mrg gs (hs i)) sh (nI i) a2 a3 = some (r, t, mrg gs (hs i), sh) → j_X7_call U (nI i) a2 a3 = some r → ∃ (r : Int32) (t' : Nat → Int32) (u' : St) (sh' : Nat) (U' : St), j_X6_call_Y (Tq tq (kt i)) a6 t (mrg gs (hs i)) sh (nI i) a2 a3 = some (r, t', u', sh') ∧ pr U (j_X7_call U (nI i) a2 a3) = some (r, U') ∧ Iv (k0 + 6) t' u' (fun k => if k = i then u' else hs k) kt tu tq nT nH U' := by
      intro r e1 e2
      exact ⟨r, t, _, sh, U, e1, by rw [e2]; rfl, Iv_mrg i h'⟩
    rcases FN_or (nOf v) (by omega) a2 with hx | ⟨c, hc, rfl⟩
    · refine fin (-1) ?_ ?_
      · unfold j_X6_call_Y
        rw [hasCall_N hcr.2.1 hx]
        rfl
      · unfold j_X7_call
        rw [isCall_N c4 hi c2 v2.2.1 hx hn10]
        rfl
    · obtain ⟨z1, z2, -, -, z5, z6, -⟩ := hcr.2.2.2 c (by omega)
      obtain ⟨w1, w2, -, -, w5, w6, -⟩ := v2.2.2.2 c hc
      refine fin _ (call_c hcr.2.1 hc hn10) ?_
      rw [call_r c4 hi c2 v2.2.1 hc hn10, z1, z2, z5, z6, w1, w2, w5, w6]
  · exact ⟨-1, t, U, rfl, by
      show pr U (j_X7_call U a1 a2 a3) = _
      unfold j_X7_call
      rw [isCall_NN c4 hn c2]
      rfl, h'⟩
