/-- one history has become another -/
theorem Iv_hist {k : Nat} {t : Nat → Int32} {gs : St} {hs : Nat → St} {kt : Nat → Option Nat} {tu : Nat → Int32} {tq : Nat → (Nat → Int32) × (Nat → Int32)} {nT nH : Nat} {U : St} (h : Iv k t gs hs kt tu tq nT nH U) (i : Nat) {v v' : HVT} {u' U' : St}
    (hkt : (kdOf v = 6 ∧ ∃ j, j < nT ∧ kt i = some j ∧ U.2.1 6 i = nI j) ∨ (kdOf v ≠ 6 ∧ kt i = none)) (ekd : kdOf v' = kdOf v)
    (eS : u'.2.1 32 = gs.2.1 32) (eF1 : u'.1 30 = gs.1 30) (eF2 : u'.2.1 31 = gs.2.1 31) (eM1 : u'.1 23 = gs.1 23) (eM2 : u'.2.1 22 = gs.2.1 22)
    (eU : U'.1 = U.1) (e1 : U'.2.1 1 = U.2.1 1) (e2 : U'.2.1 2 = U.2.1 2) (e6 : U'.2.1 6 = U.2.1 6) (e25 : U'.2.1 25 = U.2.1 25) (e28 : U'.2.1 28 = U.2.1 28)
    (ho : ∀ j w, j < nH → j ≠ i → nOf w ≤ 10 → RR U j w → RR U' j w) (hc : CR u' v') (hr : RR U' i v') (hw : WF v') :
    Iv k t u' (fun q => if q = i then u' else hs q) kt tu tq nT nH U' := by
  obtain ⟨hC, hS, hF, hT, hH, hM⟩ := h
  refine ⟨?_, ?_, ?_, ?_, fun j hj => ?_, ?_⟩
  · unfold iC at hC ⊢
    rw [eU]
    exact hC
  · unfold iS at hS ⊢
    rw [eU, eS, e28]
    exact hS
  · unfold iF at hF ⊢
    rw [eU, eF1, eF2, e25]
    exact hF
  · unfold iT at hT ⊢
    rw [e1, e2]
    exact hT
  · dsimp only
    by_cases e : j = i
    · subst e
      rw [if_pos rfl]
      refine ⟨v', hc, hr, hw, ?_⟩
      rw [ekd, e6]
      exact hkt
    · rw [if_neg e]
      obtain ⟨w, w1, w2, w3, w4⟩ := hH j hj
      refine ⟨w, w1, ho j w hj e w3.2.1 w2, w3, ?_⟩
      rw [e6]
      exact w4
  · unfold iM at hM ⊢
    rw [eM1, eM2]
    exact hM
theorem cntE_upd {en : Nat → Nat} {c y : Nat} (hy : y ≠ 0) (h0 : en c = 0) : ∀ n, cntE (fun q => if q = c then y else en q) n = cntE en n + (if c < n then 1 else 0)
  | 0 => rfl
  | n + 1 => by
    have ih := cntE_upd hy h0 n
    unfold cntE
    rw [ih]
    by_cases e : n = c
    · subst e
      rw [if_pos rfl, if_neg hy, h0, if_pos rfl, if_neg (Nat.lt_irrefl n), if_pos (Nat.lt_succ_self n)]
    · rw [if_neg e]
      by_cases l : c < n
      · rw [if_pos l, if_pos (show c < n + 1 by omega)]
        omega
      · rw [if_neg l, if_neg (show ¬ c < n + 1 by omega)]
        omega
/-- call c is answered -/
def ansV (v : HVT) (c : Nat) (x : Int32) : HVT := ((kdOf v, nOf v, tkOf v + 1), caOf v, acOf v, bgOf v, (fun q => if q = c then tkOf v + 1 else enOf v q), aOf v, bOf v, (fun q => if q = c then x else vOf v q))
theorem WF_ans {v : HVT} {c : Nat} {x : Int32} (h : WF v) (hc : c < nOf v) (h0 : enOf v c = 0) : WF (ansV v c x) := by
  obtain ⟨h1, h2, h3, h4, h5, h6⟩ := h
  refine ⟨h1, h2, ?_, fun q hq => ?_, fun q d hqd hd => ?_, fun q hq => ?_⟩
  · show tkOf v + 1 = nOf v + cntE (fun q => if q = c then tkOf v + 1 else enOf v q) (nOf v)
    rw [cntE_upd (by omega) h0, if_pos hc]
    omega
  · obtain ⟨a1, a2, a3, a4, a5, a6, a7⟩ := h4 q hq
    refine ⟨a1, a2, a3, a4, a5, Nat.le_succ_of_le a6, ?_⟩
    show (if q = c then tkOf v + 1 else enOf v q) = 0 ∨ (bgOf v q < (if q = c then tkOf v + 1 else enOf v q) ∧ (if q = c then tkOf v + 1 else enOf v q) ≤ tkOf v + 1)
    by_cases e : q = c
    · rw [if_pos e]
      exact Or.inr ⟨by omega, by omega⟩
    · rw [if_neg e]
      rcases a7 with z | z
      · exact Or.inl z
      · exact Or.inr ⟨z.1, by omega⟩
  · obtain ⟨b1, b2⟩ := h5 q d hqd hd
    refine ⟨b1, fun hca => ?_⟩
    obtain ⟨b3, b4⟩ := b2 hca
    show (if q = c then tkOf v + 1 else enOf v q) ≠ 0 ∧ (if q = c then tkOf v + 1 else enOf v q) < bgOf v d
    by_cases e : q = c
    · subst e
      exact absurd h0 b3
    · rw [if_neg e]
      exact ⟨b3, b4⟩
  · obtain ⟨g1, g2⟩ := h6 q hq
    have hq' : nOf v ≤ q := hq
    show (if q = c then tkOf v + 1 else enOf v q) = 0 ∧ (if q = c then x else vOf v q) = 0
    rw [if_neg (by omega), if_neg (by omega)]
    exact ⟨g1, g2⟩
