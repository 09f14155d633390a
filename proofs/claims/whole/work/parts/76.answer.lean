theorem RR_other {U U' : St} {i j : Nat} {w : HVT} (hne : j ≠ i) (hn : nOf w ≤ 10) (h : RR U j w)
    (h5 : ∀ q, q ≠ i → U'.2.1 5 q = U.2.1 5 q) (h7 : ∀ q, q ≠ i → U'.2.1 7 q = U.2.1 7 q) (h8 : ∀ q, q ≠ i → U'.2.1 8 q = U.2.1 8 q) (hr : ∀ k q, 9 ≤ k → k ≤ 15 → (q < 10 * i ∨ 10 * i + 10 ≤ q) → U'.2.1 k q = U.2.1 k q) : RR U' j w := by
  obtain ⟨a1, a2, a3, a4⟩ := h
  refine ⟨by rw [h5 j hne]; exact a1, by rw [h7 j hne]; exact a2, by rw [h8 j hne]; exact a3, fun c hc => ?_⟩
  have hq : 10 * j + c < 10 * i ∨ 10 * i + 10 ≤ 10 * j + c := by omega
  rw [hr 9 _ (by omega) (by omega) hq, hr 10 _ (by omega) (by omega) hq, hr 11 _ (by omega) (by omega) hq, hr 12 _ (by omega) (by omega) hq, hr 13 _ (by omega) (by omega) hq, hr 14 _ (by omega) (by omega) hq, hr 15 _ (by omega) (by omega) hq]
  exact a4 c hc
def ansU (U : St) (i c tk : Nat) (x : Int32) : St := sA (sA (sA U 8 i (nI (tk + 1))) 14 (10 * i + c) (nI (tk + 1))) 15 (10 * i + c) x
theorem answer_r {U : St} {i c n nH tk : Nat} {x : Int32} (hU : U.1 4 = nI nH) (hi : i < nH) (h12 : nH ≤ 12) (hn7 : U.2.1 7 i = nI n) (h8 : U.2.1 8 i = nI tk) (hc : c < n) (hn : n ≤ 10) : j_X7_answer U (nI i) (nI c) x = if U.2.1 14 (10 * i + c) = 0 then some (nI (tk + 1), ansU U i c tk x) else some (-3, U) := by
  unfold j_X7_answer nm
  rw [isCall_Y hU hi h12 hn7 hc hn, isOpen_r (by omega) (by omega)]
  simp only [Option.bind_some]
  rw [if_neg one_ne]
  by_cases e : U.2.1 14 (10 * i + c) = 0
  · rw [if_pos e, if_pos e, if_neg one_ne, ix10, nI_clamp (show i < 2 ^ 31 by omega), nI_clamp (show 10 * i + c < 2 ^ 31 by omega)]
    simp only [gd_nI (show i < 12 by omega) (by decide : 12 < 2 ^ 31), gd_nI (show 10 * i + c < 120 by omega) (by decide : 120 < 2 ^ 31)]
    rw [h8, nI_1]
    simp only [sA_2]
    simp [ansU]
  · rw [if_neg e, if_neg e, if_pos rfl]
