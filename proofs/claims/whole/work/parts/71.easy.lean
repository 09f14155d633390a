/-! ===== small steps of both ===== -/
theorem gd_nI {α : Type} {j n : Nat} {k : Option α} (h : j < n) (hn : n < 2 ^ 31) : gd (nI j) n k = k := by
  unfold gd
  rw [if_neg (nI_in h hn)]
theorem in_Y {j n : Nat} (h : j < n) (hn : n < 2 ^ 30) : j_X7_in (nI j) 0 (nI n - 1) = some 1 := by
  unfold j_X7_in
  have e : nI n - 1 = nI (n - 1) := by
    have := nI_pred (n - 1)
    rwa [show n - 1 + 1 = n by omega] at this
  rw [if_neg (nI_pos (by omega)), e, if_neg (nI_nlt (by omega) (by omega))]
theorem in_N {n : Nat} {x : Int32} (hn : n < 2 ^ 30) (h : FN (nI n) x) : j_X7_in x 0 (nI n - 1) = some 0 := by
  unfold j_X7_in
  by_cases c : x < 0
  · rw [if_pos c]
  · rw [if_neg c]
    rcases h with h | ⟨-, h⟩
    · exact absurd h c
    · obtain ⟨j, hj, rfl⟩ := nI_of c
      have h2 := (nI_leI (by omega) hj).mp h
      rw [if_pos ?_]
      cases n with
      | zero =>
        rw [Int32.lt_iff_toInt_lt, nI_toInt hj]
        show (-1 : Int) < (j : Int)
        omega
      | succ n =>
        rw [nI_pred]
        exact nI_lt (by omega) hj
theorem in_lit {x : Int32} {m : Nat} {hi : Int32} (he : hi = nI m - 1) (hm : m < 2 ^ 30) : (FN (nI m) x ∧ j_X7_in x 0 hi = some 0) ∨ ∃ j, j < m ∧ x = nI j ∧ j_X7_in x 0 hi = some 1 := by
  rcases FN_or m (by omega) x with h | ⟨j, hj, rfl⟩
  · exact Or.inl ⟨h, by rw [he]; exact in_N hm h⟩
  · exact Or.inr ⟨j, hj, rfl, by rw [he]; exact in_Y hj hm⟩
theorem isHist_Y {U : St} {i nH : Nat} (hU : U.1 4 = nI nH) (h : i < nH) (hn : nH ≤ 12) : j_X7_isHistory U (nI i) = some 1 := by
  unfold j_X7_isHistory
  rw [hU, in_Y h (by omega)]
  rfl
theorem isHist_N {U : St} {x : Int32} {nH : Nat} (hU : U.1 4 = nI nH) (h : FN (nI nH) x) (hn : nH ≤ 12) : j_X7_isHistory U x = some 0 := by
  unfold j_X7_isHistory
  rw [hU, in_N (by omega) h]
  rfl
theorem sI_1 (u : St) (k : Nat) (x : Int32) (j : Nat) : (sI u k x).1 j = if j = k then x else u.1 j := rfl
theorem sI_2 (u : St) (k : Nat) (x : Int32) : (sI u k x).2 = u.2 := rfl
theorem sA_1 (u : St) (k i : Nat) (x : Int32) : (sA u k i x).1 = u.1 := rfl
theorem sA_2 (u : St) (k i : Nat) (x : Int32) (j q : Nat) : (sA u k i x).2.1 j q = if j = k ∧ q = i then x else u.2.1 j q := by
  show (if j = k then upd (u.2.1 k) i x else u.2.1 j) q = _
  by_cases c : j = k
  · rw [if_pos c]
    unfold upd
    by_cases c2 : q = i
    · rw [if_pos c2, if_pos ⟨c, c2⟩]
    · rw [if_neg c2, if_neg (fun z => c2 z.2), c]
  · rw [if_neg c, if_neg (fun z => c z.1)]
theorem sA_3 (u : St) (k i : Nat) (x : Int32) : (sA u k i x).2.2 = u.2.2 := rfl
theorem fc_say : Fc_say Iv := by
  intro a1 k0 hk0 t gs hs kt tu tq nT nH U h
  have h' := fc_M k0 hk0 _ _ _ _ _ _ _ _ _ h
  have hh := h'
  obtain ⟨⟨c1, c2, c3, c4, c5, c6⟩, ⟨ns, n1, n2, n3, n4⟩, hF, hT, hH, hM⟩ := h'
  rcases in_lit (x := a1) (m := 10) (hi := 9) (by decide) (by decide) with ⟨hn, hin⟩ | ⟨j, hj, rfl, hin⟩
  · refine ⟨-2, t, gs, U, ?_, ?_, by rw [mrgS_self]; exact hh⟩
    · show j_X6_say t gs a1 = _
      unfold j_X6_say
      by_cases c : a1 < 0
      · rw [if_pos c]
      · rw [if_neg c]
        rcases hn with z | ⟨-, z⟩
        · exact absurd z c
        · rw [if_neg (show ¬ a1 < 10 from fun w => absurd z (Int32.not_le.mpr w))]
    · show j_X7_say U a1 = _
      unfold j_X7_say
      rw [hin]
      rfl
  · have hj0 : ¬ nI j < 0 := nI_pos (by omega)
    have hj1 : nI j < 10 := nI_lt (b := 10) hj (by decide)
    by_cases hf : ns = 10
    · refine ⟨-4, t, gs, U, ?_, ?_, by rw [mrgS_self]; exact hh⟩
      · show j_X6_say t gs (nI j) = _
        unfold j_X6_say
        rw [if_neg hj0, if_pos hj1, n2, hf, if_neg (by decide)]
      · show j_X7_say U (nI j) = _
        unfold j_X7_say
        rw [hin, n3, hf]
        rfl
    · refine ⟨nI (ns + 1), upd t 43 (nI (ns + 1)), sA gs 32 ns (nI j), sI (sA U 28 ns (nI j)) 29 (nI (ns + 1)), ?_, ?_, ?_⟩
      · show j_X6_say t gs (nI j) = _
        unfold j_X6_say nm
        rw [if_neg hj0, if_pos hj1, n2, if_pos (show nI ns < 10 from nI_lt (b := 10) (by omega) (by decide)), gd_nI (by omega) (by decide), nI_clamp (by omega), nI_1]
        rfl
      · show j_X7_say U (nI j) = _
        unfold j_X7_say nm
        rw [hin, n3]
        show (if nI ns = 10 then _ else _) = _
        rw [if_neg (show ¬ nI ns = 10 from fun e => hf ((nI_eq (b := 10) (by omega) (by decide)).mp e)), gd_nI (by omega) (by decide), nI_clamp (by omega)]
        show some ((sI (sA U 28 ns (nI j)) 29 ((sA U 28 ns (nI j)).1 29 + 1)).1 29, sI (sA U 28 ns (nI j)) 29 ((sA U 28 ns (nI j)).1 29 + 1)) = _
        rw [sA_1, n3, nI_1]
        rfl
      · refine ⟨⟨c1, c2, c3, c4, c5, c6⟩, ⟨ns + 1, by omega, rfl, rfl, fun q hq => ?_⟩, hF, hT, hH, hM⟩
        show ∃ x, x < 10 ∧ (sA gs 32 ns (nI j)).2.1 32 q = nI x ∧ (sA U 28 ns (nI j)).2.1 28 q = nI x
        rw [sA_2, sA_2]
        by_cases e : q = ns
        · rw [if_pos ⟨rfl, e⟩, if_pos ⟨rfl, e⟩]
          exact ⟨j, hj, rfl, rfl⟩
        · rw [if_neg (fun z => e z.2), if_neg (fun z => e z.2)]
          exact n4 q (by omega)
theorem fc_fill : Fc_fill Iv := by
  intro a1 k0 hk0 t gs hs kt tu tq nT nH U h
  have h' := fc_M k0 hk0 _ _ _ _ _ _ _ _ _ h
  obtain ⟨⟨c1, c2, c3, c4, c5, c6⟩, hS, hFF, hT, hH, hM⟩ := h'
  obtain ⟨nf, f1, f2, f3, f4⟩ := id hFF
  rcases FN_or nf (by omega) a1 with hn | ⟨j, hj, rfl⟩
  · refine ⟨0, upd t 44 (-1), gs, sI U 16 (-1), ?_, ?_, ?_⟩
    · show j_X6_fill t gs a1 = _
      unfold j_X6_fill nm
      by_cases c : a1 < 0
      · rw [if_pos c]
      · rw [if_neg c, f2]
        rcases hn with z | ⟨-, z⟩
        · exact absurd z c
        · rw [if_neg (fun w => absurd z (Int32.not_le.mpr w))]
    · show j_X7_fill_ U a1 = _
      unfold j_X7_fill_
      rw [f3, in_N (by omega) hn]
      rfl
    · rw [mrgS_self]
      exact ⟨⟨c1, c2, c3, c4, rfl, c6⟩, hS, hFF, hT, hH, hM⟩
  · refine ⟨gs.2.1 31 j, upd t 44 0, gs, sI U 16 0, ?_, ?_, ?_⟩
    · show j_X6_fill t gs (nI j) = _
      unfold j_X6_fill nm
      rw [if_neg (nI_pos (by omega)), f2, if_pos (nI_lt hj (by omega))]
      dsimp only
      rw [gd_nI (by omega) (by decide), nI_clamp (by omega)]
    · show j_X7_fill_ U (nI j) = _
      unfold j_X7_fill_ nm
      rw [f3, in_Y hj (by omega)]
      show gd (nI j) 8000 (some (U.2.1 25 (nI j).toNatClampNeg, sI U 16 0)) = _
      rw [gd_nI (by omega) (by decide), nI_clamp (by omega), f4 j hj]
    · rw [mrgS_self]
      exact ⟨⟨c1, c2, c3, c4, rfl, c6⟩, hS, hFF, hT, hH, hM⟩
