theorem rowW_1 (U : St) (p : Nat) (x y : Int32) (q : Nat) : (rowW U p x y).2.1 1 q = if q = p then x else U.2.1 1 q := by
  unfold rowW
  rw [sA_2, if_neg (fun z => absurd z.1 (by decide)), sA_2]
  by_cases e : q = p
  · rw [if_pos ⟨rfl, e⟩, if_pos e]
  · rw [if_neg (fun z => e z.2), if_neg e]
theorem rowW_2 (U : St) (p : Nat) (x y : Int32) (q : Nat) : (rowW U p x y).2.1 2 q = if q = p then y else U.2.1 2 q := by
  unfold rowW
  rw [sA_2]
  by_cases e : q = p
  · rw [if_pos ⟨rfl, e⟩, if_pos e]
  · rw [if_neg (fun z => e z.2), if_neg e, sA_2, if_neg (fun z => absurd z.1 (by decide))]
theorem fc_row : Fc_row Iv := by
  intro a1 a2 a3 a4 a5 k0 hk0 t gs hs kt tu tq nT nH U h
  have h' := fc_M k0 hk0 _ _ _ _ _ _ _ _ _ h
  obtain ⟨c1, c2, c3, c4, c5, c6⟩ := h.1
  refine ⟨fun j hj hh u hu => ?_, fun hn => ?_⟩
  · subst hh
    have hin1 : j_X7_in (nI j) 0 (U.1 3 - 1) = some 1 := by
      rw [c3]
      exact in_Y hj (by omega)
    have hsame : (fun k => if k = j then (u.2.1 1, u.2.1 2) else tq k) = tq := by
      funext k
      by_cases e : k = j
      · rw [if_pos e, hu, e]
      · rw [if_neg e]
    have bad : j_X6_row_Y (tu j) t u (nI j) a2 a3 a4 a5 = some (-2, t, u) → j_X7_row U (nI j) a2 a3 a4 a5 = some (-2, U) → ∃ (r : Int32) (t1 : Nat → Int32) (u1 U1 : St), j_X6_row_Y (tu j) t u (nI j) a2 a3 a4 a5 = some (r, t1, u1) ∧ j_X7_row U (nI j) a2 a3 a4 a5 = some (r, U1) ∧ Iv (k0 + 6) t1 gs hs kt tu (fun k => if k = j then (u1.2.1 1, u1.2.1 2) else tq k) nT nH U1 := fun z1 z2 => ⟨-2, t, u, U, z1, z2, by rw [hsame]; exact h'⟩
    rcases in_lit (x := a2) (m := 8) (hi := 7) (by decide) (by decide) with ⟨n2, i2⟩ | ⟨s, hs8, rfl, i2⟩
    · refine bad ?_ ?_
      · unfold j_X6_row_Y
        rw [has_0 (m := 0) (Or.inl n2) rfl]
        rfl
      · unfold j_X7_row
        rw [hin1, i2]
        rfl
    rcases in_lit (x := a3) (m := 4) (hi := 3) (by decide) (by decide) with ⟨n3, i3⟩ | ⟨a, ha4, rfl, i3⟩
    · refine bad ?_ ?_
      · unfold j_X6_row_Y
        rw [has_0 (m := 0) (Or.inr n3) rfl]
        rfl
      · unfold j_X7_row
        rw [hin1, i2, i3]
        rfl
    rcases in_lit (x := a5) (m := 8) (hi := 7) (by decide) (by decide) with ⟨n5, i5⟩ | ⟨y, hy8, rfl, i5⟩
    · refine bad ?_ ?_
      · unfold j_X6_row_Y
        rw [has_1 hs8 ha4, has_0 (m := 0) (Or.inl n5) rfl]
        rfl
      · unfold j_X7_row
        rw [hin1, i2, i3, i5]
        rfl
    have K : ∀ q, q < nH → (U.2.1 5 q = 6 ∧ ∃ k, k < 4 ∧ kt q = some k ∧ U.2.1 6 q = nI k) ∨ (¬ U.2.1 5 q = 6 ∧ kt q = none) := by
      intro q hq
      obtain ⟨v, v1, v2, v3, v4⟩ := h.2.2.2.2.1 q hq
      rw [v2.1]
      rcases v4 with ⟨z1, k, z2, z3, z4⟩ | ⟨z1, z2⟩
      · exact Or.inl ⟨by rw [z1]; rfl, k, by omega, z3, z4⟩
      · exact Or.inr ⟨fun w => z1 ((nI_eq (b := 6) (by have := v3.1; omega) (by decide)).mp w), z2⟩
    obtain ⟨r1, r2⟩ := row_loop (x := a4) (y := nI y) c4 c2 (show j < 4 by omega) hs8 ha4 K 100 0 (by omega) (by omega)
    have eM : j_X7_row U (nI j) (nI s) (nI a) a4 (nI y) = j_X7_row_52 100 U (nI j) (nI s) (nI a) a4 (nI y) (nI 0) := by
      unfold j_X7_row
      rw [hin1, i2, i3, i5]
      rfl
    have eC : j_X6_row_Y (tu j) t u (nI j) (nI s) (nI a) a4 (nI y) = if tu j = 0 then some (0, t, rowW u (4 * s + a) a4 (nI y)) else some (-3, t, u) := by
      unfold j_X6_row_Y
      rw [has_1 hs8 ha4, has_1 hy8 ha4, tell_c hs8 ha4]
      rfl
    obtain ⟨hT1, hT2, hT3⟩ := h.2.2.2.1
    rcases hT3 j hj with ⟨e1, i, i1, i2⟩ | ⟨e1, e2⟩
    · rw [e1, if_neg one_ne] at eC
      refine ⟨-3, t, u, U, by rw [e1]; exact eC, ?_, by rw [hsame]; exact h'⟩
      rw [eM]
      exact r2 ⟨i, Nat.zero_le i, i1, i2⟩
    · rw [e1, if_pos rfl] at eC
      refine ⟨0, t, _, _, by rw [e1]; exact eC, by rw [eM]; exact r1 (fun q _ hq => e2 q hq), ?_⟩
      obtain ⟨hC', hS', hF', hT', hH', hM'⟩ := h'
      refine ⟨hC', hS', hF', ⟨fun k hk q hq => ?_, fun q q1 q2 => ?_, hT3⟩, hH', hM'⟩
      · dsimp only
        have hu1 : u.2.1 1 = (tq j).1 := congrArg Prod.fst hu
        have hu2 : u.2.1 2 = (tq j).2 := congrArg Prod.snd hu
        rw [rowW_1, rowW_2]
        by_cases e : k = j
        · subst e
          rw [if_pos rfl]
          dsimp only
          rw [rowW_1, rowW_2, hu1, hu2]
          obtain ⟨g1, g2, g3⟩ := hT1 k hk q hq
          by_cases e3 : q = 4 * s + a
          · rw [if_pos e3, if_pos e3, if_pos (by omega), if_pos (by omega)]
            exact ⟨rfl, rfl, y, hy8, rfl⟩
          · rw [if_neg e3, if_neg e3, if_neg (by omega), if_neg (by omega)]
            exact ⟨g1, g2, g3⟩
        · rw [if_neg e, if_neg (by omega), if_neg (by omega)]
          exact hT1 k hk q hq
      · rw [rowW_1, rowW_2, if_neg (by omega), if_neg (by omega)]
        exact hT2 q q1 q2
  · refine ⟨-1, t, U, rfl, ?_, h'⟩
    unfold j_X7_row
    rw [c3, in_N (by omega) hn]
    rfl
