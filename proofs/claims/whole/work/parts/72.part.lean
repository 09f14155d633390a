theorem holds_eq (x v : Int32) : j_X6_holds x v = some (if ((x >>> (v &&& 31)) &&& 1) = 0 then 0 else 1) := by
  unfold j_X6_holds
  by_cases c : ((x >>> (v &&& 31)) &&& 1) = 0
  · rw [if_pos c, if_pos c]
  · rw [if_neg c, if_neg c]
theorem part_eq {t : Nat → Int32} {u U : St} (ht : t 42 = U.1 27) : ∀ (n : Nat) (v1 v2 v3 : Int32), j_X6_part_4 n t u v1 v2 v3 = (j_X7_part_4 U n v1 v2 v3).map (fun r => (r, t, u))
  | 0, _, _, _ => rfl
  | n + 1, v1, v2, v3 => by
    have ih := part_eq (u := u) ht n
    show q_X6_part_4 (j_X6_part_4 n) t u v1 v2 v3 = (q_X7_part_4 U (j_X7_part_4 U n) v1 v2 v3).map (fun r => (r, t, u))
    unfold q_X6_part_4 q_X7_part_4 nm
    rw [holds_eq, ht]
    by_cases c1 : 10 ≤ v3
    · rw [if_pos c1, if_pos c1]
      rfl
    · rw [if_neg c1, if_neg c1]
      by_cases c2 : ((U.1 27 >>> (v3 &&& 31)) &&& 1) = 0
      · rw [if_pos c2, if_pos c2]
        exact ih v1 v2 (v3 + 1)
      · rw [if_neg c2, if_neg c2]
        simp only [Option.bind_some]
        rw [if_neg (show ¬ (1 : Int32) = 0 by decide)]
        by_cases c3 : v2 = v1
        · rw [if_pos c3, if_pos c3]
          rfl
        · rw [if_neg c3, if_neg c3]
          exact ih v1 (v2 + 1) (v3 + 1)
theorem part_some {U : St} : ∀ (n c : Nat) (v1 v2 : Int32), 10 < c + n → c ≤ 10 → ∃ r, j_X7_part_4 U n v1 v2 (nI c) = some r
  | 0, c, _, _, h1, h2 => absurd h1 (by omega)
  | n + 1, c, v1, v2, h1, h2 => by
    show ∃ r, q_X7_part_4 U (j_X7_part_4 U n) v1 v2 (nI c) = some r
    unfold q_X7_part_4 nm
    by_cases c1 : 10 ≤ nI c
    · rw [if_pos c1]
      exact ⟨_, rfl⟩
    · rw [if_neg c1, nI_1]
      have hc : c < 10 := by
        rcases Nat.lt_or_ge c 10 with z | z
        · exact z
        · exact absurd (nI_le (a := 10) z (by omega)) c1
      by_cases c2 : ((U.1 27 >>> (nI c &&& 31)) &&& 1) = 0
      · rw [if_pos c2]
        exact part_some n (c + 1) v1 v2 (by omega) (by omega)
      · rw [if_neg c2]
        by_cases c3 : v2 = v1
        · rw [if_pos c3]
          exact ⟨_, rfl⟩
        · rw [if_neg c3]
          exact part_some n (c + 1) v1 (v2 + 1) (by omega) (by omega)
theorem fc_part : Fc_part Iv := by
  intro a1 k0 hk0 t gs hs kt tu tq nT nH U h
  have h' := fc_M k0 hk0 _ _ _ _ _ _ _ _ _ h
  obtain ⟨lp, l1, l2, l3⟩ := h.1.2.2.2.2.2
  obtain ⟨r, hr⟩ := part_some (U := U) 100 0 a1 0 (by omega) (by omega)
  have e0 : (0 : Int32) = nI 0 := rfl
  refine ⟨r, t, gs, U, ?_, ?_, by rw [mrgS_self]; exact h'⟩
  · show j_X6_part_4 100 t gs a1 0 0 = _
    rw [part_eq (U := U) (by rw [l2, l3])]
    rw [show j_X7_part_4 U 100 a1 0 0 = some r from hr]
    rfl
  · show pr U (j_X7_part_4 U 100 a1 0 0) = _
    rw [show j_X7_part_4 U 100 a1 0 0 = some r from hr]
    rfl
