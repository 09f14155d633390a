theorem cmp_lt0 (x : Int32) : lg_cmp x.toInt64 0 < 0 ↔ x < 0 := by
  rw [lg_cmp_lt, Int64.lt_iff_toInt_lt, Int32.lt_iff_toInt_lt, Int32.toInt_toInt64]
  rfl
theorem cmp_ge8 (x : Int32) : 0 ≤ lg_cmp x.toInt64 8 ↔ 8 ≤ x := by
  rw [lg_cmp_ge, Int64.le_iff_toInt_le, Int32.le_iff_toInt_le, Int32.toInt_toInt64]
  rfl
theorem has_eq (x a : Int32) : j_X5_has x.toInt64 a = some (if x < 0 ∨ 8 ≤ x ∨ a < 0 ∨ 4 ≤ a then 0 else 1) := by
  unfold j_X5_has
  by_cases h1 : x < 0
  · rw [if_pos ((cmp_lt0 x).mpr h1), if_pos (Or.inl h1)]
  rw [if_neg (fun z => h1 ((cmp_lt0 x).mp z))]
  by_cases h2 : 8 ≤ x
  · rw [if_pos ((cmp_ge8 x).mpr h2), if_pos (Or.inr (Or.inl h2))]
  rw [if_neg (fun z => h2 ((cmp_ge8 x).mp z))]
  by_cases h3 : a < 0
  · rw [if_pos h3, if_pos (Or.inr (Or.inr (Or.inl h3)))]
  rw [if_neg h3]
  by_cases h4 : 4 ≤ a
  · rw [if_pos h4, if_pos (Or.inr (Or.inr (Or.inr h4)))]
  rw [if_neg h4, if_neg (fun z => z.elim h1 (fun z => z.elim h2 (fun z => z.elim h3 h4)))]
