theorem has_0 {x a : Int32} {m : Nat} (h : FN (nI 8) x ∨ FN (nI 4) a) (_ : m = m) : j_X5_has x.toInt64 a = some 0 := by
  rw [has_eq, if_pos]
  rcases h with (h | ⟨-, h⟩) | (h | ⟨-, h⟩)
  · exact Or.inl h
  · exact Or.inr (Or.inl h)
  · exact Or.inr (Or.inr (Or.inl h))
  · exact Or.inr (Or.inr (Or.inr h))
theorem has_1 {s a : Nat} (hs : s < 8) (ha : a < 4) : j_X5_has (nI s).toInt64 (nI a) = some 1 := by
  rw [has_eq, if_neg]
  intro h
  rcases h with h | h | h | h
  · exact nI_pos (by omega) h
  · exact nI_ge (b := 8) hs (by decide) h
  · exact nI_pos (by omega) h
  · exact nI_ge (b := 4) ha (by decide) h
theorem tell_c {u : St} {s a : Nat} {x y : Int32} (hs : s < 8) (ha : a < 4) : j_X5_tell u (nI s) (nI a) x y = some (rowW u (4 * s + a) x y) := by
  unfold j_X5_tell j_X5_placeOf nm
  rw [has_1 hs ha]
  simp only [Option.bind_some]
  rw [if_neg one_ne]
  have e : (nI s).toInt64.toInt32 * 4 + nI a = nI (4 * s + a) := by
    rw [nI_l (show s < 2 ^ 31 by omega), lN_i, show (4 : Int32) = nI 4 from rfl, pk_mul, nI_add, Nat.mul_comm]
  rw [e, gd_nI (show 4 * s + a < 32 by omega) (by decide), gd_nI (show 4 * s + a < 32 by omega) (by decide), nI_clamp (show 4 * s + a < 2 ^ 31 by omega)]
  rfl
