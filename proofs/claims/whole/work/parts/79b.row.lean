def rowW (U : St) (p : Nat) (x y : Int32) : St := sA (sA U 1 p x) 2 p y
theorem ix32 (j s a : Nat) : (32 : Int32) * nI j + 4 * nI s + nI a = nI (32 * j + 4 * s + a) := by
  rw [show (32 : Int32) = nI 32 from rfl, show (4 : Int32) = nI 4 from rfl, pk_mul, pk_mul, nI_add, nI_add]
theorem row_loop {U : St} {kt : Nat → Option Nat} {nH j s a : Nat} {x y : Int32} (hU : U.1 4 = nI nH) (h12 : nH ≤ 12) (hj : j < 4) (hs : s < 8) (ha : a < 4)
    (K : ∀ q, q < nH → (U.2.1 5 q = 6 ∧ ∃ k, k < 4 ∧ kt q = some k ∧ U.2.1 6 q = nI k) ∨ (¬ U.2.1 5 q = 6 ∧ kt q = none)) :
    ∀ (n i : Nat), nH < i + n → i ≤ nH → ((∀ q, i ≤ q → q < nH → kt q ≠ some j) → j_X7_row_52 n U (nI j) (nI s) (nI a) x y (nI i) = some (0, rowW U (32 * j + 4 * s + a) x y)) ∧ ((∃ q, i ≤ q ∧ q < nH ∧ kt q = some j) → j_X7_row_52 n U (nI j) (nI s) (nI a) x y (nI i) = some (-3, U))
  | 0, i, h1, h2 => absurd h1 (by omega)
  | n + 1, i, h1, h2 => by
    have e : j_X7_row_52 (n + 1) U (nI j) (nI s) (nI a) x y (nI i) = q_X7_row_52 (j_X7_row_52 n) U (nI j) (nI s) (nI a) x y (nI i) := rfl
    rw [e]
    unfold q_X7_row_52 nm
    rw [hU]
    rcases Nat.lt_or_ge i nH with c | c
    · obtain ⟨ih1, ih2⟩ := row_loop (x := x) (y := y) hU h12 hj hs ha K n (i + 1) (by omega) (by omega)
      rw [if_neg (nI_ge c (by omega)), gd_nI (show i < 12 by omega) (by decide), nI_clamp (show i < 2 ^ 31 by omega), nI_1]
      rcases K i c with ⟨z1, k, z2, z3, z4⟩ | ⟨z1, z2⟩
      · rw [if_pos z1, gd_nI (show i < 12 by omega) (by decide), z4]
        by_cases ek : k = j
        · subst ek
          rw [if_pos rfl]
          exact ⟨fun hh => absurd z3 (hh i (Nat.le_refl i) c), fun _ => rfl⟩
        · rw [if_neg (fun w => ek ((nI_eq (by omega) (by omega)).mp w))]
          refine ⟨fun hh => ih1 (fun q hq hq2 => hh q (by omega) hq2), fun ⟨q, q1, q2, q3⟩ => ih2 ⟨q, ?_, q2, q3⟩⟩
          rcases Nat.lt_or_ge i q with w | w
          · exact w
          · have : q = i := by omega
            subst this
            rw [z3] at q3
            cases q3
            exact absurd rfl ek
      · rw [if_neg z1]
        refine ⟨fun hh => ih1 (fun q hq hq2 => hh q (by omega) hq2), fun ⟨q, q1, q2, q3⟩ => ih2 ⟨q, ?_, q2, q3⟩⟩
        rcases Nat.lt_or_ge i q with w | w
        · exact w
        · have : q = i := by omega
          subst this
          rw [z2] at q3
          cases q3
    · rw [if_pos (nI_le c (by omega)), ix32, gd_nI (show 32 * j + 4 * s + a < 128 by omega) (by decide), nI_clamp (show 32 * j + 4 * s + a < 2 ^ 31 by omega)]
      dsimp only
      rw [gd_nI (show 32 * j + 4 * s + a < 128 by omega) (by decide)]
      exact ⟨fun _ => rfl, fun ⟨q, q1, q2, _⟩ => absurd q1 (by omega)⟩
