/-! ===== rising rows, each value once ===== -/
def SA (a : Nat → Int32) (m : Nat) : Prop := ∀ q r, q < r → r < m → a q < a r
def mem (a : Nat → Int32) (m : Nat) (y : Int32) : Prop := ∃ q, q < m ∧ a q = y
def insA (a : Nat → Int32) (q0 : Nat) (y : Int32) : Nat → Int32 := fun q => if q < q0 then a q else if q = q0 then y else a (q - 1)
theorem insA_lo {a : Nat → Int32} {q0 q : Nat} {y : Int32} (h : q < q0) : insA a q0 y q = a q := if_pos h
theorem insA_at (a : Nat → Int32) (q0 : Nat) (y : Int32) : insA a q0 y q0 = y := by
  unfold insA
  rw [if_neg (Nat.lt_irrefl q0), if_pos rfl]
theorem insA_hi {a : Nat → Int32} {q0 q : Nat} {y : Int32} (h : q0 < q) : insA a q0 y q = a (q - 1) := by
  unfold insA
  rw [if_neg (by omega), if_neg (by omega)]
theorem insA_SA {a : Nat → Int32} {m q0 : Nat} {y : Int32} (h : SA a m) (hq : q0 ≤ m) (h1 : ∀ q, q < q0 → a q < y) (h2 : ∀ q, q0 ≤ q → q < m → y < a q) : SA (insA a q0 y) (m + 1) := by
  intro q r hqr hr
  rcases Nat.lt_trichotomy q q0 with c | c | c
  · rw [insA_lo c]
    rcases Nat.lt_trichotomy r q0 with e | e | e
    · rw [insA_lo e]
      exact h q r hqr (by omega)
    · rw [e, insA_at]
      exact h1 q c
    · rw [insA_hi e]
      exact h q (r - 1) (by omega) (by omega)
  · rw [c, insA_at, insA_hi (by omega)]
    exact h2 (r - 1) (by omega) (by omega)
  · rw [insA_hi c, insA_hi (by omega)]
    exact h (q - 1) (r - 1) (by omega) (by omega)
theorem insA_mem {a : Nat → Int32} {m q0 : Nat} {y z : Int32} (hq : q0 ≤ m) : mem (insA a q0 y) (m + 1) z ↔ z = y ∨ mem a m z := by
  constructor
  · rintro ⟨q, h1, h2⟩
    rcases Nat.lt_trichotomy q q0 with c | c | c
    · rw [insA_lo c] at h2
      exact Or.inr ⟨q, by omega, h2⟩
    · rw [c, insA_at] at h2
      exact Or.inl h2.symm
    · rw [insA_hi c] at h2
      exact Or.inr ⟨q - 1, by omega, h2⟩
  · rintro (h | ⟨q, h1, h2⟩)
    · exact ⟨q0, by omega, by rw [insA_at, h]⟩
    · by_cases c : q < q0
      · exact ⟨q, by omega, by rw [insA_lo c]; exact h2⟩
      · exact ⟨q + 1, by omega, by rw [insA_hi (by omega), Nat.add_sub_cancel]; exact h2⟩
theorem SA_congr {a b : Nat → Int32} {m : Nat} (h : SA a m) (e : ∀ q, q < m → b q = a q) : SA b m := by
  intro q r h1 h2
  rw [e q (by omega), e r h2]
  exact h q r h1 h2
theorem mem_congr {a b : Nat → Int32} {m : Nat} {y : Int32} (e : ∀ q, q < m → b q = a q) : mem b m y ↔ mem a m y :=
  ⟨fun ⟨q, h1, h2⟩ => ⟨q, h1, by rw [← e q h1]; exact h2⟩, fun ⟨q, h1, h2⟩ => ⟨q, h1, by rw [e q h1]; exact h2⟩⟩
theorem i_irr (x : Int32) : ¬ x < x := Int32.lt_irrefl
/-- two rising rows with the same values are the same -/
theorem SA_same {a b : Nat → Int32} {m k : Nat} (ha : SA a m) (hb : SA b k) (h : ∀ y, mem a m y ↔ mem b k y) : m = k ∧ ∀ q, q < m → a q = b q := by
  have le : ∀ {a b : Nat → Int32} {m k : Nat}, SA a m → SA b k → (∀ y, mem a m y ↔ mem b k y) → ∀ q, q < m → q < k ∧ a q = b q := by
    intro a b m k ha hb h q
    induction q using Nat.strongRecOn with
    | ind q ih =>
      intro hq
      obtain ⟨r, r1, r2⟩ := (h (a q)).mp ⟨q, hq, rfl⟩
      have hr : ¬ r < q := fun c => by
        have := (ih r c (by omega)).2
        rw [← this] at r2
        have := ha r q c hq
        rw [r2] at this
        exact i_irr _ this
      have hqk : q < k := by omega
      refine ⟨hqk, ?_⟩
      by_cases e : r = q
      · rw [← r2, e]
      · obtain ⟨t, t1, t2⟩ := (h (b q)).mpr ⟨q, hqk, rfl⟩
        rcases Nat.lt_trichotomy t q with c | c | c
        · have := (ih t c t1).2
          rw [t2] at this
          have z := hb t q c hqk
          rw [this] at z
          exact absurd z (i_irr _)
        · rw [← t2, c]
        · have z1 := hb q r (by omega) r1
          have z2 := ha q t c t1
          rw [r2] at z1
          rw [t2] at z2
          exact absurd (Int32.lt_trans z1 z2) (i_irr _)
  have h1 := le ha hb h
  have h2 := le hb ha (fun y => (h y).symm)
  refine ⟨?_, fun q hq => (h1 q hq).2⟩
  rcases Nat.lt_trichotomy m k with c | c | c
  · have := (h2 m c).1
    omega
  · exact c
  · have := (h1 k c).1
    omega
/-! the class puts a value in -/
theorem add_59 {y : Int32} {q0 m : Nat} (hm : m < 64) : ∀ f j u, j - q0 < f → q0 ≤ j → j ≤ m → u.1 30 = nI m → ∃ u' : St, j_X0_add_59 f u y (nI q0) (nI j) = some u' ∧ (∀ k, u'.1 k = if k = 30 then nI (m + 1) else u.1 k) ∧ (∀ k, k ≠ 31 → u'.2.1 k = u.2.1 k) ∧ u'.2.2 = u.2.2 ∧ (∀ q, u'.2.1 31 q = if q < q0 then u.2.1 31 q else if q = q0 then y else if q ≤ j then u.2.1 31 (q - 1) else u.2.1 31 q)
  | 0, _, _, h, _, _, _ => absurd h (Nat.not_lt_zero _)
  | f + 1, j, u, h, h0, hj, h30 => by
    show ∃ u' : St, q_X0_add_59 (j_X0_add_59 f) u y (nI q0) (nI j) = _ ∧ _
    unfold q_X0_add_59
    simp only [nm]
    by_cases e : j = q0
    · subst e
      rw [if_pos (nI_le (Nat.le_refl _) (by omega)), gd_nI (by omega) (by decide), nI_clamp (by omega)]
      refine ⟨_, rfl, fun k => ?_, fun k hk => ?_, rfl, fun q => ?_⟩
      · rw [sI_1, sA_1, h30, nI_1]
      · funext q
        rw [sI_2, sA_2, if_neg (fun z => hk z.1)]
      · rw [sI_2, sA_2]
        by_cases c : q = j
        · rw [if_pos ⟨rfl, c⟩, if_neg (by omega), if_pos c]
        · rw [if_neg (fun z => c z.2), if_neg c]
          by_cases c2 : q < j
          · rw [if_pos c2]
          · rw [if_neg c2, if_neg (by omega)]
    · rw [if_neg (nI_ge (by omega) (by omega)), show nI j - 1 = nI (j - 1) from pk_sub (b := 1) (by omega), gd_nI (by omega) (by decide), gd_nI (by omega) (by decide), nI_clamp (by omega), nI_clamp (by omega), show nI j + (-1) = nI (j - 1) by
        have := pk_m1 (j - 1)
        rwa [show j - 1 + 1 = j by omega] at this]
      obtain ⟨u', g1, g2, g3, g4, g5⟩ := add_59 (y := y) (q0 := q0) hm f (j - 1) (sA u 31 j (u.2.1 31 (j - 1))) (by omega) (by omega) (by omega) h30
      refine ⟨u', g1, g2, fun k hk => ?_, g4, fun q => ?_⟩
      · rw [g3 k hk]
        funext q
        rw [sA_2, if_neg (fun z => hk z.1)]
      · rw [g5]
        simp only [sA_2]
        by_cases c1 : q < q0
        · rw [if_pos c1, if_pos c1, if_neg (by omega)]
        · rw [if_neg c1, if_neg c1]
          by_cases c2 : q = q0
          · rw [if_pos c2, if_pos c2]
          · rw [if_neg c2, if_neg c2]
            by_cases c3 : q ≤ j - 1
            · rw [if_pos c3, if_neg (fun z : _ ∧ q - 1 = j => by have := z.2; omega), if_pos (show q ≤ j by omega)]
            · rw [if_neg c3]
              by_cases c4 : q = j
              · rw [if_pos ⟨trivial, c4⟩, if_pos (by omega), c4]
              · rw [if_neg (fun z => c4 z.2), if_neg (by omega)]
/-- what the answers are -/
def AN (u : St) (m : Nat) : Prop := u.1 30 = nI m ∧ SA (u.2.1 31) m
def afr (u u' : St) : Prop := (∀ k, k ≠ 30 → u'.1 k = u.1 k) ∧ (∀ k, k ≠ 31 → u'.2.1 k = u.2.1 k) ∧ u'.2.2 = u.2.2
theorem add_2 {y : Int32} {m : Nat} {u : St} (hm : m ≤ 64) (hA : AN u m) (hfull : ¬ mem (u.2.1 31) m y → m < 64) : ∀ f q0, m - q0 < f → q0 ≤ m → (∀ q, q < q0 → u.2.1 31 q < y) → ∃ (u' : St) (m' : Nat), j_X0_add_2 f u y (nI q0) = some u' ∧ AN u' m' ∧ (∀ z, mem (u'.2.1 31) m' z ↔ z = y ∨ mem (u.2.1 31) m z) ∧ afr u u'
  | 0, _, h, _, _ => absurd h (Nat.not_lt_zero _)
  | f + 1, q0, h, hq, hlt => by
    obtain ⟨h30, hS⟩ := hA
    show ∃ (u' : St) (m' : Nat), q_X0_add_2 (j_X0_add_2 f) u y (nI q0) = _ ∧ _
    unfold q_X0_add_2
    simp only [nm]
    rw [h30]
    have put : (∀ q, q0 ≤ q → q < m → y < u.2.1 31 q) → ∃ (u' : St) (m' : Nat), (if 64 ≤ nI m then some u else j_X0_add_59 100 u y (nI q0) (nI m)) = some u' ∧ AN u' m' ∧ (∀ z, mem (u'.2.1 31) m' z ↔ z = y ∨ mem (u.2.1 31) m z) ∧ afr u u' := by
      intro hgt
      have hno : ¬ mem (u.2.1 31) m y := by
        rintro ⟨q, z1, z2⟩
        by_cases c : q < q0
        · have := hlt q c
          rw [z2] at this
          exact i_irr _ this
        · have := hgt q (by omega) z1
          rw [z2] at this
          exact i_irr _ this
      have hm' := hfull hno
      rw [if_neg (show ¬ (64 : Int32) ≤ nI m from nI_ge (b := 64) hm' (by decide))]
      obtain ⟨u', g1, g2, g3, g4, g5⟩ := add_59 (y := y) (q0 := q0) hm' 100 m u (by omega) hq (Nat.le_refl _) h30
      have e : ∀ q, q < m + 1 → u'.2.1 31 q = insA (u.2.1 31) q0 y q := by
        intro q hq'
        rw [g5]
        unfold insA
        by_cases c1 : q < q0
        · rw [if_pos c1, if_pos c1]
        · rw [if_neg c1, if_neg c1]
          by_cases c2 : q = q0
          · rw [if_pos c2, if_pos c2]
          · rw [if_neg c2, if_neg c2, if_pos (by omega)]
      refine ⟨u', m + 1, g1, ⟨by rw [g2, if_pos rfl], SA_congr (insA_SA hS hq hlt hgt) e⟩, fun z => (mem_congr e).trans (insA_mem hq), fun k hk => by rw [g2, if_neg hk], g3, g4⟩
    by_cases c : q0 = m
    · subst c
      rw [if_pos (nI_le (Nat.le_refl _) (by omega)), if_pos (nI_le (Nat.le_refl _) (by omega))]
      exact put (fun q z1 z2 => by omega)
    · have hlq : ¬ nI m ≤ nI q0 := nI_ge (by omega) (by omega)
      rw [if_neg hlq, gd_nI (by omega) (by decide), nI_clamp (by omega)]
      by_cases c2 : y ≤ u.2.1 31 q0
      · rw [if_pos c2, if_neg hlq, gd_nI (by omega) (by decide)]
        by_cases c3 : u.2.1 31 q0 = y
        · rw [if_pos c3]
          have hmem : mem (u.2.1 31) m y := ⟨q0, by omega, c3⟩
          refine ⟨u, m, by split <;> rfl, ⟨h30, hS⟩, fun z => ⟨fun w => Or.inr w, fun w => ?_⟩, fun _ _ => rfl, fun _ _ => rfl, rfl⟩
          rcases w with w | w
          · rw [w]
            exact hmem
          · exact w
        · rw [if_neg c3]
          refine put (fun q z1 z2 => ?_)
          have hy : y < u.2.1 31 q0 := Int32.lt_of_le_of_ne c2 (fun z => c3 z.symm)
          by_cases c4 : q = q0
          · rw [c4]
            exact hy
          · exact Int32.lt_trans hy (hS q0 q (by omega) z2)
      · rw [if_neg c2, nI_1]
        refine add_2 hm ⟨h30, hS⟩ hfull f (q0 + 1) (by omega) (by omega) (fun q hq' => ?_)
        by_cases c4 : q = q0
        · rw [c4]
          exact Int32.not_le.mp c2
        · exact hlt q (by omega)
theorem addC {y : Int32} {m : Nat} {u : St} (hm : m ≤ 64) (hA : AN u m) (hfull : ¬ mem (u.2.1 31) m y → m < 64) : ∃ (u' : St) (m' : Nat), j_X0_add u y = some u' ∧ AN u' m' ∧ (∀ z, mem (u'.2.1 31) m' z ↔ z = y ∨ mem (u.2.1 31) m z) ∧ afr u u' :=
  add_2 hm hA hfull 100 0 (by omega) (by omega) (fun q h => absurd h (Nat.not_lt_zero q))
/-! the reference puts a value in -/
theorem fill_84 {y : Int32} {q0 m : Nat} (hm : m < 64) : ∀ f j u, j - q0 < f → q0 ≤ j → j ≤ m → u.1 26 = nI m → ∃ u' : St, j_X7_fill_84 f u y (nI q0) (nI j) = some u' ∧ (∀ k, u'.1 k = if k = 26 then nI (m + 1) else u.1 k) ∧ (∀ k, k ≠ 25 → u'.2.1 k = u.2.1 k) ∧ u'.2.2 = u.2.2 ∧ (∀ q, u'.2.1 25 q = if q < q0 then u.2.1 25 q else if q = q0 then y else if q ≤ j then u.2.1 25 (q - 1) else u.2.1 25 q)
  | 0, _, _, h, _, _, _ => absurd h (Nat.not_lt_zero _)
  | f + 1, j, u, h, h0, hj, h30 => by
    show ∃ u' : St, q_X7_fill_84 (j_X7_fill_84 f) u y (nI q0) (nI j) = _ ∧ _
    unfold q_X7_fill_84
    simp only [nm]
    by_cases e : j = q0
    · subst e
      rw [if_pos (nI_le (Nat.le_refl _) (by omega)), gd_nI (by omega) (by decide), nI_clamp (by omega)]
      refine ⟨_, rfl, fun k => ?_, fun k hk => ?_, rfl, fun q => ?_⟩
      · rw [sI_1, sA_1, h30, nI_1]
      · funext q
        rw [sI_2, sA_2, if_neg (fun z => hk z.1)]
      · rw [sI_2, sA_2]
        by_cases c : q = j
        · rw [if_pos ⟨rfl, c⟩, if_neg (by omega), if_pos c]
        · rw [if_neg (fun z => c z.2), if_neg c]
          by_cases c2 : q < j
          · rw [if_pos c2]
          · rw [if_neg c2, if_neg (by omega)]
    · rw [if_neg (nI_ge (by omega) (by omega)), show nI j - 1 = nI (j - 1) from pk_sub (b := 1) (by omega), gd_nI (by omega) (by decide), gd_nI (by omega) (by decide), nI_clamp (by omega), nI_clamp (by omega), show nI j + (-1) = nI (j - 1) by
        have := pk_m1 (j - 1)
        rwa [show j - 1 + 1 = j by omega] at this]
      obtain ⟨u', g1, g2, g3, g4, g5⟩ := fill_84 (y := y) (q0 := q0) hm f (j - 1) (sA u 25 j (u.2.1 25 (j - 1))) (by omega) (by omega) (by omega) h30
      refine ⟨u', g1, g2, fun k hk => ?_, g4, fun q => ?_⟩
      · rw [g3 k hk]
        funext q
        rw [sA_2, if_neg (fun z => hk z.1)]
      · rw [g5]
        simp only [sA_2]
        by_cases c1 : q < q0
        · rw [if_pos c1, if_pos c1, if_neg (by omega)]
        · rw [if_neg c1, if_neg c1]
          by_cases c2 : q = q0
          · rw [if_pos c2, if_pos c2]
          · rw [if_neg c2, if_neg c2]
            by_cases c3 : q ≤ j - 1
            · rw [if_pos c3, if_neg (fun z : _ ∧ q - 1 = j => by have := z.2; omega), if_pos (show q ≤ j by omega)]
            · rw [if_neg c3]
              by_cases c4 : q = j
              · rw [if_pos ⟨trivial, c4⟩, if_pos (by omega), c4]
              · rw [if_neg (fun z => c4 z.2), if_neg (by omega)]
def FN6 (U : St) (m : Nat) : Prop := U.1 26 = nI m ∧ SA (U.2.1 25) m
def ffr (u u' : St) : Prop := (∀ k, k ≠ 26 → u'.1 k = u.1 k) ∧ (∀ k, k ≠ 25 → u'.2.1 k = u.2.1 k) ∧ u'.2.2 = u.2.2
theorem fill_29 {y : Int32} {m : Nat} {u : St} (hm : m ≤ 64) (hA : FN6 u m) (hfull : ¬ mem (u.2.1 25) m y → m < 64) : ∀ f q0, m - q0 < f → q0 ≤ m → (∀ q, q < q0 → u.2.1 25 q < y) → ∃ (u' : St) (m' : Nat), j_X7_fill_29 f u y (nI q0) = some u' ∧ FN6 u' m' ∧ (∀ z, mem (u'.2.1 25) m' z ↔ z = y ∨ mem (u.2.1 25) m z) ∧ ffr u u'
  | 0, _, h, _, _ => absurd h (Nat.not_lt_zero _)
  | f + 1, q0, h, hq, hlt => by
    obtain ⟨h30, hS⟩ := hA
    show ∃ (u' : St) (m' : Nat), q_X7_fill_29 (j_X7_fill_29 f) u y (nI q0) = _ ∧ _
    unfold q_X7_fill_29
    simp only [nm]
    rw [h30]
    have put : (∀ q, q0 ≤ q → q < m → y < u.2.1 25 q) → ∃ (u' : St) (m' : Nat), j_X7_fill_84 100 u y (nI q0) (nI m) = some u' ∧ FN6 u' m' ∧ (∀ z, mem (u'.2.1 25) m' z ↔ z = y ∨ mem (u.2.1 25) m z) ∧ ffr u u' := by
      intro hgt
      have hno : ¬ mem (u.2.1 25) m y := by
        rintro ⟨q, z1, z2⟩
        by_cases c : q < q0
        · have := hlt q c
          rw [z2] at this
          exact i_irr _ this
        · have := hgt q (by omega) z1
          rw [z2] at this
          exact i_irr _ this
      have hm' := hfull hno
      obtain ⟨u', g1, g2, g3, g4, g5⟩ := fill_84 (y := y) (q0 := q0) hm' 100 m u (by omega) hq (Nat.le_refl _) h30
      have e : ∀ q, q < m + 1 → u'.2.1 25 q = insA (u.2.1 25) q0 y q := by
        intro q hq'
        rw [g5]
        unfold insA
        by_cases c1 : q < q0
        · rw [if_pos c1, if_pos c1]
        · rw [if_neg c1, if_neg c1]
          by_cases c2 : q = q0
          · rw [if_pos c2, if_pos c2]
          · rw [if_neg c2, if_neg c2, if_pos (by omega)]
      refine ⟨u', m + 1, g1, ⟨by rw [g2, if_pos rfl], SA_congr (insA_SA hS hq hlt hgt) e⟩, fun z => (mem_congr e).trans (insA_mem hq), fun k hk => by rw [g2, if_neg hk], g3, g4⟩
    by_cases c : q0 = m
    · subst c
      rw [if_pos (nI_le (Nat.le_refl _) (by omega)), if_pos (nI_le (Nat.le_refl _) (by omega))]
      exact put (fun q z1 z2 => by omega)
    · have hlq : ¬ nI m ≤ nI q0 := nI_ge (by omega) (by omega)
      rw [if_neg hlq, gd_nI (by omega) (by decide), nI_clamp (by omega)]
      by_cases c2 : y ≤ u.2.1 25 q0
      · rw [if_pos c2, if_neg hlq, gd_nI (by omega) (by decide)]
        by_cases c3 : u.2.1 25 q0 = y
        · rw [if_pos c3]
          have hmem : mem (u.2.1 25) m y := ⟨q0, by omega, c3⟩
          refine ⟨u, m, rfl, ⟨h30, hS⟩, fun z => ⟨fun w => Or.inr w, fun w => ?_⟩, fun _ _ => rfl, fun _ _ => rfl, rfl⟩
          rcases w with w | w
          · rw [w]
            exact hmem
          · exact w
        · rw [if_neg c3]
          refine put (fun q z1 z2 => ?_)
          have hy : y < u.2.1 25 q0 := Int32.lt_of_le_of_ne c2 (fun z => c3 z.symm)
          by_cases c4 : q = q0
          · rw [c4]
            exact hy
          · exact Int32.lt_trans hy (hS q0 q (by omega) z2)
      · rw [if_neg c2, nI_1]
        refine fill_29 hm ⟨h30, hS⟩ hfull f (q0 + 1) (by omega) (by omega) (fun q hq' => ?_)
        by_cases c4 : q = q0
        · rw [c4]
          exact Int32.not_le.mp c2
        · exact hlt q (by omega)
theorem fill_2 {U : St} {q0 : Nat} (h0 : q0 < 11) (hq : U.2.1 18 q0 = U.1 24) (hn : ∀ q, q < q0 → U.2.1 18 q ≠ U.1 24) : ∀ f j, q0 - j < f → j ≤ q0 → j_X7_fill_2 f U (nI j) = j_X7_fill_29 100 U (U.2.1 19 q0) 0
  | 0, _, h, _ => absurd h (Nat.not_lt_zero _)
  | f + 1, j, h, hj => by
    show q_X7_fill_2 (j_X7_fill_2 f) U (nI j) = _
    unfold q_X7_fill_2
    simp only [nm]
    rw [gd_nI (by omega) (by decide), nI_clamp (by omega)]
    by_cases e : j = q0
    · rw [e, if_pos hq, gd_nI (by omega) (by decide)]
    · rw [if_neg (hn j (by omega)), nI_1]
      exact fill_2 h0 hq hn f (j + 1) (by omega) (by omega)
theorem fillR {U : St} {q0 m : Nat} {x : Int32} (h0 : q0 < 11) (hq : U.2.1 18 q0 = U.1 24) (hn : ∀ q, q < q0 → U.2.1 18 q ≠ U.1 24) (hm : m ≤ 64) (hA : FN6 U m) (hfull : ¬ mem (U.2.1 25) m (U.2.1 19 q0) → m < 64) : ∃ (U' : St) (m' : Nat), j_X7_fill U x = some U' ∧ FN6 U' m' ∧ (∀ z, mem (U'.2.1 25) m' z ↔ z = U.2.1 19 q0 ∨ mem (U.2.1 25) m z) ∧ ffr U U' := by
  unfold j_X7_fill
  rw [show (0 : Int32) = nI 0 from rfl, fill_2 h0 hq hn 100 0 (by omega) (by omega)]
  exact fill_29 hm hA hfull 100 0 (by omega) (by omega) (fun q h => absurd h (Nat.not_lt_zero q))
