/-! ===== THE PURE SIDE: what holds of both between two calls ===== -/
/-- what a history is: kind, calls, ticks; of each call caller, act, begun, ended; a, b, value -/
abbrev HVT : Type := (Nat × Nat × Nat) × (Nat → Nat) × (Nat → Nat) × (Nat → Nat) × (Nat → Nat) × (Nat → Int32) × (Nat → Int32) × (Nat → Int32)
def kdOf (v : HVT) : Nat := v.1.1
def nOf (v : HVT) : Nat := v.1.2.1
def tkOf (v : HVT) : Nat := v.1.2.2
def caOf (v : HVT) : Nat → Nat := v.2.1
def acOf (v : HVT) : Nat → Nat := v.2.2.1
def bgOf (v : HVT) : Nat → Nat := v.2.2.2.1
def enOf (v : HVT) : Nat → Nat := v.2.2.2.2.1
def aOf (v : HVT) : Nat → Int32 := v.2.2.2.2.2.1
def bOf (v : HVT) : Nat → Int32 := v.2.2.2.2.2.2.1
def vOf (v : HVT) : Nat → Int32 := v.2.2.2.2.2.2.2
/-- how many of the first n are answered -/
def cntE (en : Nat → Nat) : Nat → Nat
  | 0 => 0
  | n + 1 => cntE en n + (if en n = 0 then 0 else 1)
theorem cntE_le (en : Nat → Nat) : ∀ n, cntE en n ≤ n
  | 0 => Nat.le_refl 0
  | n + 1 => by
    have := cntE_le en n
    unfold cntE
    split <;> omega
def actN (kd : Nat) : Nat := ([3, 2, 2, 2, 3, 3, 4] : List Nat).getD kd 0
/-- the class's history -/
def CR (h : St) (v : HVT) : Prop := h.1 0 = nI (kdOf v) ∧ h.1 2 = nI (nOf v) ∧ h.1 3 = nI (tkOf v) ∧ ∀ c, c < 10 → h.2.1 4 c = nI (caOf v c) ∧ h.2.1 5 c = nI (acOf v c) ∧ h.2.1 6 c = aOf v c ∧ h.2.1 7 c = bOf v c ∧ h.2.1 8 c = nI (bgOf v c) ∧ h.2.1 9 c = nI (enOf v c) ∧ h.2.1 10 c = vOf v c
/-- the reference's -/
def RR (U : St) (i : Nat) (v : HVT) : Prop := U.2.1 5 i = nI (kdOf v) ∧ U.2.1 7 i = nI (nOf v) ∧ U.2.1 8 i = nI (tkOf v) ∧ ∀ c, c < nOf v → U.2.1 9 (10 * i + c) = nI (caOf v c) ∧ U.2.1 10 (10 * i + c) = nI (acOf v c) ∧ U.2.1 11 (10 * i + c) = aOf v c ∧ U.2.1 12 (10 * i + c) = bOf v c ∧ U.2.1 13 (10 * i + c) = nI (bgOf v c) ∧ U.2.1 14 (10 * i + c) = nI (enOf v c) ∧ U.2.1 15 (10 * i + c) = vOf v c
/-- it is as histories are -/
def WF (v : HVT) : Prop := kdOf v < 7 ∧ nOf v ≤ 10 ∧ tkOf v = nOf v + cntE (enOf v) (nOf v) ∧
  (∀ c, c < nOf v → caOf v c < 4 ∧ acOf v c < actN (kdOf v) ∧ (kdOf v = 4 → ∃ x, x < 16 ∧ aOf v c = nI x) ∧ (kdOf v = 5 → ∃ x, x < 4 ∧ aOf v c = nI x) ∧ 1 ≤ bgOf v c ∧ bgOf v c ≤ tkOf v ∧ (enOf v c = 0 ∨ (bgOf v c < enOf v c ∧ enOf v c ≤ tkOf v))) ∧
  (∀ c d, c < d → d < nOf v → bgOf v c < bgOf v d ∧ (caOf v c = caOf v d → enOf v c ≠ 0 ∧ enOf v c < bgOf v d)) ∧
  (∀ c, nOf v ≤ c → enOf v c = 0 ∧ vOf v c = 0)
theorem WF.tk {v : HVT} (h : WF v) : tkOf v ≤ 20 := by
  have h1 := h.2.1
  have h2 := h.2.2.1
  have h3 := cntE_le (enOf v) (nOf v)
  omega
def iC (t : Nat → Int32) (nT nH : Nat) (U : St) : Prop := nT ≤ 4 ∧ nH ≤ 12 ∧ U.1 3 = nI nT ∧ U.1 4 = nI nH ∧ t 44 = U.1 16 ∧ ∃ lp, lp < 1024 ∧ t 42 = nI lp ∧ U.1 27 = nI lp
def iS (t : Nat → Int32) (gs U : St) : Prop := ∃ ns, ns ≤ 10 ∧ t 43 = nI ns ∧ U.1 29 = nI ns ∧ ∀ q, q < ns → ∃ x, x < 10 ∧ gs.2.1 32 q = nI x ∧ U.2.1 28 q = nI x
def iF (gs U : St) : Prop := ∃ nf, nf ≤ 64 ∧ gs.1 30 = nI nf ∧ U.1 26 = nI nf ∧ ∀ q, q < nf → gs.2.1 31 q = U.2.1 25 q
def iT (hkt : Nat → Option Nat) (tu : Nat → Int32) (tq : Nat → (Nat → Int32) × (Nat → Int32)) (nT nH : Nat) (U : St) : Prop :=
  (∀ j, j < nT → ∀ q, q < 32 → (tq j).1 q = U.2.1 1 (32 * j + q) ∧ (tq j).2 q = U.2.1 2 (32 * j + q) ∧ ∃ x, x < 8 ∧ (tq j).2 q = nI x) ∧
  (∀ q, 32 * nT ≤ q → q < 128 → U.2.1 1 q = 0 ∧ U.2.1 2 q = 0) ∧
  (∀ j, j < nT → (tu j = 1 ∧ ∃ i, i < nH ∧ hkt i = some j) ∨ (tu j = 0 ∧ ∀ i, i < nH → hkt i ≠ some j))
def iH (hs : Nat → St) (kt : Nat → Option Nat) (nT nH : Nat) (U : St) : Prop := ∀ i, i < nH → ∃ v : HVT, CR (hs i) v ∧ RR U i v ∧ WF v ∧ ((kdOf v = 6 ∧ ∃ j, j < nT ∧ kt i = some j ∧ U.2.1 6 i = nI j) ∨ (kdOf v ≠ 6 ∧ kt i = none))
def iM (k : Nat) (gs : St) : Prop := ∃ ag, ag ≤ 200 * k ∧ gs.1 23 = nI ag ∧ ∀ q, q < 1024 → ∃ x, x ≤ ag ∧ gs.2.1 22 q = nI x
def Iv : IVT := fun k t gs hs kt tu tq nT nH U => iC t nT nH U ∧ iS t gs U ∧ iF gs U ∧ iT kt tu tq nT nH U ∧ iH hs kt nT nH U ∧ iM k gs
theorem iM.mono {k k' : Nat} {gs : St} (h : iM k gs) (hk : k ≤ k') : iM k' gs := by
  obtain ⟨ag, h1, h2⟩ := h
  exact ⟨ag, by omega, h2⟩
theorem fc_B : FcB Iv := by
  intro k0 t gs hs kt tu tq nT nH U h
  refine ⟨h.1.1, h.1.2.1, fun i hi j hj => ?_⟩
  obtain ⟨v, -, -, -, h4⟩ := h.2.2.2.2.1 i hi
  rcases h4 with ⟨-, j', h1, h2, -⟩ | ⟨-, h2⟩
  · rw [hj] at h2
    cases h2
    exact h1
  · rw [hj] at h2
    cases h2
theorem fc_M : FcM Iv := by
  intro k0 _ t gs hs kt tu tq nT nH U h
  exact ⟨h.1, h.2.1, h.2.2.1, h.2.2.2.1, h.2.2.2.2.1, h.2.2.2.2.2.mono (by omega)⟩
theorem iv_start : Iv 0 (fun _ => 0) St0 (fun _ => St0) (fun _ => none) (fun _ => 0) (fun _ => (fun _ => 0, fun _ => 0)) 0 0 St0 := by
  refine ⟨⟨by omega, by omega, rfl, rfl, rfl, 0, by omega, rfl, rfl⟩, ⟨0, by omega, rfl, rfl, fun q h => absurd h (Nat.not_lt_zero q)⟩, ⟨0, by omega, rfl, rfl, fun q h => absurd h (Nat.not_lt_zero q)⟩, ⟨fun j h => absurd h (Nat.not_lt_zero j), fun q _ _ => ⟨rfl, rfl⟩, fun j h => absurd h (Nat.not_lt_zero j)⟩, fun i h => absurd h (Nat.not_lt_zero i), ⟨0, by omega, rfl, fun q _ => ⟨0, Nat.le_refl 0, rfl⟩⟩⟩
/-- nothing of the search's own is told by the face -/
theorem mrgS_self (g : St) : mrgS g g = g := by
  obtain ⟨a, b, c⟩ := g
  unfold mrgS
  simp
theorem fc_status : Fc_status Iv := by
  intro k0 _ t gs hs kt tu tq nT nH U h
  refine ⟨t 44, t, gs, U, rfl, ?_, ?_⟩
  · show pr U (j_X7_status U) = some (t 44, U)
    unfold j_X7_status pr
    rw [h.1.2.2.2.2.1]
    rfl
  · rw [mrgS_self]
    exact fc_M k0 (by omega) _ _ _ _ _ _ _ _ _ h
theorem fc_machine : Fc_machine Iv := by
  intro k0 hk0 t gs hs kt tu tq nT nH U h
  have h' := fc_M k0 hk0 _ _ _ _ _ _ _ _ _ h
  obtain ⟨⟨c1, c2, c3, c4, c5, c6⟩, hS, hF, ⟨hT1, hT2, hT3⟩, hH, hM⟩ := h'
  refine ⟨fun h4 => ⟨U, ?_, ⟨c1, c2, c3, c4, c5, c6⟩, hS, hF, ⟨hT1, hT2, hT3⟩, hH, hM⟩, fun h4 => ⟨sI U 3 (nI (nT + 1)), ?_, ?_⟩⟩
  · unfold j_X7_machine
    rw [c3, h4]
    rfl
  · unfold j_X7_machine nm
    rw [c3, if_neg (fun e => by
      have := (nI_eq (a := nT) (b := 4) (by omega) (by decide)).mp e
      omega), nI_1]
    show some (nI (nT + 1) - 1, _) = _
    rw [nI_pred]
  · refine ⟨⟨by omega, c2, rfl, c4, c5, c6⟩, hS, hF, ⟨fun j hj q hq => ?_, fun q h1 h2 => hT2 q (by omega) h2, fun j hj => ?_⟩, fun i hi => ?_, hM⟩
    · dsimp only
      by_cases e : j = nT
      · subst e
        rw [if_pos rfl]
        have := hT2 (32 * j + q) (by omega) (by omega)
        exact ⟨this.1.symm, this.2.symm, 0, by omega, rfl⟩
      · rw [if_neg e]
        exact hT1 j (by omega) q hq
    · dsimp only
      by_cases e : j = nT
      · subst e
        refine Or.inr ⟨if_pos rfl, fun i hi hk => ?_⟩
        have := (fc_B _ _ _ _ _ _ _ _ _ _ h).2.2 i hi j hk
        omega
      · rw [if_neg e]
        exact hT3 j (by omega)
    · obtain ⟨v, v1, v2, v3, v4⟩ := hH i hi
      refine ⟨v, v1, v2, v3, ?_⟩
      rcases v4 with ⟨z1, j, z2, z3, z4⟩ | z
      · exact Or.inl ⟨z1, j, by omega, z3, z4⟩
      · exact Or.inr z
