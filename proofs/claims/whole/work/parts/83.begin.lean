/-! ===== begin ===== -/
theorem acts_r : ∀ kd, kd < 7 → j_X7_actsOf (nI kd) = some (nI (actN kd)) := by decide
theorem acts_n : ∀ kd, kd < 7 → acts kd = nI (actN kd) := by decide
theorem acts_b : ∀ kd, kd < 7 → actN kd < 5 := by decide
theorem isKind_c : ∀ kd, kd < 7 → j_X3_isKind (nI kd) = some 1 := by decide
theorem FN_in {m x : Nat} (h : x < m) (hm : m < 2 ^ 31) : ¬ FN (nI m) (nI x) := by
  rintro (z | ⟨-, z⟩)
  · exact nI_pos (by omega) z
  · exact nI_ge h hm z
/-- what is allowed -/
theorem allows_N {kd : Nat} {a3 a4 : Int32} (hk : kd < 7) (h : FN (nI (actN kd)) a3) : j_X3_allows (nI kd) a3 a4 = some 0 := by
  unfold j_X3_allows
  rw [isKind_c kd hk]
  simp only [Option.bind_some]
  rw [if_neg one_ne]
  by_cases c : a3 < 0
  · rw [if_pos c]
  · rw [if_neg c, gd_nI (by omega) (by decide), nI_clamp (by omega), acts_n kd hk]
    rcases h with z | ⟨-, z⟩
    · exact absurd z c
    · rw [if_neg (fun w => absurd z (Int32.not_le.mpr w))]
theorem allows_Y {kd x : Nat} {a4 : Int32} (hk : kd < 7) (h : x < actN kd) : j_X3_allows (nI kd) (nI x) a4 = if nI kd = 4 then (if a4 < 0 then some 0 else if 16 ≤ a4 then some 0 else some 1) else if nI kd = 5 then (if a4 < 0 then some 0 else if 4 ≤ a4 then some 0 else some 1) else some 1 := by
  have := acts_b kd hk
  unfold j_X3_allows
  rw [isKind_c kd hk]
  simp only [Option.bind_some]
  rw [if_neg one_ne, if_neg (nI_pos (by omega)), gd_nI (by omega) (by decide), nI_clamp (by omega), acts_n kd hk, if_pos (nI_lt h (by omega))]
/-- the caller waits: one of c .. c + k - 1 is its own and open -/
def wtF (v : HVT) (x : Nat) : Nat → Nat → Bool
  | 0, _ => false
  | k + 1, c => (decide (caOf v c = x) && decide (enOf v c = 0)) || wtF v x k (c + 1)
theorem wtF_s (v : HVT) (x k c : Nat) : wtF v x (k + 1) c = ((decide (caOf v c = x) && decide (enOf v c = 0)) || wtF v x k (c + 1)) := rfl
theorem wtF_no {v : HVT} {x : Nat} : ∀ k c, wtF v x k c = false → ∀ q, c ≤ q → q < c + k → caOf v q = x → enOf v q ≠ 0
  | 0, c, _, q, h1, h2, _ => by omega
  | k + 1, c, h, q, h1, h2, h3 => by
    unfold wtF at h
    rw [Bool.or_eq_false_iff, Bool.and_eq_false_iff] at h
    by_cases e : q = c
    · subst e
      rcases h.1 with z | z
      · exact absurd h3 (of_decide_eq_false z)
      · exact of_decide_eq_false z
    · exact wtF_no k (c + 1) h.2 q (by omega) (by omega) h3
theorem waits_c {u : St} {v : HVT} {x : Nat} (hc : CR u v) (hw : WF v) (hx : x < 4) : ∀ f k c, k < f → c + k = nOf v → j_X1_isWaiting_2 u f (nI x) (nI c) = some (if wtF v x k c then 1 else 0)
  | 0, _, _, h, _ => absurd h (Nat.not_lt_zero _)
  | f + 1, k, c, h, hk => by
    have hn := hw.2.1
    show q_X1_isWaiting_2 u (j_X1_isWaiting_2 u f) _ _ = _
    unfold q_X1_isWaiting_2
    simp only [nm]
    rw [hc.2.1]
    cases k with
    | zero =>
      rw [if_pos (nI_le (by omega) (by omega))]
      rfl
    | succ k =>
      have ih := waits_c hc hw hx f k (c + 1) (by omega) (by omega)
      obtain ⟨z1, -, -, -, -, z6, -⟩ := hc.2.2.2 c (by omega)
      have ca := (hw.2.2.2.1 c (by omega)).1
      rw [if_neg (nI_ge (by omega) (by omega)), gd_nI (by omega) (by decide), gd_nI (by omega) (by decide), nI_clamp (by omega), z1, z6, nI_1, ih]
      have e0 := en_0 hw c
      unfold enB at e0
      rw [decide_eq_false_iff_not, Decidable.not_not] at e0
      rw [wtF_s]
      by_cases h1 : caOf v c = x
      · rw [if_pos (by rw [h1]), decide_eq_true h1]
        by_cases h2 : enOf v c = 0
        · rw [if_pos (e0.mpr h2), decide_eq_true h2]
          rfl
        · rw [if_neg (fun z => h2 (e0.mp z)), decide_eq_false h2]
          rfl
      · rw [if_neg (fun z => h1 ((nI_eq (by omega) (by omega)).mp z)), decide_eq_false h1]
        rfl
/-- call n begins -/
def begV (v : HVT) (x y : Nat) (a b : Int32) : HVT := ((kdOf v, nOf v + 1, tkOf v + 1), (fun q => if q = nOf v then x else caOf v q), (fun q => if q = nOf v then y else acOf v q), (fun q => if q = nOf v then tkOf v + 1 else bgOf v q), enOf v, (fun q => if q = nOf v then a else aOf v q), (fun q => if q = nOf v then b else bOf v q), vOf v)
def begC (u : St) (n tk : Nat) (x y : Nat) (a b : Int32) : St := sI (sA (sA (sA (sA (sA (sI u 3 (nI (tk + 1))) 4 n (nI x)) 5 n (nI y)) 6 n a) 7 n b) 8 n (nI (tk + 1))) 2 (nI (n + 1))
def begU (U : St) (i n tk : Nat) (x y : Nat) (a b : Int32) : St := sA (sA (sA (sA (sA (sA (sA (sA (sA U 8 i (nI (tk + 1))) 9 (10 * i + n) (nI x)) 10 (10 * i + n) (nI y)) 11 (10 * i + n) a) 12 (10 * i + n) b) 13 (10 * i + n) (nI (tk + 1))) 14 (10 * i + n) 0) 15 (10 * i + n) 0) 7 i (nI (n + 1))
theorem WF_beg {v : HVT} {x y : Nat} {a b : Int32} (h : WF v) (hn : nOf v < 10) (hx : x < 4) (hy : y < actN (kdOf v)) (h4 : kdOf v = 4 → ∃ z, z < 16 ∧ a = nI z) (h5 : kdOf v = 5 → ∃ z, z < 4 ∧ a = nI z) (hwt : wtF v x (nOf v) 0 = false) : WF (begV v x y a b) := by
  obtain ⟨w1, w2, w3, w4, w5, w6⟩ := h
  have hwt' := wtF_no (nOf v) 0 hwt
  refine ⟨w1, hn, ?_, fun q hq => ?_, fun q d hqd hd => ?_, fun q hq => ?_⟩
  · show tkOf v + 1 = nOf v + 1 + (cntE (enOf v) (nOf v) + if enOf v (nOf v) = 0 then 0 else 1)
    rw [if_pos (w6 (nOf v) (Nat.le_refl _)).1]
    omega
  · have hq' : q < nOf v + 1 := hq
    show (if q = nOf v then x else caOf v q) < 4 ∧ (if q = nOf v then y else acOf v q) < actN (kdOf v) ∧ (kdOf v = 4 → ∃ z, z < 16 ∧ (if q = nOf v then a else aOf v q) = nI z) ∧ (kdOf v = 5 → ∃ z, z < 4 ∧ (if q = nOf v then a else aOf v q) = nI z) ∧ 1 ≤ (if q = nOf v then tkOf v + 1 else bgOf v q) ∧ (if q = nOf v then tkOf v + 1 else bgOf v q) ≤ tkOf v + 1 ∧ (enOf v q = 0 ∨ ((if q = nOf v then tkOf v + 1 else bgOf v q) < enOf v q ∧ enOf v q ≤ tkOf v + 1))
    by_cases e : q = nOf v
    · subst e
      simp only [if_true]
      exact ⟨hx, hy, h4, h5, by omega, Nat.le_refl _, Or.inl (w6 _ (Nat.le_refl _)).1⟩
    · simp only [if_neg e]
      obtain ⟨a1, a2, a3, a4, a5, a6, a7⟩ := w4 q (by omega)
      refine ⟨a1, a2, a3, a4, a5, by omega, ?_⟩
      rcases a7 with z | z
      · exact Or.inl z
      · exact Or.inr ⟨z.1, by omega⟩
  · have hd' : d < nOf v + 1 := hd
    show (if q = nOf v then tkOf v + 1 else bgOf v q) < (if d = nOf v then tkOf v + 1 else bgOf v d) ∧ ((if q = nOf v then x else caOf v q) = (if d = nOf v then x else caOf v d) → enOf v q ≠ 0 ∧ enOf v q < (if d = nOf v then tkOf v + 1 else bgOf v d))
    rw [if_neg (show ¬ q = nOf v by omega), if_neg (show ¬ q = nOf v by omega)]
    by_cases e : d = nOf v
    · rw [if_pos e, if_pos e]
      obtain ⟨a1, a2, a3, a4, a5, a6, a7⟩ := w4 q (by omega)
      refine ⟨by omega, fun z => ?_⟩
      have := hwt' q (Nat.zero_le q) (by omega) z
      refine ⟨this, ?_⟩
      omega
    · rw [if_neg e, if_neg e]
      exact w5 q d hqd (by omega)
  · have hq' : nOf v + 1 ≤ q := hq
    exact w6 q (by omega)
theorem CR_beg {u : St} {v : HVT} {x y : Nat} {a b : Int32} (h : CR u v) : CR (begC u (nOf v) (tkOf v) x y a b) (begV v x y a b) := by
  obtain ⟨h1, h2, h3, h4⟩ := h
  refine ⟨h1, rfl, rfl, fun q hq => ?_⟩
  obtain ⟨z1, z2, z3, z4, z5, z6, z7⟩ := h4 q hq
  unfold begC
  show (sA (sA (sA (sA (sA (sI u 3 _) 4 _ _) 5 _ _) 6 _ _) 7 _ _) 8 _ _).2.1 4 q = nI (if q = nOf v then x else caOf v q) ∧ (sA (sA (sA (sA (sA (sI u 3 _) 4 _ _) 5 _ _) 6 _ _) 7 _ _) 8 _ _).2.1 5 q = nI (if q = nOf v then y else acOf v q) ∧ (sA (sA (sA (sA (sA (sI u 3 _) 4 _ _) 5 _ _) 6 _ _) 7 _ _) 8 _ _).2.1 6 q = (if q = nOf v then a else aOf v q) ∧ (sA (sA (sA (sA (sA (sI u 3 _) 4 _ _) 5 _ _) 6 _ _) 7 _ _) 8 _ _).2.1 7 q = (if q = nOf v then b else bOf v q) ∧ (sA (sA (sA (sA (sA (sI u 3 _) 4 _ _) 5 _ _) 6 _ _) 7 _ _) 8 _ _).2.1 8 q = nI (if q = nOf v then tkOf v + 1 else bgOf v q) ∧ (sA (sA (sA (sA (sA (sI u 3 _) 4 _ _) 5 _ _) 6 _ _) 7 _ _) 8 _ _).2.1 9 q = nI (enOf v q) ∧ (sA (sA (sA (sA (sA (sI u 3 _) 4 _ _) 5 _ _) 6 _ _) 7 _ _) 8 _ _).2.1 10 q = vOf v q
  simp only [sA_2, sI_2]
  by_cases e : q = nOf v
  · simp [e]
    rw [← e]
    exact ⟨z6, z7⟩
  · simp [e]
    exact ⟨z1, z2, z3, z4, z5, z6, z7⟩
theorem RR_beg {U : St} {v : HVT} {i x y : Nat} {a b : Int32} (h : RR U i v) (hw : WF v) : RR (begU U i (nOf v) (tkOf v) x y a b) i (begV v x y a b) := by
  obtain ⟨h1, h2, h3, h4⟩ := h
  have h6 := hw.2.2.2.2.2 (nOf v) (Nat.le_refl _)
  refine ⟨h1, ?_, ?_, fun q hq => ?_⟩
  · unfold begU
    rw [sA_2, if_pos ⟨rfl, rfl⟩]
    rfl
  · unfold begU
    simp [sA_2]
    rfl
  · have hq' : q < nOf v + 1 := hq
    show _ = nI (if q = nOf v then x else caOf v q) ∧ _ = nI (if q = nOf v then y else acOf v q) ∧ _ = (if q = nOf v then a else aOf v q) ∧ _ = (if q = nOf v then b else bOf v q) ∧ _ = nI (if q = nOf v then tkOf v + 1 else bgOf v q) ∧ _ = nI (enOf v q) ∧ _ = vOf v q
    unfold begU
    simp only [sA_2]
    by_cases e : q = nOf v
    · subst e
      simp [h6.1, h6.2]
      rfl
    · obtain ⟨z1, z2, z3, z4, z5, z6, z7⟩ := h4 q (by omega)
      have e2 : ¬ 10 * i + q = 10 * i + nOf v := by omega
      simp [e]
      exact ⟨z1, z2, z3, z4, z5, z6, z7⟩
theorem begin_81 {U : St} {v : HVT} {i x y : Nat} {a b : Int32} (hr : RR U i v) (hw : WF v) (hi : i < 12) (hx : x < 4) : ∀ f k c, k < f → c + k = nOf v → j_X7_begin_81 f U (nI i) (nI x) (nI y) a b (nI c) = if wtF v x k c then some (-3, U) else if nOf v = 10 then some (-4, U) else some (nI (nOf v), begU U i (nOf v) (tkOf v) x y a b)
  | 0, _, _, h, _ => absurd h (Nat.not_lt_zero _)
  | f + 1, k, c, h, hk => by
    have hn := hw.2.1
    show q_X7_begin_81 (j_X7_begin_81 f) _ _ _ _ _ _ _ = _
    unfold q_X7_begin_81
    simp only [nm]
    rw [nI_clamp (show i < 2 ^ 31 by omega), hr.2.1]
    cases k with
    | zero =>
      rw [gd_nI hi (by decide), if_pos (nI_le (by omega) (by omega)), gd_nI hi (by decide), show wtF v x 0 c = false from rfl, if_neg Bool.false_ne_true]
      by_cases e : nOf v = 10
      · rw [if_pos e, if_pos (by rw [e]; rfl)]
      · rw [if_neg e, if_neg (show ¬ nI (nOf v) = 10 from fun z => e ((nI_eq (b := 10) (by omega) (by decide)).mp z)), ix10, nI_clamp (show 10 * i + nOf v < 2 ^ 31 by omega)]
        simp only [gd_nI hi (by decide : 12 < 2 ^ 31), gd_nI (show 10 * i + nOf v < 120 by omega) (by decide : 120 < 2 ^ 31)]
        rw [hr.2.2.1, nI_1]
        simp only [sA_2, hr.2.1]
        simp [hr.2.1, nI_1, nI_pred, begU]
    | succ k =>
      have ih := begin_81 (y := y) (a := a) (b := b) hr hw hi hx f k (c + 1) (by omega) (by omega)
      obtain ⟨z1, -, -, -, -, z6, -⟩ := hr.2.2.2 c (by omega)
      have ca := (hw.2.2.2.1 c (by omega)).1
      rw [gd_nI hi (by decide), if_neg (nI_ge (by omega) (by omega)), ix10, gd_nI (by omega) (by decide), nI_clamp (by omega), z1, isOpen_r hi (by omega), z6, nI_1, ih]
      have e0 := en_0 hw c
      unfold enB at e0
      rw [decide_eq_false_iff_not, Decidable.not_not] at e0
      simp only [Option.bind_some]
      rw [wtF_s]
      by_cases h1 : caOf v c = x
      · rw [if_pos (by rw [h1]), decide_eq_true h1]
        by_cases h2 : enOf v c = 0
        · rw [if_pos (e0.mpr h2), decide_eq_true h2]
          rfl
        · rw [if_neg (fun z => h2 (e0.mp z)), decide_eq_false h2]
          rfl
      · rw [if_neg (fun z => h1 ((nI_eq (by omega) (by omega)).mp z)), decide_eq_false h1]
        rfl
theorem start_c {u : St} {n tk x y : Nat} {a b : Int32} (hu : u.1 2 = nI n) (h3 : u.1 3 = nI tk) (hn : n < 10) : j_X1_start u (nI x) (nI y) a b = some (nI n, begC u n tk x y a b) := by
  unfold j_X1_start
  simp only [nm]
  rw [hu, if_pos (show nI n < 10 from nI_lt (b := 10) hn (by decide)), h3, nI_1]
  simp only [sA_1, sI_1]
  simp [hu, gd_nI (show n < 10 from hn) (by decide : 10 < 2 ^ 31), nI_clamp (show n < 2 ^ 31 by omega), nI_1, nI_pred, begC]
theorem begin_r {U : St} {v : HVT} {i nH x y : Nat} {a4 a5 : Int32} (hU : U.1 4 = nI nH) (hi : i < nH) (h12 : nH ≤ 12) (hr : RR U i v) (hw : WF v) (hx : x < 4) (hy : y < actN (kdOf v)) : j_X7_begin U (nI i) (nI x) (nI y) a4 a5 = if nI (kdOf v) = 4 then (if j_X7_in a4 0 15 = some 0 then some (-2, U) else j_X7_begin_81 100 U (nI i) (nI x) (nI y) a4 a5 0) else if nI (kdOf v) = 5 then (if j_X7_in a4 0 3 = some 0 then some (-2, U) else j_X7_begin_81 100 U (nI i) (nI x) (nI y) a4 a5 0) else j_X7_begin_81 100 U (nI i) (nI x) (nI y) a4 a5 0 := by
  have hk := hw.1
  have hb := acts_b _ hk
  unfold j_X7_begin
  rw [isHist_Y hU hi h12]
  simp only [Option.bind_some, nm]
  rw [if_neg one_ne, gd_nI (by omega) (by decide), nI_clamp (by omega), hr.1, show j_X7_in (nI x) 0 3 = some 1 from in_Y (n := 4) hx (by decide), acts_r _ hk]
  simp only [Option.bind_some]
  rw [if_neg one_ne, in_Y hy (by omega)]
  simp only [Option.bind_some]
  rw [if_neg one_ne]
  by_cases e4 : nI (kdOf v) = 4
  · rw [if_pos e4, if_pos e4, if_neg (by rw [e4]; decide)]
    rcases in_lit (x := a4) (m := 16) (hi := 15) (by decide) (by decide) with ⟨-, z⟩ | ⟨j, -, -, z⟩
    · rw [z]
      rfl
    · rw [z]
      rfl
  · rw [if_neg e4, if_neg e4]
    by_cases e5 : nI (kdOf v) = 5
    · rw [if_pos e5, if_pos e5]
      rcases in_lit (x := a4) (m := 4) (hi := 3) (by decide) (by decide) with ⟨-, z⟩ | ⟨j, -, -, z⟩
      · rw [z]
        rfl
      · rw [z]
        rfl
    · rw [if_neg e5, if_neg e5]
theorem fc_begin : Fc_begin Iv := by
  intro a1 a2 a3 a4 a5 k0 hk0 t gs hs kt tu tq nT nH U h
  have h' := fc_M k0 hk0 _ _ _ _ _ _ _ _ _ h
  obtain ⟨c1, c2, c3, c4, c5, c6⟩ := h.1
  refine ⟨fun i hi hh a6 sh => ?_, fun hn => ?_⟩
  · subst hh
    obtain ⟨v, v1, v2, v3, v4⟩ := h.2.2.2.2.1 i hi
    have hn10 := v3.2.1
    have hk7 := v3.1
    have hb := acts_b _ hk7
    have hcr : CR (mrg gs (hs i)) v := v1
    have hm := Iv_mrg i h'
    have bad : j_X6_begin_Y (Tq tq (kt i)) a6 t (mrg gs (hs i)) sh (nI i) a2 a3 a4 a5 = some (-2, t, mrg gs (hs i), sh) → j_X7_begin U (nI i) a2 a3 a4 a5 = some (-2, U) → ∃ (r : Int32) (t' : Nat → Int32) (u' : St) (sh' : Nat) (U' : St), j_X6_begin_Y (Tq tq (kt i)) a6 t (mrg gs (hs i)) sh (nI i) a2 a3 a4 a5 = some (r, t', u', sh') ∧ j_X7_begin U (nI i) a2 a3 a4 a5 = some (r, U') ∧ Iv (k0 + 6) t' u' (fun k => if k = i then u' else hs k) kt tu tq nT nH U' :=
      fun e1 e2 => ⟨-2, t, _, sh, U, e1, e2, hm⟩
    rcases in_lit (x := a2) (m := 4) (hi := 3) (by decide) (by decide) with ⟨hf, hin⟩ | ⟨x, hx, rfl, hin⟩
    · refine bad ?_ ?_
      · unfold j_X6_begin_Y
        by_cases c : a2 < 0
        · rw [if_pos c]
        · rw [if_neg c]
          rcases hf with z | ⟨-, z⟩
          · exact absurd z c
          · rw [if_pos (show (4 : Int32) ≤ a2 from z)]
      · unfold j_X7_begin
        rw [isHist_Y c4 hi c2]
        simp only [Option.bind_some, nm]
        rw [if_neg one_ne, gd_nI (by omega) (by decide), hin]
        rfl
    · have hx0 : ¬ nI x < 0 := nI_pos (by omega)
      have hx4 : ¬ (4 : Int32) ≤ nI x := nI_ge (b := 4) hx (by decide)
      rcases FN_or (actN (kdOf v)) (by omega) a3 with hf | ⟨y, hy, rfl⟩
      · refine bad ?_ ?_
        · unfold j_X6_begin_Y
          rw [if_neg hx0, if_neg hx4, hcr.1, allows_N hk7 hf]
          rfl
        · unfold j_X7_begin
          rw [isHist_Y c4 hi c2]
          simp only [Option.bind_some, nm]
          rw [if_neg one_ne, gd_nI (by omega) (by decide), nI_clamp (by omega), hin, v2.1, acts_r _ hk7]
          simp only [Option.bind_some]
          rw [if_neg one_ne, in_N (by omega) hf]
          rfl
      · have e1 := begin_r (a4 := a4) (a5 := a5) c4 hi c2 v2 v3 hx hy
        have e2 := allows_Y (a4 := a4) hk7 hy
        have e81 := begin_81 (y := y) (a := a4) (b := a5) v2 v3 (by omega) hx 100 (nOf v) 0 (by omega) (by omega)
        rw [show nI 0 = 0 from rfl] at e81
        have ok : j_X3_allows (nI (kdOf v)) (nI y) a4 = some 1 → j_X7_begin U (nI i) (nI x) (nI y) a4 a5 = j_X7_begin_81 100 U (nI i) (nI x) (nI y) a4 a5 0 → (kdOf v = 4 → ∃ z, z < 16 ∧ a4 = nI z) → (kdOf v = 5 → ∃ z, z < 4 ∧ a4 = nI z) → ∃ (r : Int32) (t' : Nat → Int32) (u' : St) (sh' : Nat) (U' : St), j_X6_begin_Y (Tq tq (kt i)) a6 t (mrg gs (hs i)) sh (nI i) (nI x) (nI y) a4 a5 = some (r, t', u', sh') ∧ j_X7_begin U (nI i) (nI x) (nI y) a4 a5 = some (r, U') ∧ Iv (k0 + 6) t' u' (fun k => if k = i then u' else hs k) kt tu tq nT nH U' := by
          intro f1 f2 f4 f5
          have g1 : j_X6_begin_Y (Tq tq (kt i)) a6 t (mrg gs (hs i)) sh (nI i) (nI x) (nI y) a4 a5 = if wtF v x (nOf v) 0 then some (-3, t, mrg gs (hs i), sh) else if nOf v = 10 then some (-4, t, mrg gs (hs i), sh) else some (nI (nOf v), t, begC (mrg gs (hs i)) (nOf v) (tkOf v) x y a4 a5, sh) := by
            unfold j_X6_begin_Y
            rw [if_neg hx0, if_neg hx4, hcr.1, f1]
            simp only [Option.bind_some]
            rw [if_neg one_ne, show j_X1_isWaiting (mrg gs (hs i)) (nI x) = _ from waits_c hcr v3 hx 100 (nOf v) 0 (by omega) (by omega), hcr.2.1]
            simp only [Option.bind_some]
            cases wtF v x (nOf v) 0 with
            | true => rfl
            | false =>
              simp only [Bool.false_eq_true, if_false, if_true]
              by_cases e : nOf v = 10
              · rw [if_pos e, if_neg (by rw [e]; decide)]
              · rw [if_neg e, if_pos (show nI (nOf v) < 10 from nI_lt (b := 10) (by omega) (by decide)), start_c hcr.2.1 hcr.2.2.1 (by omega)]
                rfl
          rw [f2, e81, g1]
          cases hwt : wtF v x (nOf v) 0 with
          | true => exact ⟨-3, t, _, sh, U, rfl, rfl, hm⟩
          | false =>
            simp only [Bool.false_eq_true, if_false]
            by_cases e : nOf v = 10
            · rw [if_pos e, if_pos e]
              exact ⟨-4, t, _, sh, U, rfl, rfl, hm⟩
            · rw [if_neg e, if_neg e]
              refine ⟨_, t, _, sh, _, rfl, rfl, Iv_hist (v' := begV v x y a4 a5) h' i v4 rfl rfl rfl rfl rfl rfl rfl rfl rfl rfl rfl rfl (fun j w hj hne hw hr => RR_other hne hw hr (fun q _ => rfl) (fun q hq => ?_) (fun q hq => ?_) (fun k q h9 h15 hq => ?_)) (CR_beg hcr) (RR_beg v2 v3) (WF_beg v3 (by omega) hx hy f4 f5 hwt)⟩
              · simp [begU, sA_2, hq]
              · simp [begU, sA_2, hq]
              · have hq2 : ¬ q = 10 * i + nOf v := by omega
                have h7 : ¬ k = 7 := by omega
                have h8 : ¬ k = 8 := by omega
                simp [begU, sA_2, hq2, h7, h8]
        by_cases e4 : kdOf v = 4
        · have e4' : nI (kdOf v) = 4 := by rw [e4]; rfl
          rw [if_pos e4'] at e1 e2
          rcases in_lit (x := a4) (m := 16) (hi := 15) (by decide) (by decide) with ⟨hf, z⟩ | ⟨j, hj, rfl, z⟩
          · rw [if_pos z] at e1
            refine bad ?_ e1
            unfold j_X6_begin_Y
            rw [if_neg hx0, if_neg hx4, hcr.1, e2]
            by_cases c : a4 < 0
            · rw [if_pos c]
              rfl
            · rw [if_neg c]
              rcases hf with w | ⟨-, w⟩
              · exact absurd w c
              · rw [if_pos (show (16 : Int32) ≤ a4 from w)]
                rfl
          · rw [if_neg (by rw [z]; decide)] at e1
            rw [if_neg (nI_pos (by omega)), if_neg (show ¬ (16 : Int32) ≤ nI j from nI_ge (b := 16) hj (by decide))] at e2
            exact ok e2 e1 (fun _ => ⟨j, hj, rfl⟩) (fun w => by omega)
        · have e4' : ¬ nI (kdOf v) = 4 := fun z => e4 ((nI_eq (b := 4) (by omega) (by decide)).mp z)
          rw [if_neg e4'] at e1 e2
          by_cases e5 : kdOf v = 5
          · have e5' : nI (kdOf v) = 5 := by rw [e5]; rfl
            rw [if_pos e5'] at e1 e2
            rcases in_lit (x := a4) (m := 4) (hi := 3) (by decide) (by decide) with ⟨hf, z⟩ | ⟨j, hj, rfl, z⟩
            · rw [if_pos z] at e1
              refine bad ?_ e1
              unfold j_X6_begin_Y
              rw [if_neg hx0, if_neg hx4, hcr.1, e2]
              by_cases c : a4 < 0
              · rw [if_pos c]
                rfl
              · rw [if_neg c]
                rcases hf with w | ⟨-, w⟩
                · exact absurd w c
                · rw [if_pos (show (4 : Int32) ≤ a4 from w)]
                  rfl
            · rw [if_neg (by rw [z]; decide)] at e1
              rw [if_neg (nI_pos (by omega)), if_neg (show ¬ (4 : Int32) ≤ nI j from nI_ge (b := 4) hj (by decide))] at e2
              exact ok e2 e1 (fun w => by omega) (fun _ => ⟨j, hj, rfl⟩)
          · have e5' : ¬ nI (kdOf v) = 5 := fun z => e5 ((nI_eq (b := 5) (by omega) (by decide)).mp z)
            rw [if_neg e5'] at e1 e2
            exact ok e2 e1 (fun w => absurd w e4) (fun w => absurd w e5)
  · refine ⟨-1, t, U, rfl, ?_, h'⟩
    show j_X7_begin U a1 a2 a3 a4 a5 = _
    unfold j_X7_begin
    rw [isHist_N c4 hn c2]
    rfl
