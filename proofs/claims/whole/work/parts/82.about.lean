/-! ===== masks made by loops; about ===== -/
/-- the set of those of the first n that f says -/
def mk (f : Nat → Bool) : Nat → Nat
  | 0 => 0
  | n + 1 => mk f n ||| (if f n then 2 ^ n else 0)
theorem mk_lt (f : Nat → Bool) : ∀ n, mk f n < 2 ^ n
  | 0 => Nat.lt_add_one 0
  | n + 1 => by
    have h := mk_lt f n
    have h2 : 2 ^ n < 2 ^ (n + 1) := Nat.pow_lt_pow_right (by decide) (by omega)
    unfold mk
    refine Nat.or_lt_two_pow (by omega) ?_
    split
    · exact h2
    · exact Nat.pow_pos (by decide)
theorem mk_tb (f : Nat → Bool) (i : Nat) : ∀ n, (mk f n).testBit i = (decide (i < n) && f i)
  | 0 => by
    show (0 : Nat).testBit i = _
    rw [Nat.zero_testBit, decide_eq_false (Nat.not_lt_zero i)]
    rfl
  | n + 1 => by
    unfold mk
    rw [Nat.testBit_or, mk_tb f i n]
    by_cases e : i = n
    · subst e
      rw [decide_eq_false (Nat.lt_irrefl i), decide_eq_true (Nat.lt_succ_self i)]
      cases f i with
      | true =>
        rw [if_pos rfl, Nat.testBit_two_pow_self]
        rfl
      | false =>
        rw [if_neg Bool.false_ne_true, Nat.zero_testBit]
        rfl
    · have h1 : (if f n = true then 2 ^ n else 0).testBit i = false := by
        split
        · rw [Nat.testBit_two_pow]
          exact decide_eq_false (fun z => e z.symm)
        · exact Nat.zero_testBit i
      rw [h1, Bool.or_false]
      congr 1
      apply decide_eq_decide.mpr
      omega
theorem mk_lt10 (f : Nat → Bool) {n : Nat} (h : n ≤ 10) : mk f n < 1024 :=
  Nat.lt_of_lt_of_le (mk_lt f n) (show 2 ^ n ≤ 2 ^ 10 from Nat.pow_le_pow_right (by decide) h)
theorem mk_t {f : Nat → Bool} {n : Nat} (h : f n = true) : mk f (n + 1) = mk f n ||| 2 ^ n := by
  show mk f n ||| (if f n then 2 ^ n else 0) = _
  rw [if_pos h]
theorem mk_f {f : Nat → Bool} {n : Nat} (h : f n = false) : mk f (n + 1) = mk f n := by
  show mk f n ||| (if f n then 2 ^ n else 0) = _
  rw [h, if_neg Bool.false_ne_true, Nat.or_zero]
theorem or_bit (m : Nat) {c : Nat} (h : c < 31) : nI m ||| ((1 : Int32) <<< (nI c &&& 31)) = nI (m ||| 2 ^ c) := by
  rw [one_shl h, fa_or]
def enB (v : HVT) (c : Nat) : Bool := decide (enOf v c ≠ 0)
theorem WF.en {v : HVT} (h : WF v) (c : Nat) : enOf v c < 2 ^ 31 := by
  by_cases hc : c < nOf v
  · have h1 := (h.2.2.2.1 c hc).2.2.2.2.2.2
    have := h.tk
    omega
  · rw [(h.2.2.2.2.2 c (by omega)).1]
    decide
theorem en_0 {v : HVT} (h : WF v) (c : Nat) : nI (enOf v c) = 0 ↔ enB v c = false := by
  unfold enB
  rw [decide_eq_false_iff_not, Decidable.not_not, show (0 : Int32) = nI 0 from rfl, nI_eq (h.en c) (by decide)]
theorem ended_c {u : St} {v : HVT} (hc : CR u v) (hw : WF v) : ∀ k c, nOf v - c < k → c ≤ nOf v → j_X1_endedCalls_4 u k (nI (mk (enB v) c)) (nI c) = some (nI (mk (enB v) (nOf v)))
  | 0, _, h, _ => absurd h (Nat.not_lt_zero _)
  | k + 1, c, h, hcn => by
    have hn := hw.2.1
    show q_X1_endedCalls_4 u (j_X1_endedCalls_4 u k) _ _ = _
    unfold q_X1_endedCalls_4 nm
    rw [hc.2.1]
    by_cases e : c = nOf v
    · subst e
      rw [if_pos (nI_le (Nat.le_refl _) (by omega))]
    · rw [if_neg (nI_ge (by omega) (by omega)), gd_nI (by omega) (by decide), nI_clamp (by omega), (hc.2.2.2 c (by omega)).2.2.2.2.2.1, nI_1]
      have ih := ended_c hc hw k (c + 1) (by omega) (by omega)
      cases hb : enB v c with
      | false =>
        rw [if_pos ((en_0 hw c).mpr hb), ← mk_f hb]
        exact ih
      | true =>
        rw [if_neg (fun z => by rw [(en_0 hw c).mp z] at hb; cases hb), or_bit _ (by omega), ← mk_t hb]
        exact ih
theorem endedC {u : St} {v : HVT} (hc : CR u v) (hw : WF v) : j_X1_endedCalls u = some (nI (mk (enB v) (nOf v))) :=
  ended_c hc hw 100 0 (by have := hw.2.1; omega) (Nat.zero_le _)
theorem fr_cnt (en : Nat → Nat) (p : Nat) : ∀ n, (∀ c, c < n → p.testBit c = decide (en c ≠ 0)) → fr n p + cntE en n = n
  | 0, _ => rfl
  | n + 1, h => by
    have ih := fr_cnt en p n (fun c hc => h c (by omega))
    unfold fr cntE
    rw [h n (by omega)]
    by_cases e : en n = 0
    · rw [if_pos e, if_neg (by rw [decide_eq_true_iff]; exact fun z => z e)]
      omega
    · rw [if_neg e, if_pos (decide_eq_true e)]
      omega
theorem fr_hi {p m : Nat} (h : p < 2 ^ m) : ∀ k, fr (m + k) p = fr m p + k
  | 0 => rfl
  | k + 1 => by
    show fr (m + k) p + (if p.testBit (m + k) then 0 else 1) = _
    rw [fr_hi h k, Nat.testBit_lt_two_pow (Nat.lt_of_lt_of_le h (Nat.pow_le_pow_right (by decide) (Nat.le_add_right m k))), if_neg Bool.false_ne_true]
    omega
/-- how many calls a set has -/
def pcN (p : Nat) : Nat := 10 - fr 10 p
theorem bitCount_c : ∀ m, m < 1024 → j_J6_bitCount_0f7a4 (nI m) = some (nI (pcN m)) := by decide +kernel
theorem about_61 {U : St} {i : Nat} {v : HVT} (hr : RR U i v) (hw : WF v) (hi : i < 12) : ∀ k c, nOf v - c < k → c ≤ nOf v → j_X7_about_61 U k (nI i) (nI (c - cntE (enOf v) c)) (nI c) = some (nI (nOf v - cntE (enOf v) (nOf v)))
  | 0, _, h, _ => absurd h (Nat.not_lt_zero _)
  | k + 1, c, h, hcn => by
    have hn := hw.2.1
    show q_X7_about_61 U (j_X7_about_61 U k) _ _ _ = _
    unfold q_X7_about_61 nm
    rw [gd_nI (by omega) (by decide), nI_clamp (by omega), hr.2.1]
    by_cases e : c = nOf v
    · subst e
      rw [if_pos (nI_le (Nat.le_refl _) (by omega))]
    · rw [if_neg (nI_ge (by omega) (by omega)), isOpen_r (by omega) (by omega), (hr.2.2.2 c (by omega)).2.2.2.2.2.1, nI_1]
      have ih := about_61 hr hw hi k (c + 1) (by omega) (by omega)
      have hl := cntE_le (enOf v) c
      have e0 := en_0 hw c
      unfold enB at e0
      rw [decide_eq_false_iff_not, Decidable.not_not] at e0
      by_cases hb : enOf v c = 0
      · rw [if_pos (e0.mpr hb)]
        simp only [Option.bind_some]
        rw [if_neg one_ne, nI_1, show c - cntE (enOf v) c + 1 = c + 1 - cntE (enOf v) (c + 1) by
          show _ = c + 1 - (cntE (enOf v) c + _)
          rw [if_pos hb]
          omega]
        exact ih
      · rw [if_neg (fun z => hb (e0.mp z))]
        simp only [Option.bind_some]
        rw [if_pos trivial, show (0 : Int32) = nI 0 from rfl, nI_add, show c - cntE (enOf v) c + 0 = c + 1 - cntE (enOf v) (c + 1) by
          show _ = c + 1 - (cntE (enOf v) c + _)
          rw [if_neg hb]
          omega]
        exact ih
theorem about_c {T : TbT} {a6 sh : Nat} {t : Nat → Int32} {u : St} {x a2 : Int32} {v : HVT} (hc : CR u v) (hw : WF v) : j_X6_about_Y T a6 t u sh x a2 = some (pk4 a2 (nI (kdOf v)) (nI (nOf v)) (nI (nOf v - cntE (enOf v) (nOf v))) (nI (tkOf v)), t, u, sh) := by
  have hn := hw.2.1
  unfold j_X6_about_Y pk4
  rw [endedC hc hw, hc.1, hc.2.1, hc.2.2.1]
  simp only [Option.bind_some]
  rw [bitCount_c _ (mk_lt10 _ hn)]
  have h1 := fr_cnt (enOf v) (mk (enB v) (nOf v)) (nOf v) (fun c hc => by
    rw [mk_tb, decide_eq_true hc]
    rfl)
  have h2 := fr_hi (mk_lt (enB v) (nOf v)) (10 - nOf v)
  rw [show nOf v + (10 - nOf v) = 10 by omega] at h2
  have h3 := cntE_le (enOf v) (nOf v)
  have h4 : pcN (mk (enB v) (nOf v)) = cntE (enOf v) (nOf v) := by
    unfold pcN
    omega
  rw [h4]
  simp only [Option.bind_some]
  rw [pk_sub h3]
  by_cases e0 : a2 = 0
  · rw [if_pos e0, if_pos e0]
  rw [if_neg e0, if_neg e0]
  by_cases e1 : a2 = 1
  · rw [if_pos e1, if_pos e1]
  rw [if_neg e1, if_neg e1]
  by_cases e2 : a2 = 2
  · rw [if_pos e2, if_pos e2]
  rw [if_neg e2, if_neg e2]
  by_cases e3 : a2 = 3
  · rw [if_pos e3, if_pos e3]
  rw [if_neg e3, if_neg e3]
theorem about_r {U : St} {i nH : Nat} {a2 : Int32} {v : HVT} (hU : U.1 4 = nI nH) (hi : i < nH) (h12 : nH ≤ 12) (hr : RR U i v) (hw : WF v) : j_X7_about U (nI i) a2 = some (pk4 a2 (nI (kdOf v)) (nI (nOf v)) (nI (nOf v - cntE (enOf v) (nOf v))) (nI (tkOf v))) := by
  unfold j_X7_about pk4
  rw [isHist_Y hU hi h12]
  simp only [Option.bind_some]
  have h61 : j_X7_about_61 U 100 (nI i) 0 0 = _ := about_61 hr hw (by omega) 100 0 (by have := hw.2.1; omega) (Nat.zero_le _)
  rw [if_neg one_ne, gd_nI (by omega) (by decide), gd_nI (by omega) (by decide), gd_nI (by omega) (by decide), nI_clamp (by omega), hr.1, hr.2.1, hr.2.2.1, h61]
  by_cases e0 : a2 = 0
  · rw [if_pos e0, if_pos e0]
  rw [if_neg e0, if_neg e0]
  by_cases e1 : a2 = 1
  · rw [if_pos e1, if_pos e1]
  rw [if_neg e1, if_neg e1]
  by_cases e2 : a2 = 2
  · rw [if_pos e2, if_pos e2]
  rw [if_neg e2, if_neg e2]
  by_cases e3 : a2 = 3
  · rw [if_pos e3, if_pos e3]
  rw [if_neg e3, if_neg e3]
theorem fc_about : Fc_about Iv := by
  intro a1 a2 k0 hk0 t gs hs kt tu tq nT nH U h
  have h' := fc_M k0 hk0 _ _ _ _ _ _ _ _ _ h
  obtain ⟨c1, c2, c3, c4, c5, c6⟩ := h.1
  refine ⟨fun i hi hh a6 sh => ?_, fun hn => ?_⟩
  · subst hh
    obtain ⟨v, v1, v2, v3, v4⟩ := h.2.2.2.2.1 i hi
    have hcr : CR (mrg gs (hs i)) v := v1
    refine ⟨_, t, _, sh, U, about_c hcr v3, ?_, Iv_mrg i h'⟩
    show pr U (j_X7_about U (nI i) a2) = _
    rw [about_r c4 hi c2 v2 v3]
    rfl
  · refine ⟨-1, t, U, rfl, ?_, h'⟩
    show pr U (j_X7_about U a1 a2) = _
    unfold j_X7_about
    rw [isHist_N c4 hn c2]
    rfl
