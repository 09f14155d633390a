/-! ===== facts: judge, orders, rules, apart ===== -/
theorem Iv_srch {k k' ag' : Nat} {t : Nat → Int32} {gs : St} {hs : Nat → St} {kt : Nat → Option Nat} {tu : Nat → Int32} {tq : Nat → (Nat → Int32) × (Nat → Int32)} {nT nH : Nat} {U : St} (h : Iv k t gs hs kt tu tq nT nH U) (i : Nat) {u' U' : St} (hf : sf (mrg gs (hs i)) u') (hA : AG ag' u') (hag : ag' ≤ 200 * k') (hr : rfr U U') :
    Iv k' t u' (fun q => if q = i then u' else hs q) kt tu tq nT nH U' := by
  obtain ⟨hC, hS, hF, hT, hH, hM⟩ := h
  have u32 : u'.2.1 32 = gs.2.1 32 := hf.2 32 (by decide) (by decide)
  have u31 : u'.2.1 31 = gs.2.1 31 := hf.2 31 (by decide) (by decide)
  have u30 : u'.1 30 = gs.1 30 := hf.1 30 (by decide) (by decide) (by decide) (by decide)
  have I := hr.1
  have R := hr.2
  refine ⟨?_, ?_, ?_, ?_, fun j hj => ?_, ⟨ag', hag, hA⟩⟩
  · unfold iC at hC ⊢
    rw [I 3 (by decide) (by decide), I 4 (by decide) (by decide), I 16 (by decide) (by decide), I 27 (by decide) (by decide)]
    exact hC
  · unfold iS at hS ⊢
    rw [I 29 (by decide) (by decide), R 28 (by decide) (by decide) (by decide) (by decide), u32]
    exact hS
  · unfold iF at hF ⊢
    rw [I 26 (by decide) (by decide), R 25 (by decide) (by decide) (by decide) (by decide), u30, u31]
    exact hF
  · unfold iT at hT ⊢
    rw [R 1 (by decide) (by decide) (by decide) (by decide), R 2 (by decide) (by decide) (by decide) (by decide)]
    exact hT
  · obtain ⟨v, v1, v2, v3, v4⟩ := hH j hj
    refine ⟨v, ?_, RR_rfr v2 hr, v3, by rw [R 6 (by decide) (by decide) (by decide) (by decide)]; exact v4⟩
    dsimp only
    by_cases e : j = i
    · rw [if_pos e]
      rw [e] at v1
      exact CR_sf (u := mrg gs (hs i)) v1 hf
    · rw [if_neg e]
      exact v1
theorem TU_of {t : Nat → Int32} {gs : St} {hs : Nat → St} {kt : Nat → Option Nat} {tu : Nat → Int32} {tq : Nat → (Nat → Int32) × (Nat → Int32)} {nT nH i k : Nat} {U : St} {v : HVT} (h : Iv k t gs hs kt tu tq nT nH U) (h4 : (kdOf v = 6 ∧ ∃ j, j < nT ∧ kt i = some j ∧ U.2.1 6 i = nI j) ∨ (kdOf v ≠ 6 ∧ kt i = none)) : TU v (Tq tq (kt i)) U i := by
  intro hk
  rcases h4 with ⟨-, j, h1, h2, h3⟩ | ⟨h1, -⟩
  · refine ⟨j, tq j, by rw [h2]; rfl, by have := h.1.1; omega, h3, fun x hx => ?_⟩
    exact h.2.2.2.1.1 j h1 x hx
  · exact absurd hk h1
theorem AG_of {t : Nat → Int32} {gs : St} {hs : Nat → St} {kt : Nat → Option Nat} {tu : Nat → Int32} {tq : Nat → (Nat → Int32) × (Nat → Int32)} {nT nH k : Nat} {U : St} (h : Iv k t gs hs kt tu tq nT nH U) (i : Nat) : ∃ ag, ag ≤ 200 * k ∧ AG ag (mrg gs (hs i)) := by
  obtain ⟨ag, h1, h2, h3⟩ := h.2.2.2.2.2
  exact ⟨ag, h1, h2, h3⟩
theorem bP {α β : Type} {x : α} {y : β} {γ : Type} (f : α → β → Option γ) : (some (x, y)).bind (fun ⟨a, b⟩ => f a b) = f x y := rfl
theorem fc_judge : Fc_judge Iv := by
  intro a1 a2 k0 hk0 t gs hs kt tu tq nT nH U h
  have h' := fc_M k0 hk0 _ _ _ _ _ _ _ _ _ h
  obtain ⟨c1, c2, c3, c4, c5, c6⟩ := h.1
  refine ⟨fun i hi hh a6 sh => ?_, fun hn => ?_⟩
  · subst hh
    obtain ⟨v, v1, v2, v3, v4⟩ := h.2.2.2.2.1 i hi
    have hn10 := v3.2.1
    have hcr : CR (mrg gs (hs i)) v := v1
    have hT := TU_of h v4
    obtain ⟨ag, g1, g2⟩ := AG_of h i
    unfold j_X6_judge_Y j_X7_judge
    rcases isRule_or a2 with ⟨-, r1, r2⟩ | ⟨rule, hru, rfl, r1, r2⟩
    · refine ⟨-1, t, _, sh, U, by dsimp only; rw [r1]; rfl, by dsimp only; rw [isHist_Y c4 hi c2, b1, r2]; rfl, Iv_mrg i h'⟩
    · obtain ⟨u1, e1, e2, e3⟩ := takesC hcr v3 hT.tq hru (all_lt hn10) g2 (by omega)
      obtain ⟨U1, d1, d2, -⟩ := takenR v2 v3 hT (by omega) hru (all_lt hn10)
      refine ⟨if tkB v (Tq tq (kt i)) rule (2 ^ nOf v - 1) then 1 else 0, t, u1, a6, U1, ?_, ?_, Iv_srch h i e3 e2 (by omega) d2⟩
      · dsimp only
        rw [r1, b1, all_c hcr.2.1 hn10, Option.bind_some, e1]
        cases tkB v (Tq tq (kt i)) rule (2 ^ nOf v - 1) <;> rfl
      · dsimp only
        rw [isHist_Y c4 hi c2, b1, r2, b1, all_r v2.2.1 (by omega) hn10, Option.bind_some, d1]
        cases tkB v (Tq tq (kt i)) rule (2 ^ nOf v - 1) <;> rfl
  · exact ⟨-1, t, U, rfl, by
      show j_X7_judge U a1 a2 = _
      unfold j_X7_judge
      rw [isHist_N c4 hn c2]
      rfl, h'⟩
theorem fc_orders : Fc_orders Iv := by
  intro a1 a2 k0 hk0 t gs hs kt tu tq nT nH U h
  have h' := fc_M k0 hk0 _ _ _ _ _ _ _ _ _ h
  obtain ⟨c1, c2, c3, c4, c5, c6⟩ := h.1
  refine ⟨fun i hi hh a6 sh => ?_, fun hn => ?_⟩
  · subst hh
    obtain ⟨v, v1, v2, v3, v4⟩ := h.2.2.2.2.1 i hi
    have hn10 := v3.2.1
    have hcr : CR (mrg gs (hs i)) v := v1
    have hT := TU_of h v4
    obtain ⟨ag, g1, g2⟩ := AG_of h i
    unfold j_X6_orders_Y j_X7_orders
    rcases isRule_or a2 with ⟨-, r1, r2⟩ | ⟨rule, hru, rfl, r1, r2⟩
    · refine ⟨-1, t, _, sh, U, by dsimp only; rw [r1]; rfl, by dsimp only; rw [isHist_Y c4 hi c2, b1, r2]; rfl, Iv_mrg i h'⟩
    · obtain ⟨u1, e1, e2, e3⟩ := countC hcr v3 hT.tq hru g2 (by omega)
      obtain ⟨U0, U1, d0, d1, d2, d3, d4⟩ := ordersR v2 v3 hT (by omega) hru (all_lt hn10)
      refine ⟨lN (Wv v (Tq tq (kt i)) rule (2 ^ nOf v - 1) 0 (s0 v)), t, u1, a6, U1, ?_, ?_, Iv_srch h i e3 e2 (by omega) d4⟩
      · dsimp only
        rw [r1, b1, e1]
        rfl
      · dsimp only
        rw [isHist_Y c4 hi c2, b1, r2, b1, all_r v2.2.1 (by omega) hn10, Option.bind_some, d0, Option.bind_some]
        simp only [nm]
        rw [all_r d1.2.1 (by omega) hn10, Option.bind_some, Option.bind_some, due_r d1 v3 (by omega) (all_lt hn10), Option.bind_some, d2]
        show some (U1.2.2 22 0, U1) = _
        rw [d3]
  · exact ⟨-1, t, U, rfl, by
      show j_X7_orders U a1 a2 = _
      unfold j_X7_orders
      rw [isHist_N c4 hn c2]
      rfl, h'⟩
def rlB (v : HVT) (T : TbT) : Nat → Bool := fun r => tkB v T r (2 ^ nOf v - 1)
theorem rules_c {v : HVT} {T : TbT} (hw : WF v) (hT : TQ v T) (a6 : Nat) (t : Nat → Int32) : ∀ f r u sh ag, 3 - r < f → r ≤ 3 → CR u v → AG ag u → ag + (3 - r) < 2 ^ 31 → ∃ (u' : St) (sh' : Nat), j_X6_rules_Y_17 T a6 f t u sh (nI (mk (rlB v T) r)) (nI r) = some (nI (mk (rlB v T) 3), t, u', sh') ∧ AG (ag + (3 - r)) u' ∧ sf u u'
  | 0, _, _, _, _, h, _, _, _, _ => absurd h (Nat.not_lt_zero _)
  | f + 1, r, u, sh, ag, h, hr, hc, hA, hag => by
    have hn := hw.2.1
    show ∃ (u' : St) (sh' : Nat), q_X6_rules_Y_17 T a6 (j_X6_rules_Y_17 T a6 f) t u sh (nI (mk (rlB v T) r)) (nI r) = _ ∧ _
    unfold q_X6_rules_Y_17
    simp only [nm]
    by_cases e : r = 3
    · subst e
      rw [if_pos (show (3 : Int32) ≤ nI 3 by decide)]
      exact ⟨u, sh, rfl, hA, sf_refl u⟩
    · rw [if_neg (show ¬ (3 : Int32) ≤ nI r from nI_ge (b := 3) (by omega) (by decide)), all_c hc.2.1 hn, Option.bind_some]
      obtain ⟨u1, e1, e2, e3⟩ := takesC (rule := r) hc hw hT (by omega) (all_lt hn) hA (by omega)
      obtain ⟨u2, sh2, d1, d2, d3⟩ := rules_c hw hT a6 t f (r + 1) u1 a6 (ag + 1) (by omega) (by omega) (CR_sf hc e3) e2 (by omega)
      refine ⟨u2, sh2, ?_, by rw [show ag + (3 - r) = ag + 1 + (3 - (r + 1)) by omega]; exact d2, sf_trans e3 d3⟩
      rw [← d1, e1, Option.bind_some, nI_1]
      cases hb : tkB v T r (2 ^ nOf v - 1) with
      | true =>
        rw [mk_t (show rlB v T r = true from hb), ← or_bit _ (by omega)]
        rfl
      | false =>
        rw [mk_f (show rlB v T r = false from hb)]
        rfl
theorem rules_r {v : HVT} {T : TbT} {i : Nat} (hw : WF v) (hi : i < 12) : ∀ f r U, 3 - r < f → r ≤ 3 → RR U i v → TU v T U i → ∃ U' : St, j_X7_rules_14 f U (nI i) (nI (mk (rlB v T) r)) (nI r) = some (nI (mk (rlB v T) 3), U') ∧ rfr U U'
  | 0, _, _, h, _, _, _ => absurd h (Nat.not_lt_zero _)
  | f + 1, r, U, h, hr, hR, hT => by
    have hn := hw.2.1
    show ∃ (U' : St), q_X7_rules_14 (j_X7_rules_14 f) U (nI i) (nI (mk (rlB v T) r)) (nI r) = _ ∧ _
    unfold q_X7_rules_14
    simp only [nm]
    by_cases e : r = 3
    · subst e
      rw [if_pos (show (3 : Int32) ≤ nI 3 by decide)]
      exact ⟨U, rfl, rfr_refl U⟩
    · rw [if_neg (show ¬ (3 : Int32) ≤ nI r from nI_ge (b := 3) (by omega) (by decide)), all_r hR.2.1 hi hn, Option.bind_some]
      obtain ⟨U1, e1, e2, -⟩ := takenR (rule := r) hR hw hT hi (by omega) (all_lt hn)
      obtain ⟨U2, d1, d2⟩ := rules_r hw hi f (r + 1) U1 (by omega) (by omega) (RR_rfr hR e2) (TU_rfr hT e2)
      refine ⟨U2, ?_, rfr_trans e2 d2⟩
      rw [← d1, e1, Option.bind_some, nI_1]
      cases hb : tkB v T r (2 ^ nOf v - 1) with
      | true =>
        rw [mk_t (show rlB v T r = true from hb), ← or_bit _ (by omega)]
        rfl
      | false =>
        rw [mk_f (show rlB v T r = false from hb)]
        show j_X7_rules_14 f U1 (nI i) (nI (mk (rlB v T) r) ||| nI 0) (nI (r + 1)) = _
        rw [fa_or, Nat.or_zero]
theorem fc_rules : Fc_rules Iv := by
  intro a1 k0 hk0 t gs hs kt tu tq nT nH U h
  have h' := fc_M k0 hk0 _ _ _ _ _ _ _ _ _ h
  obtain ⟨c1, c2, c3, c4, c5, c6⟩ := h.1
  refine ⟨fun i hi hh a6 sh => ?_, fun hn => ?_⟩
  · subst hh
    obtain ⟨v, v1, v2, v3, v4⟩ := h.2.2.2.2.1 i hi
    have hcr : CR (mrg gs (hs i)) v := v1
    have hT := TU_of h v4
    obtain ⟨ag, g1, g2⟩ := AG_of h i
    obtain ⟨u1, sh1, e1, e2, e3⟩ := rules_c v3 hT.tq a6 t 100 0 (mrg gs (hs i)) sh ag (by omega) (by omega) hcr g2 (by omega)
    obtain ⟨U1, d1, d2⟩ := rules_r (T := Tq tq (kt i)) v3 (show i < 12 by omega) 100 0 U (by omega) (by omega) v2 hT
    refine ⟨nI (mk (rlB v (Tq tq (kt i))) 3), t, u1, sh1, U1, ?_, ?_, Iv_srch h i e3 e2 (by omega) d2⟩
    · exact e1
    · show j_X7_rules U (nI i) = _
      unfold j_X7_rules
      rw [isHist_Y c4 hi c2, b1]
      exact d1
  · exact ⟨-1, t, U, rfl, by
      show j_X7_rules U a1 = _
      unfold j_X7_rules
      rw [isHist_N c4 hn c2]
      rfl, h'⟩
def kyB (v : HVT) (x : Int32) : Nat → Bool := fun c => decide (aOf v c = x)
theorem with_c {u : St} {v : HVT} {x : Int32} (hc : CR u v) (hw : WF v) : ∀ f c, nOf v - c < f → c ≤ nOf v → j_X1_callsWith_4 u f x (nI (mk (kyB v x) c)) (nI c) = some (nI (mk (kyB v x) (nOf v)))
  | 0, _, h, _ => absurd h (Nat.not_lt_zero _)
  | f + 1, c, h, hcn => by
    have hn := hw.2.1
    show q_X1_callsWith_4 u (j_X1_callsWith_4 u f) _ _ _ = _
    unfold q_X1_callsWith_4
    simp only [nm]
    rw [hc.2.1]
    by_cases e : c = nOf v
    · subst e
      rw [if_pos (nI_le (Nat.le_refl _) (by omega))]
    · rw [if_neg (nI_ge (by omega) (by omega)), gd_nI (by omega) (by decide), nI_clamp (by omega), (hc.at (by omega)).2.1, nI_1, or_bit _ (by omega)]
      have ih := with_c (x := x) hc hw f (c + 1) (by omega) (by omega)
      by_cases hb : aOf v c = x
      · rw [if_pos hb, ← mk_t (show kyB v x c = true from decide_eq_true hb)]
        exact ih
      · rw [if_neg hb, ← mk_f (show kyB v x c = false from decide_eq_false hb)]
        exact ih
theorem apart_42 {U : St} {v : HVT} {i : Nat} {x y : Int32} (hr : RR U i v) (hw : WF v) (hi : i < 12) : ∀ f c, nOf v - c < f → c ≤ nOf v → j_X7_apart_42 f U (nI i) y x (nI (mk (kyB v x) c)) (nI c) = (j_X7_isTaken U (nI i) y (nI (mk (kyB v x) (nOf v)))).bind (fun ⟨r, w⟩ => if r = 0 then some ((0 : Int32), w) else some (1, w))
  | 0, _, h, _ => absurd h (Nat.not_lt_zero _)
  | f + 1, c, h, hcn => by
    have hn := hw.2.1
    show q_X7_apart_42 (j_X7_apart_42 f) U _ _ _ _ _ = _
    unfold q_X7_apart_42
    simp only [nm]
    rw [gd_nI hi (by decide), nI_clamp (by omega), hr.2.1]
    by_cases e : c = nOf v
    · subst e
      rw [if_pos (nI_le (Nat.le_refl _) (by omega))]
    · rw [if_neg (nI_ge (by omega) (by omega)), ix10, gd_nI (by omega) (by decide), nI_clamp (by omega), (hr.at (by omega)).2.1, nI_1, or_bit _ (by omega)]
      have ih := apart_42 (x := x) (y := y) hr hw hi f (c + 1) (by omega) (by omega)
      by_cases hb : aOf v c = x
      · rw [if_pos hb, ← mk_t (show kyB v x c = true from decide_eq_true hb)]
        exact ih
      · rw [if_neg hb, show nI (mk (kyB v x) c) ||| (0 : Int32) = nI (mk (kyB v x) c) from by rw [show (0 : Int32) = nI 0 from rfl, fa_or, Nat.or_zero], ← mk_f (show kyB v x c = false from decide_eq_false hb)]
        exact ih
theorem fc_apart : Fc_apart Iv := by
  intro a1 a2 a3 k0 hk0 t gs hs kt tu tq nT nH U h
  have h' := fc_M k0 hk0 _ _ _ _ _ _ _ _ _ h
  obtain ⟨c1, c2, c3, c4, c5, c6⟩ := h.1
  refine ⟨fun i hi hh a6 sh => ?_, fun hn => ?_⟩
  · subst hh
    obtain ⟨v, v1, v2, v3, v4⟩ := h.2.2.2.2.1 i hi
    have hn10 := v3.2.1
    have hk7 := v3.1
    have hcr : CR (mrg gs (hs i)) v := v1
    have hT := TU_of h v4
    obtain ⟨ag, g1, g2⟩ := AG_of h i
    have bad : j_X6_apart_Y (Tq tq (kt i)) a6 t (mrg gs (hs i)) sh (nI i) a2 a3 = some (-1, t, mrg gs (hs i), sh) → j_X7_apart U (nI i) a2 a3 = some (-1, U) → ∃ (r : Int32) (t' : Nat → Int32) (u' : St) (sh' : Nat) (U' : St), j_X6_apart_Y (Tq tq (kt i)) a6 t (mrg gs (hs i)) sh (nI i) a2 a3 = some (r, t', u', sh') ∧ j_X7_apart U (nI i) a2 a3 = some (r, U') ∧ Iv (k0 + 6) t' u' (fun k => if k = i then u' else hs k) kt tu tq nT nH U' :=
      fun e1 e2 => ⟨-1, t, _, sh, U, e1, e2, Iv_mrg i h'⟩
    rcases isRule_or a2 with ⟨-, r1, r2⟩ | ⟨rule, hru, rfl, r1, r2⟩
    · refine bad ?_ (by unfold j_X7_apart; rw [isHist_Y c4 hi c2, b1, r2]; rfl)
      unfold j_X6_apart_Y
      rw [r1]
      simp only [b0]
      split
      · rfl
      · split <;> rfl
    · by_cases h5 : kdOf v = 5
      · have u5 : (mrg gs (hs i)).1 0 = 5 := by rw [hcr.1, h5]; rfl
        have U5 : U.2.1 5 i = 5 := by rw [v2.1, h5]; rfl
        rcases in_lit (x := a3) (m := 4) (hi := 3) (by decide) (by decide) with ⟨hf, z⟩ | ⟨j, hj, rfl, z⟩
        · refine bad ?_ ?_
          · unfold j_X6_apart_Y
            rw [r1]
            simp only [b1]
            rw [if_pos u5]
            by_cases c : a3 < 0
            · rw [if_pos c]
              rfl
            · rw [if_neg c]
              rcases hf with w | ⟨-, w⟩
              · exact absurd w c
              · rw [if_pos (show (4 : Int32) ≤ a3 from w)]
                rfl
          · unfold j_X7_apart
            rw [isHist_Y c4 hi c2, b1, r2, b1, gd_nI (by omega) (by decide), nI_clamp (by omega), if_pos U5, z]
            rfl
        · obtain ⟨u1, e1, e2, e3⟩ := takesC (rule := rule) (part := mk (kyB v (nI j)) (nOf v)) hcr v3 hT.tq hru (mk_lt10 _ hn10) g2 (by omega)
          obtain ⟨U1, d1, d2, -⟩ := takenR (rule := rule) (part := mk (kyB v (nI j)) (nOf v)) v2 v3 hT (by omega) hru (mk_lt10 _ hn10)
          refine ⟨if tkB v (Tq tq (kt i)) rule (mk (kyB v (nI j)) (nOf v)) then 1 else 0, t, u1, a6, U1, ?_, ?_, Iv_srch h i e3 e2 (by omega) d2⟩
          · show j_X6_apart_Y (Tq tq (kt i)) a6 t (mrg gs (hs i)) sh (nI i) (nI rule) (nI j) = _
            unfold j_X6_apart_Y
            rw [r1]
            simp only [b1]
            rw [if_neg (nI_pos (by omega)), if_neg (show ¬ (4 : Int32) ≤ nI j from nI_ge (b := 4) hj (by decide)), if_pos u5, if_neg one_ne, show j_X1_callsWith (mrg gs (hs i)) (nI j) = _ from with_c hcr v3 100 0 (by omega) (by omega), Option.bind_some, e1]
            cases tkB v (Tq tq (kt i)) rule (mk (kyB v (nI j)) (nOf v)) <;> rfl
          · show j_X7_apart U (nI i) (nI rule) (nI j) = _
            unfold j_X7_apart
            rw [isHist_Y c4 hi c2, b1, r2, b1, gd_nI (by omega) (by decide), nI_clamp (by omega), if_pos U5, z, b1, show j_X7_apart_42 100 U (nI i) (nI rule) (nI j) 0 0 = _ from apart_42 v2 v3 (by omega) 100 0 (by omega) (by omega), d1]
            cases tkB v (Tq tq (kt i)) rule (mk (kyB v (nI j)) (nOf v)) <;> rfl
      · have u5 : ¬ (mrg gs (hs i)).1 0 = 5 := by
          rw [hcr.1]
          exact nI_ne (b := 5) (by omega) (by decide) h5
        have U5 : ¬ U.2.1 5 i = 5 := by
          rw [v2.1]
          exact nI_ne (b := 5) (by omega) (by decide) h5
        refine bad ?_ ?_
        · unfold j_X6_apart_Y
          rw [r1]
          simp only [b1]
          rw [if_neg u5, if_neg u5]
          split
          · rfl
          · split <;> rfl
        · unfold j_X7_apart
          rw [isHist_Y c4 hi c2, b1, r2, b1, gd_nI (by omega) (by decide), nI_clamp (by omega), if_neg U5]
  · refine ⟨-1, t, U, ?_, ?_, h'⟩
    · show j_X6_apart_N t a1 a2 a3 = _
      unfold j_X6_apart_N
      split
      · rfl
      · split <;> rfl
    · show j_X7_apart U a1 a2 a3 = _
      unfold j_X7_apart
      rw [isHist_N c4 hn c2]
      rfl
