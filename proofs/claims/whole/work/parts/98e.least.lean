/-! ===== least ===== -/
def clr1 (L c : Nat) : Nat := L &&& (1023 ^^^ 2 ^ c)
theorem clr1_lt {L : Nat} (h : L < 1024) (c : Nat) : clr1 L c < 1024 := andn_lt h
theorem clr1_tb {L c i : Nat} (h : L < 1024) : (clr1 L c).testBit i = (L.testBit i && !decide (c = i)) := by
  unfold clr1
  rw [Nat.testBit_and]
  by_cases hi : i < 10
  · rw [tb_not hi, Nat.testBit_two_pow]
  · rw [tb_hi h hi]
    rfl
theorem clr1_or {L c : Nat} (h : L < 1024) (hb : L.testBit c = true) : clr1 L c ||| 2 ^ c = L := by
  apply Nat.eq_of_testBit_eq
  intro i
  rw [Nat.testBit_or, clr1_tb h, Nat.testBit_two_pow]
  by_cases e : c = i
  · rw [← e, hb, decide_eq_true rfl]
    rfl
  · rw [decide_eq_false e]
    simp
theorem clr1_no {L c : Nat} (h : L < 1024) (hb : L.testBit c = false) : clr1 L c = L := by
  apply Nat.eq_of_testBit_eq
  intro i
  rw [clr1_tb h]
  by_cases e : c = i
  · rw [← e, hb]
    rfl
  · rw [decide_eq_false e]
    simp
theorem clr1_fr {L c : Nat} (h : L < 1024) (hc : c < 10) (hb : L.testBit c = true) : fr 10 L + 1 = fr 10 (clr1 L c) := by
  have h1 : (clr1 L c).testBit c = false := by
    rw [clr1_tb h, decide_eq_true rfl]
    simp
  have := fr_in h1 10 hc
  rw [clr1_or h hb] at this
  exact this
section LEAST
variable (tk : Nat → Bool)
/-- one pass over the calls c .. c + k - 1 -/
def ps : Nat → Nat → Nat → Nat
  | 0, _, L => L
  | k + 1, c, L => if L.testBit c && !tk (clr1 L c) then ps k (c + 1) (clr1 L c) else ps k (c + 1) L
theorem ps_s (k c L : Nat) : ps tk (k + 1) c L = if L.testBit c && !tk (clr1 L c) then ps tk k (c + 1) (clr1 L c) else ps tk k (c + 1) L := rfl
theorem ps_lt : ∀ k c L, L < 1024 → ps tk k c L < 1024
  | 0, _, _, h => h
  | k + 1, c, L, h => by
    rw [ps_s]
    split
    · exact ps_lt k (c + 1) _ (clr1_lt h c)
    · exact ps_lt k (c + 1) L h
theorem ps_dec : ∀ k c L, c + k ≤ 10 → L < 1024 → ps tk k c L = L ∨ fr 10 L < fr 10 (ps tk k c L)
  | 0, _, _, _, _ => Or.inl rfl
  | k + 1, c, L, hk, h => by
    rw [ps_s]
    by_cases e : (L.testBit c && !tk (clr1 L c)) = true
    · rw [if_pos e]
      rw [Bool.and_eq_true] at e
      have h1 := clr1_fr h (show c < 10 by omega) e.1
      rcases ps_dec k (c + 1) (clr1 L c) (by omega) (clr1_lt h c) with z | z
      · rw [z]
        right
        omega
      · right
        omega
    · rw [if_neg e]
      exact ps_dec k (c + 1) L (by omega) h
/-- passes till none changes it -/
def fx (n : Nat) : Nat → Nat → Nat
  | 0, L => L
  | f + 1, L => if ps tk n 0 L = L then L else fx n f (ps tk n 0 L)
theorem fx_s (n f L : Nat) : fx tk n (f + 1) L = if ps tk n 0 L = L then L else fx tk n f (ps tk n 0 L) := rfl
theorem fx_lt (n : Nat) : ∀ f L, L < 1024 → fx tk n f L < 1024
  | 0, _, h => h
  | f + 1, L, h => by
    rw [fx_s]
    split
    · exact h
    · exact fx_lt n f _ (ps_lt tk _ _ _ h)
end LEAST
section LEASTC
variable {v : HVT} {T : TbT} {rule : Nat}
theorem least_33 (hw : WF v) (hT : TQ v T) (hru : rule < 3) (k20 : St → Int32 → Int32 → Int32 → Option (Int32 × St)) (B r : Nat) (hB : B < 1024) : ∀ f k c L u ag, k < f → c + k = nOf v → L < 1024 → CR u v → AG ag u → ag + k < 2 ^ 31 → ∃ (u' : St) (ag' : Nat), j_X4_leastPart_33 T k20 f u (nI rule) (nI L) (nI r) (nI B) (nI c) = (if ps (tkB v T rule) k c L = B then some (nI (ps (tkB v T rule) k c L), u') else k20 u' (nI rule) (nI (ps (tkB v T rule) k c L)) (nI (r + 1))) ∧ AG ag' u' ∧ ag' ≤ ag + k ∧ sf u u'
  | 0, _, _, _, _, _, h, _, _, _, _, _ => absurd h (Nat.not_lt_zero _)
  | f + 1, k, c, L, u, ag, h, hk, hL, hc, hA, hag => by
    have hn := hw.2.1
    show ∃ (u' : St) (ag' : Nat), q_X4_leastPart_33 T k20 (j_X4_leastPart_33 T k20 f) u (nI rule) (nI L) (nI r) (nI B) (nI c) = _ ∧ _
    unfold q_X4_leastPart_33
    simp only [nm]
    rw [hc.2.1]
    cases k with
    | zero =>
      rw [if_pos (nI_le (by omega) (by omega)), nI_1]
      refine ⟨u, ag, ?_, hA, by omega, sf_refl u⟩
      show (if nI L = nI B then some (nI L, u) else k20 u (nI rule) (nI L) (nI (r + 1))) = (if L = B then _ else _)
      by_cases e : L = B
      · rw [if_pos e, if_pos (by rw [e])]
        rfl
      · rw [if_neg e, if_neg (nI_ne (by omega) (by omega) e)]
        rfl
    | succ k =>
      have hcl := clr1_lt hL c
      rw [if_neg (nI_ge (by omega) (by omega)), one_shl (by omega), show nI L &&& (nI (2 ^ c) ^^^ -1) = nI (clr1 L c) from and_not hL, nI_1, ps_s]
      cases hb : L.testBit c with
      | false =>
        rw [clr1_no hL hb, if_pos rfl, if_neg (show ¬ (false && !tkB v T rule L) = true from Bool.false_ne_true)]
        obtain ⟨u', ag', g1, g2, g3, g4⟩ := least_33 hw hT hru k20 B r hB f k (c + 1) L u ag (by omega) (by omega) hL hc hA (by omega)
        exact ⟨u', ag', g1, g2, by omega, g4⟩
      | true =>
        have hne : clr1 L c ≠ L := fun z => by
          have := clr1_fr hL (show c < 10 by omega) hb
          rw [z] at this
          omega
        rw [if_neg (nI_ne (by omega) (by omega) hne)]
        obtain ⟨u1, e1, e2, e3⟩ := takesC (rule := rule) (part := clr1 L c) hc hw hT hru hcl hA (by omega)
        rw [e1, Option.bind_some]
        cases ht : tkB v T rule (clr1 L c) with
        | true =>
          rw [if_neg (show ¬ (true && !true) = true by decide)]
          obtain ⟨u', ag', g1, g2, g3, g4⟩ := least_33 hw hT hru k20 B r hB f k (c + 1) L u1 (ag + 1) (by omega) (by omega) hL (CR_sf hc e3) e2 (by omega)
          exact ⟨u', ag', g1, g2, by omega, sf_trans e3 g4⟩
        | false =>
          rw [if_pos (show (true && !false) = true from rfl)]
          obtain ⟨u', ag', g1, g2, g3, g4⟩ := least_33 hw hT hru k20 B r hB f k (c + 1) (clr1 L c) u1 (ag + 1) (by omega) (by omega) hcl (CR_sf hc e3) e2 (by omega)
          exact ⟨u', ag', g1, g2, by omega, sf_trans e3 g4⟩
theorem least_20 (hw : WF v) (hT : TQ v T) (hru : rule < 3) : ∀ f r L u ag, 10 - r < f → r ≤ 10 → L < 1024 → CR u v → AG ag u → ag + 10 * (10 - r) < 2 ^ 31 → ∃ (u' : St) (ag' : Nat), j_X4_leastPart_20 T f u (nI rule) (nI L) (nI r) = some (nI (fx (tkB v T rule) (nOf v) (10 - r) L), u') ∧ AG ag' u' ∧ ag' ≤ ag + 10 * (10 - r) ∧ sf u u'
  | 0, _, _, _, _, h, _, _, _, _, _ => absurd h (Nat.not_lt_zero _)
  | f + 1, r, L, u, ag, h, hr, hL, hc, hA, hag => by
    have hn := hw.2.1
    show ∃ (u' : St) (ag' : Nat), q_X4_leastPart_20 T (j_X4_leastPart_20 T f) u (nI rule) (nI L) (nI r) = _ ∧ _
    unfold q_X4_leastPart_20
    by_cases e : r = 10
    · subst e
      rw [if_pos (show (10 : Int32) ≤ nI 10 by decide)]
      exact ⟨u, ag, rfl, hA, by omega, sf_refl u⟩
    · rw [if_neg (show ¬ (10 : Int32) ≤ nI r from nI_ge (b := 10) (by omega) (by decide))]
      obtain ⟨u1, ag1, g1, g2, g3, g4⟩ := least_33 hw hT hru (j_X4_leastPart_20 T f) L r hL 100 (nOf v) 0 L u ag (by omega) (by omega) hL hc hA (by omega)
      rw [show (0 : Int32) = nI 0 from rfl, g1, show 10 - r = 10 - (r + 1) + 1 by omega, fx_s]
      by_cases e2 : ps (tkB v T rule) (nOf v) 0 L = L
      · rw [if_pos e2, if_pos e2, e2]
        exact ⟨u1, ag1, rfl, g2, by omega, g4⟩
      · rw [if_neg e2, if_neg e2]
        obtain ⟨u2, ag2, d1, d2, d3, d4⟩ := least_20 hw hT hru f (r + 1) (ps (tkB v T rule) (nOf v) 0 L) u1 ag1 (by omega) (by omega) (ps_lt _ _ _ _ hL) (CR_sf hc g4) g2 (by omega)
        exact ⟨u2, ag2, d1, d2, by omega, sf_trans g4 d4⟩
theorem least_55 {i : Nat} (hw : WF v) (hi : i < 12) (hru : rule < 3) (k43 : St → Int32 → Int32 → Int32 → Int32 → Option (Int32 × St)) (B : Int32) : ∀ f k c L U, k < f → c + k = nOf v → L < 1024 → RR U i v → TU v T U i → ∃ U' : St, j_X7_least_55 k43 f U (nI i) (nI rule) (nI L) B (nI c) = k43 U' (nI i) (nI rule) (nI (ps (tkB v T rule) k c L)) B ∧ rfr U U'
  | 0, _, _, _, _, h, _, _, _, _ => absurd h (Nat.not_lt_zero _)
  | f + 1, k, c, L, U, h, hk, hL, hR, hT => by
    have hn := hw.2.1
    show ∃ U' : St, q_X7_least_55 k43 (j_X7_least_55 k43 f) U (nI i) (nI rule) (nI L) B (nI c) = _ ∧ _
    unfold q_X7_least_55
    simp only [nm]
    rw [gd_nI hi (by decide), nI_clamp (show i < 2 ^ 31 by omega), hR.2.1]
    cases k with
    | zero =>
      rw [if_pos (nI_le (by omega) (by omega))]
      exact ⟨U, rfl, rfr_refl U⟩
    | succ k =>
      have hcl := clr1_lt hL c
      rw [if_neg (nI_ge (by omega) (by omega)), bit_at (show L < 2 ^ 31 by omega) (by omega), one_shl (by omega), show nI L &&& (nI (2 ^ c) ^^^ -1) = nI (clr1 L c) from and_not hL, nI_1, ps_s]
      cases hb : L.testBit c with
      | false =>
        rw [if_neg (show ¬ (if false = true then (1 : Int32) else 0) = 1 by decide), if_neg (show ¬ (false && !tkB v T rule (clr1 L c)) = true from Bool.false_ne_true)]
        exact least_55 hw hi hru k43 B f k (c + 1) L U (by omega) (by omega) hL hR hT
      | true =>
        rw [if_pos (show (if true = true then (1 : Int32) else 0) = 1 from rfl)]
        obtain ⟨U1, e1, e2, -⟩ := takenR (rule := rule) (part := clr1 L c) hR hw hT hi hru hcl
        rw [e1, Option.bind_some]
        cases ht : tkB v T rule (clr1 L c) with
        | true =>
          rw [if_neg (show ¬ (true && !true) = true by decide)]
          obtain ⟨U', g1, g2⟩ := least_55 hw hi hru k43 B f k (c + 1) L U1 (by omega) (by omega) hL (RR_rfr hR e2) (TU_rfr hT e2)
          exact ⟨U', g1, rfr_trans e2 g2⟩
        | false =>
          rw [if_pos (show (true && !false) = true from rfl)]
          obtain ⟨U', g1, g2⟩ := least_55 hw hi hru k43 B f k (c + 1) (clr1 L c) U1 (by omega) (by omega) hcl (RR_rfr hR e2) (TU_rfr hT e2)
          exact ⟨U', g1, rfr_trans e2 g2⟩
theorem least_122 (U : St) {P : Nat} (hP : P < 1024) : ∀ f c, 10 - c < f → c ≤ 10 → j_X7_least_122 f U (nI P) (nI (c - fr c P)) (nI c) = some (nI (pcN P), U)
  | 0, _, h, _ => absurd h (Nat.not_lt_zero _)
  | f + 1, c, h, hc => by
    show q_X7_least_122 (j_X7_least_122 f) U (nI P) (nI (c - fr c P)) (nI c) = _
    unfold q_X7_least_122
    simp only [nm]
    by_cases e : c = 10
    · subst e
      rw [if_pos (show (10 : Int32) ≤ nI 10 by decide)]
      rfl
    · rw [if_neg (show ¬ (10 : Int32) ≤ nI c from nI_ge (b := 10) (by omega) (by decide)), bit_at (show P < 2 ^ 31 by omega) (by omega), nI_1]
      have ih := least_122 U hP f (c + 1) (by omega) (by omega)
      have hl := fr_le c P
      have hs : fr (c + 1) P = fr c P + (if P.testBit c then 0 else 1) := rfl
      rw [← ih, hs]
      cases hb : P.testBit c with
      | true =>
        rw [if_pos rfl, if_pos rfl, nI_1, show c - fr c P + 1 = c + 1 - (fr c P + 0) by omega]
      | false =>
        rw [if_neg Bool.false_ne_true, if_neg Bool.false_ne_true, show nI (c - fr c P) + (0 : Int32) = nI (c - fr c P) from Int32.add_zero _, show c - fr c P = c + 1 - (fr c P + 1) by omega]
theorem least_43 {i : Nat} (hw : WF v) (hi : i < 12) (hru : rule < 3) : ∀ m P B f U, P ≠ B → P < 1024 → B < 1024 → 10 - fr 10 P ≤ m → m + 2 ≤ f → RR U i v → TU v T U i → ∃ U' : St, j_X7_least_43 f U (nI i) (nI rule) (nI P) (nI B) = some (nI (pcN (fx (tkB v T rule) (nOf v) m P)), sI U' 27 (nI (fx (tkB v T rule) (nOf v) m P))) ∧ rfr U U' := by
  have fin : ∀ f X U, X < 1024 → j_X7_least_43 (f + 1) U (nI i) (nI rule) (nI X) (nI X) = some (nI (pcN X), sI U 27 (nI X)) := by
    intro f X U hX
    show q_X7_least_43 (j_X7_least_43 f) U (nI i) (nI rule) (nI X) (nI X) = _
    unfold q_X7_least_43
    simp only [nm]
    rw [if_pos trivial]
    exact least_122 (sI U 27 (nI X)) hX 100 0 (by omega) (by omega)
  intro m
  induction m with
  | zero =>
    intro P B f U hne hP hB hm hf hR hT
    obtain ⟨f, rfl⟩ : ∃ g, f = g + 2 := ⟨f - 2, by omega⟩
    have hn := hw.2.1
    show ∃ U' : St, q_X7_least_43 (j_X7_least_43 (f + 1)) U (nI i) (nI rule) (nI P) (nI B) = _ ∧ _
    unfold q_X7_least_43
    rw [if_neg (nI_ne (by omega) (by omega) hne)]
    obtain ⟨U1, g1, g2⟩ := least_55 (T := T) hw hi hru (j_X7_least_43 (f + 1)) (nI P) 100 (nOf v) 0 P U (by omega) (by omega) hP hR hT
    have hps : ps (tkB v T rule) (nOf v) 0 P = P := by
      rcases ps_dec (tkB v T rule) (nOf v) 0 P (by omega) hP with z | z
      · exact z
      · have := fr_le 10 (ps (tkB v T rule) (nOf v) 0 P)
        omega
    rw [show (0 : Int32) = nI 0 from rfl, g1, hps, fin f P U1 hP]
    exact ⟨U1, rfl, g2⟩
  | succ m ih =>
    intro P B f U hne hP hB hm hf hR hT
    obtain ⟨f, rfl⟩ : ∃ g, f = g + 2 := ⟨f - 2, by omega⟩
    have hn := hw.2.1
    show ∃ U' : St, q_X7_least_43 (j_X7_least_43 (f + 1)) U (nI i) (nI rule) (nI P) (nI B) = _ ∧ _
    unfold q_X7_least_43
    rw [if_neg (nI_ne (by omega) (by omega) hne)]
    obtain ⟨U1, g1, g2⟩ := least_55 (T := T) hw hi hru (j_X7_least_43 (f + 1)) (nI P) 100 (nOf v) 0 P U (by omega) (by omega) hP hR hT
    rw [show (0 : Int32) = nI 0 from rfl, g1, fx_s]
    by_cases hps : ps (tkB v T rule) (nOf v) 0 P = P
    · rw [hps, if_pos rfl, fin f P U1 hP]
      exact ⟨U1, rfl, g2⟩
    · rw [if_neg hps]
      have hdec : fr 10 P < fr 10 (ps (tkB v T rule) (nOf v) 0 P) := by
        rcases ps_dec (tkB v T rule) (nOf v) 0 P (by omega) hP with z | z
        · exact absurd z hps
        · exact z
      obtain ⟨U2, d1, d2⟩ := ih (ps (tkB v T rule) (nOf v) 0 P) P (f + 1) U1 hps (ps_lt _ _ _ _ hP) hP (by omega) (by omega) (RR_rfr hR g2) (TU_rfr hT g2)
      exact ⟨U2, d1, rfr_trans g2 d2⟩
end LEASTC
theorem tk_0 (v : HVT) (T : TbT) (rule : Nat) : tkB v T rule 0 = true := by
  unfold tkB
  apply decide_eq_true
  rw [Wv_pos]
  left
  unfold due sbB
  rw [Nat.zero_and, Nat.zero_and]
  rfl
theorem fc_least : Fc_least Iv := by
  intro a1 a2 k0 hk0 t gs hs kt tu tq nT nH U h
  have h' := fc_M k0 hk0 _ _ _ _ _ _ _ _ _ h
  obtain ⟨c1, c2, c3, c4, c5, c6⟩ := h.1
  refine ⟨fun i hi hh a6 sh => ?_, fun hn => ?_⟩
  · subst hh
    obtain ⟨v, v1, v2, v3, v4⟩ := h.2.2.2.2.1 i hi
    have hn10 := v3.2.1
    have hcr : CR (mrg gs (hs i)) v := v1
    have hT := TU_of h v4
    obtain ⟨ag, g1, g2⟩ := AG_of h i
    have hp := all_lt hn10
    rcases isRule_or a2 with ⟨-, r1, r2⟩ | ⟨rule, hru, rfl, r1, r2⟩
    · refine ⟨-1, t, _, sh, U, ?_, ?_, Iv_mrg i h'⟩
      · show j_X6_least_Y (Tq tq (kt i)) a6 t (mrg gs (hs i)) sh (nI i) a2 = _
        unfold j_X6_least_Y
        rw [r1]
        rfl
      · show j_X7_least U (nI i) a2 = _
        unfold j_X7_least
        rw [isHist_Y c4 hi c2, b1, r2]
        rfl
    · have hI : ∀ X, X < 1024 → Iv k0 (upd t 42 (nI X)) gs hs kt tu tq nT nH (sI U 27 (nI X)) := by
        intro X hX
        obtain ⟨⟨i1, i2, i3, i4, i5, i6⟩, iS, iF, iT, iH, iM⟩ := h
        exact ⟨⟨i1, i2, i3, i4, i5, X, hX, rfl, rfl⟩, iS, iF, iT, iH, iM⟩
      obtain ⟨u1, e1, e2, e3⟩ := takesC hcr v3 hT.tq hru hp g2 (by omega)
      have hr0 : RR (sI U 27 0) i v := v2
      have hT0 : TU v (Tq tq (kt i)) (sI U 27 0) i := hT
      obtain ⟨U1, d1, d2, -⟩ := takenR (rule := rule) hr0 v3 hT0 (show i < 12 by omega) hru hp
      have hC : j_X6_least_Y (Tq tq (kt i)) a6 t (mrg gs (hs i)) sh (nI i) (nI rule) = (j_X4_leastPart (Tq tq (kt i)) (mrg gs (hs i)) (nI rule)).bind (fun ⟨r3, u4⟩ => (j_J6_bitCount_0f7a4 (upd t 42 r3 42)).bind (fun r6 => some (r6, upd t 42 r3, u4, a6))) := by
        unfold j_X6_least_Y
        rw [r1, b1]
        rfl
      have hR : j_X7_least U (nI i) (nI rule) = if tkB v (Tq tq (kt i)) rule (2 ^ nOf v - 1) then some (0, U1) else j_X7_least_43 100 U1 (nI i) (nI rule) (nI (2 ^ nOf v - 1)) 0 := by
        unfold j_X7_least
        rw [isHist_Y c4 hi c2, b1, r2, b1, all_r v2.2.1 (by omega) hn10, Option.bind_some]
        simp only [nm]
        rw [d1, Option.bind_some]
        cases tkB v (Tq tq (kt i)) rule (2 ^ nOf v - 1) <;> rfl
      have hCl : j_X4_leastPart (Tq tq (kt i)) (mrg gs (hs i)) (nI rule) = if tkB v (Tq tq (kt i)) rule (2 ^ nOf v - 1) then some (0, u1) else j_X4_leastPart_20 (Tq tq (kt i)) 100 u1 (nI rule) (nI (2 ^ nOf v - 1)) 0 := by
        unfold j_X4_leastPart
        rw [all_c hcr.2.1 hn10, Option.bind_some, e1, Option.bind_some]
        cases tkB v (Tq tq (kt i)) rule (2 ^ nOf v - 1) <;> rfl
      cases hb : tkB v (Tq tq (kt i)) rule (2 ^ nOf v - 1) with
      | true =>
        rw [hb, if_pos rfl] at hR hCl
        refine ⟨0, upd t 42 0, u1, a6, U1, ?_, hR, Iv_srch (hI 0 (by decide)) i e3 e2 (by omega) d2⟩
        show j_X6_least_Y (Tq tq (kt i)) a6 t (mrg gs (hs i)) sh (nI i) (nI rule) = _
        rw [hC, hCl, Option.bind_some]
        show (j_J6_bitCount_0f7a4 (nI 0)).bind (fun r6 => some (r6, upd t 42 0, u1, a6)) = _
        rw [bitCount_c 0 (by decide)]
        rfl
      | false =>
        rw [hb, if_neg Bool.false_ne_true] at hR hCl
        obtain ⟨u2, ag2, x1, x2, x3, x4⟩ := least_20 v3 hT.tq hru 100 0 (2 ^ nOf v - 1) u1 (ag + 1) (by omega) (by omega) hp (CR_sf hcr e3) e2 (by omega)
        have hne : 2 ^ nOf v - 1 ≠ 0 := fun z => by
          rw [z, tk_0] at hb
          cases hb
        obtain ⟨U2, y1, y2⟩ := least_43 (T := Tq tq (kt i)) v3 (show i < 12 by omega) hru 10 (2 ^ nOf v - 1) 0 100 U1 hne hp (by decide) (by omega) (by omega) (RR_rfr hr0 d2) (TU_rfr hT0 d2)
        have hX := fx_lt (tkB v (Tq tq (kt i)) rule) (nOf v) 10 (2 ^ nOf v - 1) hp
        have hfr : rfr (sI U 27 (nI (fx (tkB v (Tq tq (kt i)) rule) (nOf v) 10 (2 ^ nOf v - 1)))) (sI U2 27 (nI (fx (tkB v (Tq tq (kt i)) rule) (nOf v) 10 (2 ^ nOf v - 1)))) := by
          have z := rfr_trans d2 y2
          refine ⟨fun k h1 h2 => ?_, z.2⟩
          rw [sI_1, sI_1]
          by_cases e : k = 27
          · rw [if_pos e, if_pos e]
          · rw [if_neg e, if_neg e]
            have := z.1 k h1 h2
            rw [sI_1, if_neg e] at this
            exact this
        refine ⟨nI (pcN (fx (tkB v (Tq tq (kt i)) rule) (nOf v) 10 (2 ^ nOf v - 1))), upd t 42 (nI (fx (tkB v (Tq tq (kt i)) rule) (nOf v) 10 (2 ^ nOf v - 1))), u2, a6, _, ?_, hR.trans y1, Iv_srch (hI _ hX) i (sf_trans e3 x4) x2 (by omega) hfr⟩
        show j_X6_least_Y (Tq tq (kt i)) a6 t (mrg gs (hs i)) sh (nI i) (nI rule) = _
        rw [hC, hCl, show j_X4_leastPart_20 (Tq tq (kt i)) 100 u1 (nI rule) (nI (2 ^ nOf v - 1)) 0 = _ from x1, Option.bind_some]
        show (j_J6_bitCount_0f7a4 (nI (fx (tkB v (Tq tq (kt i)) rule) (nOf v) 10 (2 ^ nOf v - 1)))).bind (fun r6 => some (r6, upd t 42 (nI (fx (tkB v (Tq tq (kt i)) rule) (nOf v) 10 (2 ^ nOf v - 1))), u2, a6)) = _
        rw [bitCount_c _ hX]
        rfl
  · exact ⟨-1, t, U, rfl, by
      show j_X7_least U a1 a2 = _
      unfold j_X7_least
      rw [isHist_N c4 hn c2]
      rfl, h'⟩
