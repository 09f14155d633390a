/-! ===== first ===== -/
section FIRST
variable {v : HVT} {T : TbT} {rule part ag : Nat}
def P1 (v : HVT) (T : TbT) (rule part : Nat) : Nat → Sg → Int64 → Prop := fun p s x => x = lN (val true (Wv v T rule part p s))
def optI : Option Nat → Int32
  | none => -1
  | some q => nI q
theorem leads_3 (hw : WF v) (hT : TQ v T) (hpt : part < 1024) {d p : Nat} {s : Sg} (hd : d + fr (nOf v) p = nOf v) (hp : p < 1024) (hG : Gd v p s) : ∀ f k c u, k < f → c + k = nOf v → SO v rule part true u → MI v (P1 v T rule part) u → AG ag u → ∃ u' : St, j_X4_firstThatLeadsOn_3 T f u (nI d) (nI p) (enc v s) (nI c) = some (optI (ff v T rule part p s k c), u') ∧ fm u u' ∧ MI v (P1 v T rule part) u' ∧ AG ag u'
  | 0, _, _, _, h, _, _, _, _ => absurd h (Nat.not_lt_zero _)
  | f + 1, k, c, u, h, hk, hS, hM, hA => by
    have hn := hw.2.1
    show ∃ u' : St, q_X4_firstThatLeadsOn_3 T (j_X4_firstThatLeadsOn_3 T f) u (nI d) (nI p) (enc v s) (nI c) = _ ∧ _
    unfold q_X4_firstThatLeadsOn_3
    rw [hS.1.2.1]
    cases k with
    | zero =>
      rw [if_pos (nI_le (by omega) (by omega))]
      exact ⟨u, rfl, fm_refl u, hM, hA⟩
    | succ k =>
      have hcn : c < nOf v := by omega
      rw [if_neg (nI_ge hcn (by omega)), fits_c hS hw hT hpt hp hG hcn, bB, ff_s]
      cases hf : fit v T rule part c p s with
      | false =>
        rw [if_neg Bool.false_ne_true, if_neg (fun z => z (if_neg (by rw [hf]; exact Bool.false_ne_true)))]
        show ∃ u' : St, j_X4_firstThatLeadsOn_3 T f u (nI d) (nI p) (enc v s) (nI c + 1) = _ ∧ _
        rw [nI_1]
        exact leads_3 hw hT hpt hd hp hG f k (c + 1) u (by omega) (by omega) hS hM hA
      | true =>
        have hpc := fit_p hf
        have hfr := fr_in hpc (nOf v) hcn
        have hg0 : gW v T rule part p s c = Wv v T rule part (p ||| 2 ^ c) (nxt v T c s) := if_pos hf
        rw [if_pos rfl, after_c hS.1 hw hcn hT hpc hG, Option.bind_some, nI_1, or_bit _ (by omega), hg0]
        have hrec := ways_c (v := v) (T := T) (rule := rule) (part := part) (ag := ag) (one := true) (P := P1 v T rule part) (Rg := fun _ => True) hw hT hpt (fun _ _ _ _ => Iff.rfl) (fun _ _ _ => trivial) 12 (d + 1) (by omega) (by omega)
        obtain ⟨u1, g1, g2, g3, g4⟩ := hrec (p ||| 2 ^ c) (nxt v T c s) u (by omega) (or_lt (k := 10) hp (by omega)) trivial (Gd_nxt hw hcn hT hpc hG) hS hM hA
        rw [g1, Option.bind_some]
        have hlt := val_lt (one := true) (Wv_lt hw T rule part (p ||| 2 ^ c) (nxt v T c s))
        by_cases e : Wv v T rule part (p ||| 2 ^ c) (nxt v T c s) = 0
        · rw [if_neg (fun z => z e)]
          show ∃ u' : St, (if lg_cmp (lN (val true (Wv v T rule part (p ||| 2 ^ c) (nxt v T c s)))) 0 ≤ 0 then j_X4_firstThatLeadsOn_3 T f u1 (nI d) (nI p) (enc v s) (nI c + 1) else some (nI c, u1)) = _ ∧ _
          rw [if_pos ((lN_le0 hlt).mpr (val_0.mpr e)), nI_1]
          obtain ⟨u2, e1, e2, e3, e4⟩ := leads_3 hw hT hpt hd hp hG f k (c + 1) u1 (by omega) (by omega) (SO_fm hS g2) g3 g4
          exact ⟨u2, e1, fm_trans g2 e2, e3, e4⟩
        · rw [if_pos e]
          show ∃ u' : St, (if lg_cmp (lN (val true (Wv v T rule part (p ||| 2 ^ c) (nxt v T c s)))) 0 ≤ 0 then j_X4_firstThatLeadsOn_3 T f u1 (nI d) (nI p) (enc v s) (nI c + 1) else some (nI c, u1)) = _ ∧ _
          rw [if_neg (fun z => e (val_0.mp ((lN_le0 hlt).mp z)))]
          exact ⟨u1, rfl, g2, g3, g4⟩
/-- what stands at place j of the first order from here on -/
def fpA (v : HVT) (T : TbT) (rule part p : Nat) (s : Sg) (j : Nat) : Int32 := if Wv v T rule part p s ≠ 0 ∧ j < (FP v T rule part p s).length then nI ((FP v T rule part p s).getD j 0) else -1
theorem firstAt_20 (hw : WF v) (hT : TQ v T) (hpt : part < 1024) {i : Nat} (hi : i < 10) : ∀ f d p s u, nOf v - d < f → d ≤ i → d + fr (nOf v) p = nOf v → p < 1024 → Gd v p s → SO v rule part true u → MI v (P1 v T rule part) u → AG ag u → ∃ u' : St, j_X4_firstAt_20 T f u (nI i) (nI p) (enc v s) (nI d) = some (fpA v T rule part p s (i - d), u') ∧ fm u u' ∧ AG ag u'
  | 0, _, _, _, _, h, _, _, _, _, _, _, _ => absurd h (Nat.not_lt_zero _)
  | f + 1, d, p, s, u, h, hdi, hd, hp, hG, hS, hM, hA => by
    have hn := hw.2.1
    show ∃ u' : St, q_X4_firstAt_20 T (j_X4_firstAt_20 T f) u (nI i) (nI p) (enc v s) (nI d) = _ ∧ _
    unfold q_X4_firstAt_20
    rw [if_neg (show ¬ (10 : Int32) ≤ nI d from nI_ge (b := 10) (by omega) (by decide)), whole_c hS hpt, bB]
    cases hb : sbB (due v part) p with
    | true =>
      rw [if_pos rfl]
      refine ⟨u, ?_, fm_refl u, hA⟩
      unfold fpA
      rw [FP_w hb, if_neg (fun z => absurd z.2 (Nat.not_lt_zero _))]
    | false =>
      rw [if_neg Bool.false_ne_true]
      obtain ⟨u1, g1, g2, g3, g4⟩ := leads_3 hw hT hpt hd hp hG 100 (nOf v) 0 u (by omega) (by omega) hS hM hA
      unfold j_X4_firstThatLeadsOn
      rw [show (0 : Int32) = nI 0 from rfl, g1, Option.bind_some]
      have hW := Wv_ff (T := T) (rule := rule) (s := s) hb
      cases hf : ff v T rule part p s (nOf v) 0 with
      | none =>
        rw [hf] at hW
        refine ⟨u1, ?_, g2, g4⟩
        unfold fpA
        rw [if_neg (fun z => by have := hW.mp z.1; cases this)]
        rfl
      | some c =>
        rw [hf] at hW
        obtain ⟨-, h2, h3⟩ := ff_some _ _ _ hf
        have hcn : c < nOf v := by omega
        have hfit : fit v T rule part c p s = true := by
          cases h : fit v T rule part c p s with
          | true => rfl
          | false => exact absurd (if_neg (by rw [h]; exact Bool.false_ne_true)) h3
        have hpc := fit_p hfit
        have hfr := fr_in hpc (nOf v) hcn
        have hW1 : Wv v T rule part (p ||| 2 ^ c) (nxt v T c s) ≠ 0 := by
          rw [show gW v T rule part p s c = Wv v T rule part (p ||| 2 ^ c) (nxt v T c s) from if_pos hfit] at h3
          exact h3
        have hW0 : Wv v T rule part p s ≠ 0 := hW.mpr rfl
        have hFP := FP_c hb hf
        show ∃ u' : St, (if nI c = -1 then some (nI c, u1) else if nI d = nI i then some (nI c, u1) else (j_X3_after T u1 (nI c) (enc v s)).bind (fun r11 => j_X4_firstAt_20 T f u1 (nI i) (nI p ||| ((1 : Int32) <<< (nI c &&& 31))) r11 (nI d + 1))) = _ ∧ _
        rw [if_neg (fun z => nI_pos (show c < 2 ^ 31 by omega) (by rw [z]; decide))]
        by_cases e : d = i
        · rw [if_pos (by rw [e])]
          refine ⟨u1, ?_, g2, g4⟩
          unfold fpA
          rw [hFP, e, Nat.sub_self, if_pos ⟨hW0, Nat.succ_pos _⟩]
          rfl
        · rw [if_neg (nI_ne (by omega) (by omega) e), after_c (SO_fm hS g2).1 hw hcn hT hpc hG, Option.bind_some, or_bit _ (by omega), nI_1]
          obtain ⟨u2, e1, e2, e3⟩ := firstAt_20 hw hT hpt hi f (d + 1) (p ||| 2 ^ c) (nxt v T c s) u1 (by omega) (by omega) (by omega) (or_lt (k := 10) hp (by omega)) (Gd_nxt hw hcn hT hpc hG) (SO_fm hS g2) g3 g4
          refine ⟨u2, ?_, fm_trans g2 e2, e3⟩
          rw [e1]
          unfold fpA
          rw [hFP, show i - d = i - (d + 1) + 1 by omega]
          by_cases hl : i - (d + 1) < (FP v T rule part (p ||| 2 ^ c) (nxt v T c s)).length
          · rw [if_pos ⟨hW1, hl⟩, if_pos ⟨hW0, Nat.succ_lt_succ hl⟩]
            rfl
          · rw [if_neg (fun z => hl z.2), if_neg (fun z => hl (Nat.lt_of_succ_lt_succ z.2))]
end FIRST
theorem firstC {u : St} {v : HVT} {T : TbT} {rule ag i : Nat} (hc : CR u v) (hw : WF v) (hT : TQ v T) (hru : rule < 3) (hi : i < 10) (hA : AG ag u) (hag : ag + 1 < 2 ^ 31) : ∃ u' : St, j_X4_firstAt T u (nI rule) (nI i) = some (fpA v T rule (2 ^ nOf v - 1) 0 (s0 v) i, u') ∧ AG (ag + 1) u' ∧ sf u u' := by
  have hn := hw.2.1
  have hp := all_lt hn
  obtain ⟨u1, g1, g2, g3, g4, g5⟩ := openS true hc hw hru hp hA hag
  obtain ⟨u2, e1, e2, e3⟩ := firstAt_20 (rule := rule) hw hT hp hi 100 0 0 (s0 v) u1 (by omega) (by omega) (by rw [fr_0]; omega) (by decide) (Gd_0 hw) g2 (g4 _) g3
  refine ⟨u2, ?_, e3, sf_trans g5 (sf_fm e2)⟩
  rw [enc_0, Nat.sub_zero] at e1
  unfold j_X4_firstAt
  rw [all_c hc.2.1 hn, Option.bind_some, show j_X4_open u (nI rule) (nI (2 ^ nOf v - 1)) 1 = some u1 from g1, Option.bind_some]
  exact e1
theorem fp_len (v : HVT) (T : TbT) (rule part : Nat) : ∀ f p s, (fp v T rule part f p s).length ≤ f
  | 0, _, _ => Nat.le_refl 0
  | f + 1, p, s => by
    rw [fp_s]
    split
    · exact Nat.zero_le _
    · split
      · exact Nat.zero_le _
      · exact Nat.succ_le_succ (fp_len v T rule part f _ _)
theorem fc_first : Fc_first Iv := by
  intro a1 a2 a3 k0 hk0 t gs hs kt tu tq nT nH U h
  have h' := fc_M k0 hk0 _ _ _ _ _ _ _ _ _ h
  obtain ⟨c1, c2, c3, c4, c5, c6⟩ := h.1
  refine ⟨fun i hi hh a6 sh => ?_, fun hn => ?_⟩
  · subst hh
    obtain ⟨v, v1, v2, v3, v4⟩ := h.2.2.2.2.1 i hi
    have hn10 := v3.2.1
    have hcr : CR (mrg gs (hs i)) v := v1
    have hT := TU_of h v4
    obtain ⟨ag, g1, g2⟩ := AG_of h i
    rcases isRule_or a2 with ⟨-, r1, r2⟩ | ⟨rule, hru, rfl, r1, r2⟩
    · refine ⟨-1, t, _, sh, U, ?_, ?_, Iv_mrg i h'⟩
      · show j_X6_first_Y (Tq tq (kt i)) a6 t (mrg gs (hs i)) sh (nI i) a2 a3 = _
        unfold j_X6_first_Y
        rw [r1]
        rfl
      · show j_X7_first U (nI i) a2 a3 = _
        unfold j_X7_first
        rw [isHist_Y c4 hi c2, b1, r2]
        rfl
    · obtain ⟨U1, d1, d2, d3⟩ := takenR v2 v3 hT (show i < 12 by omega) hru (all_lt hn10)
      have hlen : (FP v (Tq tq (kt i)) rule (2 ^ nOf v - 1) 0 (s0 v)).length ≤ 10 := by
        have := fp_len v (Tq tq (kt i)) rule (2 ^ nOf v - 1) (fr (nOf v) 0) 0 (s0 v)
        rw [fr_0] at this
        unfold FP
        rw [fr_0]
        omega
      have hR : ∀ x : Int32, j_X7_first U (nI i) (nI rule) x = if tkB v (Tq tq (kt i)) rule (2 ^ nOf v - 1) then (j_X7_in x 0 (nI (FP v (Tq tq (kt i)) rule (2 ^ nOf v - 1) 0 (s0 v)).length - 1)).bind (fun r9 => if r9 = 0 then some ((-1 : Int32), U1) else gd x 11 (some (U1.2.1 18 x.toNatClampNeg, U1))) else some (-1, U1) := by
        intro x
        unfold j_X7_first
        rw [isHist_Y c4 hi c2, b1, r2, b1, all_r v2.2.1 (by omega) hn10, Option.bind_some, d1, Option.bind_some]
        cases hb : tkB v (Tq tq (kt i)) rule (2 ^ nOf v - 1) with
        | false => rfl
        | true =>
          have := (d3 hb).1
          rw [Nat.zero_add] at this
          show (if (1 : Int32) = 0 then some ((-1 : Int32), U1) else (j_X7_in x 0 (U1.1 21 - 1)).bind (fun r9 => if r9 = 0 then some ((-1 : Int32), U1) else gd x 11 (some (U1.2.1 18 x.toNatClampNeg, U1)))) = _
          rw [if_neg one_ne, if_pos rfl, this]
      rcases FN_or 10 (by decide) a3 with hf | ⟨j, hj, rfl⟩
      · refine ⟨-1, t, mrg gs (hs i), sh, U1, ?_, ?_, ?_⟩
        · show j_X6_first_Y (Tq tq (kt i)) a6 t (mrg gs (hs i)) sh (nI i) (nI rule) a3 = _
          unfold j_X6_first_Y
          rw [r1, b1]
          by_cases c : a3 < 0
          · rw [if_pos c]
          · rw [if_neg c]
            rcases hf with w | ⟨-, w⟩
            · exact absurd w c
            · rw [if_neg (fun z => absurd (show (10 : Int32) ≤ a3 from w) (Int32.not_le.mpr z))]
        · show j_X7_first U (nI i) (nI rule) a3 = _
          rw [hR]
          cases tkB v (Tq tq (kt i)) rule (2 ^ nOf v - 1) with
          | false => rfl
          | true =>
            rw [if_pos rfl, in_N (by omega) ?_]
            · rfl
            · rcases hf with w | ⟨w1, w2⟩
              · exact Or.inl w
              · exact Or.inr ⟨w1, Int32.le_trans (nI_le (by omega) (by decide)) w2⟩
        · exact Iv_srch h i (sf_refl _) g2 (by omega) d2
      · obtain ⟨u1, e1, e2, e3⟩ := firstC hcr v3 hT.tq hru hj g2 (by omega)
        refine ⟨fpA v (Tq tq (kt i)) rule (2 ^ nOf v - 1) 0 (s0 v) j, t, u1, a6, U1, ?_, ?_, Iv_srch h i e3 e2 (by omega) d2⟩
        · show j_X6_first_Y (Tq tq (kt i)) a6 t (mrg gs (hs i)) sh (nI i) (nI rule) (nI j) = _
          unfold j_X6_first_Y
          rw [r1, b1, if_neg (nI_pos (by omega)), if_pos (show nI j < 10 from nI_lt (b := 10) hj (by decide)), e1]
          rfl
        · show j_X7_first U (nI i) (nI rule) (nI j) = _
          rw [hR]
          unfold fpA
          cases hb : tkB v (Tq tq (kt i)) rule (2 ^ nOf v - 1) with
          | false =>
            unfold tkB at hb
            rw [if_neg Bool.false_ne_true, if_neg (fun z => (of_decide_eq_false hb) z.1)]
          | true =>
            have hW : Wv v (Tq tq (kt i)) rule (2 ^ nOf v - 1) 0 (s0 v) ≠ 0 := of_decide_eq_true hb
            rw [if_pos rfl]
            by_cases hl : j < (FP v (Tq tq (kt i)) rule (2 ^ nOf v - 1) 0 (s0 v)).length
            · have := (d3 hb).2 j hl
              rw [Nat.zero_add] at this
              rw [in_Y hl (by omega), b1, gd_nI (by omega) (by decide), nI_clamp (by omega), this, if_pos ⟨hW, hl⟩]
            · rw [in_N (by omega) (Or.inr ⟨nI_pos (by omega), nI_le (by omega) (by omega)⟩), if_neg (fun z => hl z.2)]
              rfl
  · exact ⟨-1, t, U, rfl, by
      show j_X7_first U a1 a2 a3 = _
      unfold j_X7_first
      rw [isHist_N c4 hn c2]
      rfl, h'⟩
