/-! ===== check: the told row ===== -/
section CHECK
variable {v : HVT} {T : TbT} {rule : Nat}
/-- the first fault of the row sd, from place d on, k places more -/
def chk (v : HVT) (T : TbT) (rule : Nat) (sd : Nat → Nat) : Nat → Nat → Nat → Sg → Nat
  | 0, d, p, _ => if sbB (due v (2 ^ nOf v - 1)) p then 100 else d
  | k + 1, d, p, s => if sd d < nOf v ∧ fit v T rule (2 ^ nOf v - 1) (sd d) p s = true then chk v T rule sd k (d + 1) (p ||| 2 ^ sd d) (nxt v T (sd d) s) else d
theorem chk_s (sd : Nat → Nat) (k d p : Nat) (s : Sg) : chk v T rule sd (k + 1) d p s = if sd d < nOf v ∧ fit v T rule (2 ^ nOf v - 1) (sd d) p s = true then chk v T rule sd k (d + 1) (p ||| 2 ^ sd d) (nxt v T (sd d) s) else d := rfl
theorem fault_20 {u : St} {sd : Nat → Nat} {ns : Nat} (hw : WF v) (hT : TQ v T) (hns : ns ≤ 10) (hS : SO v rule (2 ^ nOf v - 1) true u) (hsd : ∀ q, q < ns → sd q < 10 ∧ u.2.1 32 q = nI (sd q)) : ∀ f k d p s, k < f → d + k = ns → p < 1024 → Gd v p s → j_X4_firstFault_20 T f u (nI ns) (nI p) (enc v s) (nI d) = some (nI (chk v T rule sd k d p s), u)
  | 0, _, _, _, _, h, _, _, _ => absurd h (Nat.not_lt_zero _)
  | f + 1, k, d, p, s, h, hk, hp, hG => by
    have hn := hw.2.1
    show q_X4_firstFault_20 T (j_X4_firstFault_20 T f) u (nI ns) (nI p) (enc v s) (nI d) = _
    unfold q_X4_firstFault_20
    cases k with
    | zero =>
      rw [if_pos (nI_le (by omega) (by omega)), whole_c hS (all_lt hn), bB]
      unfold chk
      cases sbB (due v (2 ^ nOf v - 1)) p with
      | true => rfl
      | false =>
        rw [if_neg Bool.false_ne_true, if_neg Bool.false_ne_true, show d = ns by omega]
    | succ k =>
      obtain ⟨q1, q2⟩ := hsd d (by omega)
      rw [if_neg (nI_ge (by omega) (by omega)), if_neg (show ¬ (10 : Int32) ≤ nI d from nI_ge (b := 10) (by omega) (by decide)), gd_nI (by omega) (by decide), nI_clamp (by omega), q2, chk_s]
      show (j_X4_fits T u (nI (sd d)) (nI p) (enc v s)).bind (fun r12 => if r12 = 0 then some (nI d, u) else (j_X3_after T u (nI (sd d)) (enc v s)).bind (fun r14 => j_X4_firstFault_20 T f u (nI ns) (nI p ||| ((1 : Int32) <<< (nI (sd d) &&& 31))) r14 (nI d + 1))) = _
      by_cases hcn : sd d < nOf v
      · rw [fits_c hS hw hT (all_lt hn) hp hG hcn, bB]
        cases hf : fit v T rule (2 ^ nOf v - 1) (sd d) p s with
        | false =>
          rw [if_neg Bool.false_ne_true, if_neg (fun z => by cases z.2)]
        | true =>
          have hpc := fit_p hf
          rw [if_pos rfl, if_pos ⟨hcn, rfl⟩, after_c hS.1 hw hcn hT hpc hG, Option.bind_some, or_bit _ (by omega), nI_1]
          exact fault_20 hw hT hns hS hsd f k (d + 1) (p ||| 2 ^ sd d) (nxt v T (sd d) s) (by omega) (by omega) (or_lt (k := 10) hp (by omega)) (Gd_nxt hw hcn hT hpc hG)
      · rw [fits_N hS.1.2.1 (Or.inr ⟨nI_pos (by omega), nI_le (by omega) (by omega)⟩), b0, if_neg (fun z => hcn z.1)]
theorem all_tb {n c : Nat} (h : c < n) : (2 ^ n - 1).testBit c = true := by
  rw [Nat.testBit_two_pow_sub_one, decide_eq_true h]
theorem check_44 {sd : Nat → Nat} {ns i : Nat} (hw : WF v) (hi : i < 12) (hns : ns ≤ 10) : ∀ f k d p s U, k < f → d + k = ns → d + fr (nOf v) p = nOf v → p < 1024 → Gd v p s → (∀ asks, U.1 23 = asks → GO v T rule (2 ^ nOf v - 1) i asks U d s) → (∀ q, q < ns → sd q < 10 ∧ U.2.1 28 q = nI (sd q)) → ∃ U' : St, j_X7_check_44 f U (nI i) (nI ns) (nI p) (nI d) = some (nI (chk v T rule sd k d p s), U') ∧ cfr 0 U U'
  | 0, _, _, _, _, _, h, _, _, _, _, _, _ => absurd h (Nat.not_lt_zero _)
  | f + 1, k, d, p, s, U, h, hk, hd, hp, hG, hO', hsd => by
    have hn := hw.2.1
    have hO := hO' _ rfl
    obtain ⟨o1, o2, o3, o4, -⟩ := id hO
    have hdu := due_lt (v := v) (all_lt hn)
    show ∃ U' : St, q_X7_check_44 (j_X7_check_44 f) U (nI i) (nI ns) (nI p) (nI d) = _ ∧ _
    unfold q_X7_check_44
    simp only [nm]
    cases k with
    | zero =>
      rw [if_pos (nI_le (by omega) (by omega)), all_r o1.2.1 hi hn, Option.bind_some, due_r o1 hw hi (all_lt hn), Option.bind_some, fa_and]
      have hiff : nI (p &&& due v (2 ^ nOf v - 1)) = nI (due v (2 ^ nOf v - 1)) ↔ sbB (due v (2 ^ nOf v - 1)) p = true := by
        rw [nI_eq (Nat.lt_of_le_of_lt Nat.and_le_right (by omega)) (by omega), sb_and hdu]
      unfold chk
      cases hb : sbB (due v (2 ^ nOf v - 1)) p with
      | true =>
        rw [if_pos (hiff.mpr hb)]
        exact ⟨U, rfl, cfr_refl 0 U⟩
      | false =>
        rw [if_neg (fun z => by rw [hiff.mp z] at hb; cases hb), if_neg Bool.false_ne_true]
        exact ⟨U, by rw [show d = ns by omega], cfr_refl 0 U⟩
    | succ k =>
      obtain ⟨q1, q2⟩ := hsd d (by omega)
      rw [if_neg (nI_ge (by omega) (by omega)), gd_nI (show d < 10 by omega) (by decide), nI_clamp (show d < 2 ^ 31 by omega), q2, gd_nI hi (by decide), nI_clamp (show i < 2 ^ 31 by omega), o1.2.1, chk_s]
      have no : ¬ (sd d < nOf v ∧ fit v T rule (2 ^ nOf v - 1) (sd d) p s = true) → ∀ U1, cfr 0 U U1 → ∃ U' : St, (some (nI d, U1) : Option (Int32 × St)) = some (nI (if sd d < nOf v ∧ fit v T rule (2 ^ nOf v - 1) (sd d) p s = true then chk v T rule sd k (d + 1) (p ||| 2 ^ sd d) (nxt v T (sd d) s) else d), U') ∧ cfr 0 U U' :=
        fun z U1 hf => ⟨U1, by rw [if_neg z], hf⟩
      have c0 : ∀ {U1 : St}, cfr d U U1 → cfr 0 U U1 := fun {U1} hf => ⟨hf.1, hf.2.1, hf.2.2.1, fun q hq => hf.2.2.2 q (by omega)⟩
      by_cases hcn : sd d < nOf v
      · rw [if_neg (nI_ge hcn (by omega)), bit_at (show p < 2 ^ 31 by omega) (show sd d < 31 by omega)]
        have htb := all_tb hcn
        cases hpc : p.testBit (sd d) with
        | true =>
          rw [if_pos (show (if true = true then (1 : Int32) else 0) = 1 from rfl)]
          exact no (fun z => by
            have := fit_p z.2
            rw [hpc] at this
            cases this) U (cfr_refl 0 U)
        | false =>
          rw [if_neg (show ¬ (if false = true then (1 : Int32) else 0) = 1 by decide), gd_nI (show sd d < 10 by omega) (by decide), nI_clamp (show sd d < 2 ^ 31 by omega), o3 _ hcn]
          have a0 := and_not0 (p := p) (bhd_lt hw rule (2 ^ nOf v - 1) (sd d))
          cases hs : sbB (bhd v rule (2 ^ nOf v - 1) (sd d)) p with
          | false =>
            rw [if_neg (fun z => by rw [a0.mp z] at hs; cases hs)]
            exact no (fun z => by
              have := z.2
              unfold fit at this
              rw [htb, hpc, hs] at this
              cases this) U (cfr_refl 0 U)
          | true =>
            rw [if_pos (a0.mpr hs)]
            have hfr := fr_in hpc (nOf v) hcn
            obtain ⟨U1, c1, c2, c3⟩ := comesR o1 hw hi (show d ≤ 9 by omega) hcn o2 hpc hG o4
            rw [c1, Option.bind_some]
            have r1 := RR_cfr o1 c2
            have t1 : TU v T U1 i := TU_cfr o2 c2
            have e0 := en_0 hw (sd d)
            have go : fit v T rule (2 ^ nOf v - 1) (sd d) p s = true → ∃ U' : St, j_X7_check_44 f U1 (nI i) (nI ns) (nI (p ||| 2 ^ sd d)) (nI (d + 1)) = some (nI (if sd d < nOf v ∧ fit v T rule (2 ^ nOf v - 1) (sd d) p s = true then chk v T rule sd k (d + 1) (p ||| 2 ^ sd d) (nxt v T (sd d) s) else d), U') ∧ cfr 0 U U' := by
              intro hf
              rw [if_pos ⟨hcn, hf⟩]
              obtain ⟨U2, g1, g2⟩ := check_44 hw hi hns f k (d + 1) (p ||| 2 ^ sd d) (nxt v T (sd d) s) U1 (by omega) (by omega) (by omega) (or_lt (k := 10) hp (by omega)) (Gd_nxt hw hcn o2.tq hpc hG) (fun asks ha => ⟨r1, t1, by rw [c2.2.2.1 20 (by decide)]; exact o3, c3, ha⟩) (by rw [c2.2.2.1 28 (by decide)]; exact hsd)
              exact ⟨U2, g1, cfr_trans (c0 c2) g2⟩
            dsimp only
            rw [isOpen_r hi (by omega), (r1.2.2.2 (sd d) hcn).2.2.2.2.2.1, Option.bind_some, ix10, gd_nI (show 10 * i + sd d < 120 by omega) (by decide), nI_clamp (show 10 * i + sd d < 2 ^ 31 by omega), (r1.2.2.2 (sd d) hcn).2.2.2.2.2.2, nI_1, or_bit p (by omega)]
            cases he : enB v (sd d) with
            | false =>
              rw [if_pos (e0.mpr he), if_neg one_ne]
              exact go (by unfold fit; rw [htb, hpc, hs, he]; rfl)
            | true =>
              have hne : ¬ nI (enOf v (sd d)) = 0 := fun z => by rw [e0.mp z] at he; cases he
              rw [if_neg hne, if_pos (show (0 : Int32) = 0 from rfl)]
              by_cases hv : rpl v T (sd d) s = vOf v (sd d)
              · rw [if_pos hv]
                exact go (by unfold fit; rw [htb, hpc, hs, he, decide_eq_true hv]; rfl)
              · rw [if_neg hv]
                exact no (fun z => by
                  have := z.2
                  unfold fit at this
                  rw [htb, hpc, hs, he, decide_eq_false hv] at this
                  cases this) U1 (c0 c2)
      · rw [if_pos (nI_le (by omega) (by omega))]
        exact no (fun z => hcn z.1) U (cfr_refl 0 U)
end CHECK
theorem fc_check : Fc_check Iv := by
  intro a1 a2 k0 hk0 t gs hs kt tu tq nT nH U h
  have h' := fc_M k0 hk0 _ _ _ _ _ _ _ _ _ h
  obtain ⟨c1, c2, c3, c4, c5, c6⟩ := h.1
  refine ⟨fun i hi hh a6 sh => ?_, fun hn => ?_⟩
  · subst hh
    obtain ⟨v, v1, v2, v3, v4⟩ := h.2.2.2.2.1 i hi
    have hn10 := v3.2.1
    have hcr : CR (mrg gs (hs i)) v := v1
    have hT := TU_of h v4
    obtain ⟨ag, g1, g2⟩ := AG_of h i
    rcases isRule_or a2 with ⟨-, r1, r2⟩ | ⟨rule, hru, rfl, r1, r2⟩
    · refine ⟨-1, t, _, sh, U, ?_, ?_, Iv_mrg i h'⟩
      · show j_X6_check_Y (Tq tq (kt i)) a6 t (mrg gs (hs i)) sh (nI i) a2 = _
        unfold j_X6_check_Y
        rw [r1]
        rfl
      · show j_X7_check U (nI i) a2 = _
        unfold j_X7_check
        rw [isHist_Y c4 hi c2, b1, r2]
        rfl
    · obtain ⟨ns, s1, s2, s3, s4⟩ := h.2.1
      have hsd : ∃ sd : Nat → Nat, ∀ q, q < ns → sd q < 10 ∧ gs.2.1 32 q = nI (sd q) ∧ U.2.1 28 q = nI (sd q) := by
        refine ⟨fun q => (gs.2.1 32 q).toNatClampNeg, fun q hq => ?_⟩
        obtain ⟨x, x1, x2, x3⟩ := s4 q hq
        dsimp only
        rw [x2, nI_clamp (by omega)]
        exact ⟨x1, rfl, x3⟩
      obtain ⟨sd, hsd⟩ := hsd
      have hp := all_lt hn10
      -- the two walks
      obtain ⟨u1, e1, e2, e3, e4, e5⟩ := openS true hcr v3 hru hp g2 (by omega)
      have e6 : u1.2.1 32 = gs.2.1 32 := e5.2 32 (by decide) (by decide)
      have w1 := fault_20 (T := Tq tq (kt i)) (sd := sd) (ns := ns) v3 hT.tq s1 e2 (fun q hq => by rw [e6]; exact ⟨(hsd q hq).1, (hsd q hq).2.1⟩) 100 ns 0 0 (s0 v) (by omega) (by omega) (by decide) (Gd_0 v3)
      rw [enc_0] at w1
      have hr0 : RR (sI U 29 0) i v := v2
      have hT0 : TU v (Tq tq (kt i)) (sI U 29 0) i := hT
      obtain ⟨U1, p1, p2, p3, p4⟩ := prepG ((sI U 29 0).1 23) hr0 v3 hT0 (show i < 12 by omega) hru hp
      have hO1 : ∀ asks, U1.1 23 = asks → GO v (Tq tq (kt i)) rule (2 ^ nOf v - 1) i asks U1 0 (s0 v) := fun asks ha => ⟨p2.1, p2.2.1, p2.2.2.1, p2.2.2.2.1, ha⟩
      have e28 : U1.2.1 28 = U.2.1 28 := p4.2 28 (by decide) (by decide) (by decide) (by decide)
      obtain ⟨U2, w2, w3⟩ := check_44 (T := Tq tq (kt i)) (sd := sd) (ns := ns) v3 (show i < 12 by omega) s1 100 ns 0 0 (s0 v) U1 (by omega) (by omega) (by rw [fr_0]; omega) (by decide) (Gd_0 v3) hO1 (fun q hq => by rw [e28]; exact ⟨(hsd q hq).1, (hsd q hq).2.2⟩)
      have hfr : rfr (sI U 29 0) U2 := rfr_trans p4 ⟨fun k _ _ => by rw [w3.1], fun k x _ _ _ => w3.2.2.1 k x⟩
      have hI0 : Iv k0 (upd t 43 0) gs hs kt tu tq nT nH (sI U 29 0) := by
        obtain ⟨⟨i1, i2, i3, i4, i5, i6⟩, -, iF, iT, iH, iM⟩ := h
        exact ⟨⟨i1, i2, i3, i4, i5, i6⟩, ⟨0, by omega, rfl, rfl, fun q hq => absurd hq (Nat.not_lt_zero q)⟩, iF, iT, iH, iM⟩
      refine ⟨nI (chk v (Tq tq (kt i)) rule sd ns 0 0 (s0 v)), upd t 43 0, u1, a6, U2, ?_, ?_, Iv_srch hI0 i e5 e3 (by omega) hfr⟩
      · show j_X6_check_Y (Tq tq (kt i)) a6 t (mrg gs (hs i)) sh (nI i) (nI rule) = _
        unfold j_X6_check_Y j_X4_firstFault
        rw [r1, b1]
        simp only [nm]
        rw [s2, all_c hcr.2.1 hn10, Option.bind_some, show j_X4_open (mrg gs (hs i)) (nI rule) (nI (2 ^ nOf v - 1)) 1 = some u1 from e1, Option.bind_some, show j_X4_firstFault_20 (Tq tq (kt i)) 100 u1 (nI ns) 0 0 0 = _ from w1]
        rfl
      · show j_X7_check U (nI i) (nI rule) = _
        unfold j_X7_check
        rw [isHist_Y c4 hi c2, b1, r2, b1]
        simp only [nm]
        rw [s3, all_r (U := sI U 29 0) v2.2.1 (by omega) hn10, Option.bind_some, p1, Option.bind_some]
        exact w2
  · exact ⟨-1, t, U, rfl, by
      show j_X7_check U a1 a2 = _
      unfold j_X7_check
      rw [isHist_N c4 hn c2]
      rfl, h'⟩
