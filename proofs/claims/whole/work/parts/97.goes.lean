/-! ===== the reference goes on, call by call ===== -/
theorem TR_congr {v : HVT} (hw : WF v) {p : Nat} {s : Sg} {th th' : Nat → Int32} (hG : Gd v p s) (h : ∀ q, q < 12 → th q = th' q) (ht : TR v s th) : TR v s th' := by
  have hn := hw.2.1
  have hlen : (kdOf v = 2 ∨ kdOf v = 3) → s.2.length ≤ 10 := by
    intro hk
    rcases hG with z | ⟨-, -, z, -⟩ | z | z | z
    · omega
    · omega
    · omega
    · omega
    · omega
  refine ⟨fun hk => by rw [← h 0 (by omega)]; exact ht.1 hk, fun hk => ?_, fun hk => ?_, fun hk q hq => by rw [← h q (by omega)]; exact ht.2.2.2 hk q hq⟩
  · have := hlen (Or.inl hk)
    exact ⟨by rw [← h 11 (by omega)]; exact (ht.2.1 hk).1, fun q hq => by rw [← h q (by omega)]; exact (ht.2.1 hk).2 q hq⟩
  · have := hlen (Or.inr hk)
    exact ⟨by rw [← h 11 (by omega)]; exact (ht.2.2.1 hk).1, fun q hq => by rw [← h _ (by omega)]; exact (ht.2.2.1 hk).2 q hq⟩
theorem comesR {U : St} {v : HVT} {T : TbT} {i c d p : Nat} {s : Sg} (hr : RR U i v) (hw : WF v) (hi : i < 12) (hd : d ≤ 9) (hcn : c < nOf v) (hT : TU v T U i) (hp : p.testBit c = false) (hG : Gd v p s) (ht : TR v s (thU U d)) : ∃ U' : St, j_X7_comes U (nI i) (nI c) (nI d) = some (rpl v T c s, U') ∧ cfr d U U' ∧ TR v (nxt v T c s) (thU U' (d + 1)) := by
  have hn := hw.2.1
  have hf := fr_in hp (nOf v) hcn
  obtain ⟨-, z11, z12⟩ := hr.at hcn
  obtain ⟨U1, k, g1, g2, g3, g4⟩ := comes_42 hd (nI i) (nI (10 * i + c)) (aOf v c) (bOf v c) 100 0 U (by omega) (by omega)
  have hr1 := RR_cfr hr g2
  have hT1 := TU_cfr hT g2
  have ht1 : TR v s (thU U1 (d + 1)) := TR_congr hw hG (fun q hq => (g3 q (Nat.zero_le q) hq).symm) ht
  have e : j_X7_comes U (nI i) (nI c) (nI d) = q_X7_comes_42 k U1 (nI i) (nI (12 * d)) (nI (12 * (d + 1))) (nI (10 * i + c)) (aOf v c) (bOf v c) 12 := by
    rw [← g1]
    unfold j_X7_comes
    simp only [nm]
    rw [show (12 : Int32) = nI 12 from rfl, pk_mul, nI_add, ix10, gd_nI (by omega) (by decide), gd_nI (by omega) (by decide), nI_clamp (by omega), z11, z12]
    rfl
  have fin : CK v T c d s U1 (q_X7_comes_42 k U1 (nI i) (nI (12 * d)) (nI (12 * (d + 1))) (nI (10 * i + c)) (aOf v c) (bOf v c) 12) := by
    rcases id hG with ⟨h | h, -⟩ | ⟨h, -, h2, h3⟩ | ⟨h, -, m, h2, h3⟩ | ⟨h, -, h2, h3⟩ | ⟨h, -, m, h2, h3⟩
    · exact come_0 hr1 hw hi hd hcn h ht1
    · exact come_1 hr1 hw hi hd hcn h ht1
    · exact come_23 hr1 hw hi hd hcn h ht1 (by omega)
    · exact come_4 hr1 hw hi hd hcn h ht1 h2 h3
    · exact come_5 hr1 hw hi hd hcn h ht1 h2
    · exact come_6 hr1 hw hi hd hcn h hT1 ht1 h2 h3
  obtain ⟨U', f1, f2, f3⟩ := fin
  exact ⟨U', e.trans f1, cfr_trans g2 f2, f3⟩
/-- nothing but what a search writes behind place d differs -/
def gfr (d : Nat) (U U' : St) : Prop := (∀ k, k ≠ 21 → k ≠ 26 → U'.1 k = U.1 k) ∧ (∀ k, k ≠ 17 → k ≠ 18 → k ≠ 19 → k ≠ 25 → U'.2.1 k = U.2.1 k) ∧ (∀ q, q < 12 * (d + 1) → U'.2.1 17 q = U.2.1 17 q) ∧ ∀ q, q < d → U'.2.1 18 q = U.2.1 18 q ∧ U'.2.1 19 q = U.2.1 19 q
theorem gfr_refl (d : Nat) (U : St) : gfr d U U := ⟨fun _ _ _ => rfl, fun _ _ _ _ _ => rfl, fun _ _ => rfl, fun _ _ => ⟨rfl, rfl⟩⟩
theorem gfr_trans {d : Nat} {a b c : St} (h : gfr d a b) (h2 : gfr d b c) : gfr d a c := ⟨fun k x y => (h2.1 k x y).trans (h.1 k x y), fun k x y z w => (h2.2.1 k x y z w).trans (h.2.1 k x y z w), fun q hq => (h2.2.2.1 q hq).trans (h.2.2.1 q hq), fun q hq => ⟨(h2.2.2.2 q hq).1.trans (h.2.2.2 q hq).1, (h2.2.2.2 q hq).2.trans (h.2.2.2 q hq).2⟩⟩
theorem gfr_up {d : Nat} {a b : St} (h : gfr (d + 1) a b) : gfr d a b := ⟨h.1, h.2.1, fun q hq => h.2.2.1 q (by omega), fun q hq => h.2.2.2 q (by omega)⟩
theorem gfr_cfr {d : Nat} {a b : St} (h : cfr d a b) : gfr d a b := ⟨fun k _ _ => by rw [h.1], fun k h1 _ _ _ => h.2.2.1 k h1, h.2.2.2, fun q _ => ⟨by rw [h.2.2.1 18 (by decide)], by rw [h.2.2.1 19 (by decide)]⟩⟩
theorem gfr_18 (d : Nat) (U : St) (x y : Int32) : gfr d U (sA (sA U 18 d x) 19 d y) := by
  refine ⟨fun _ _ _ => rfl, fun k _ h2 h3 _ => ?_, fun q _ => rfl, fun q hq => ⟨?_, ?_⟩⟩
  · funext q
    rw [sA_2, if_neg (fun z => h3 z.1), sA_2, if_neg (fun z => h2 z.1)]
  · rw [sA_2, if_neg (fun z => absurd z.1 (by decide)), sA_2, if_neg (fun z => by omega)]
  · rw [sA_2, if_neg (fun z => by omega), sA_2, if_neg (fun z => absurd z.1 (by decide))]
/-- the reference stands at place d, in state s -/
def GO (v : HVT) (T : TbT) (rule part i : Nat) (asks : Int32) (U : St) (d : Nat) (s : Sg) : Prop := RR U i v ∧ TU v T U i ∧ (∀ c, c < nOf v → U.2.1 20 c = nI (bhd v rule part c)) ∧ TR v s (thU U d) ∧ U.1 23 = asks
theorem GO_gfr {v : HVT} {T : TbT} {rule part i : Nat} {asks : Int32} {U U' : St} {d p : Nat} {s : Sg} (hw : WF v) (hG : Gd v p s) (h : GO v T rule part i asks U d s) (hf : gfr d U U') : GO v T rule part i asks U' d s := by
  obtain ⟨h1, h2, h3, h4⟩ := hf
  obtain ⟨a1, a2, a3, a4, a5⟩ := h
  have e : ∀ k, k ≠ 17 → k ≠ 18 → k ≠ 19 → k ≠ 25 → U'.2.1 k = U.2.1 k := h2
  refine ⟨?_, ?_, ?_, TR_congr hw hG (fun q hq => (h3 _ (by omega)).symm) a4, by rw [h1 23 (by decide) (by decide)]; exact a5⟩
  · unfold RR at a1 ⊢
    rw [e 5 (by decide) (by decide) (by decide) (by decide), e 7 (by decide) (by decide) (by decide) (by decide), e 8 (by decide) (by decide) (by decide) (by decide), e 9 (by decide) (by decide) (by decide) (by decide), e 10 (by decide) (by decide) (by decide) (by decide), e 11 (by decide) (by decide) (by decide) (by decide), e 12 (by decide) (by decide) (by decide) (by decide), e 13 (by decide) (by decide) (by decide) (by decide), e 14 (by decide) (by decide) (by decide) (by decide), e 15 (by decide) (by decide) (by decide) (by decide)]
    exact a1
  · unfold TU at a2 ⊢
    rw [e 1 (by decide) (by decide) (by decide) (by decide), e 2 (by decide) (by decide) (by decide) (by decide), e 6 (by decide) (by decide) (by decide) (by decide)]
    exact a2
  · rw [e 20 (by decide) (by decide) (by decide) (by decide)]
    exact a3
section GOES
variable {v : HVT} {T : TbT} {rule part i : Nat} {asks : Int32} {Pre : Nat → Nat → Sg → St → Prop} {E : Nat → Nat → Sg → St → St → Bool → Prop} {LE : Nat → Nat → Sg → Nat → Nat → St → St → Bool → Prop}
def GRec (v : HVT) (T : TbT) (rule part i : Nat) (asks : Int32) (Pre : Nat → Nat → Sg → St → Prop) (E : Nat → Nat → Sg → St → St → Bool → Prop) (d : Nat) (rc : St → Int32 → Int32 → Int32 → Int32 → Int32 → Option (Int32 × St)) : Prop :=
  ∀ (p : Nat) (s : Sg) (U : St), d + fr (nOf v) p = nOf v → p < 1024 → Gd v p s → GO v T rule part i asks U d s → Pre d p s U → ∃ (U' : St) (rb : Bool), rc U (nI i) (nI part) (nI (due v part)) (nI p) (nI d) = some (if rb then 1 else 0, U') ∧ gfr d U U' ∧ E d p s U U' rb
/-- what the effects keep to -/
def LawP (v : HVT) (T : TbT) (rule part : Nat) (Pre : Nat → Nat → Sg → St → Prop) (E : Nat → Nat → Sg → St → St → Bool → Prop) (LE : Nat → Nat → Sg → Nat → Nat → St → St → Bool → Prop) : Prop :=
  (∀ d p s c U, LE d p s 0 c U U false) ∧
  (∀ d p s k c U U1 U' rb, c < nOf v → fit v T rule part c p s = false → cfr d U U1 → LE d p s k (c + 1) U1 U' rb → LE d p s (k + 1) c U U' rb) ∧
  (∀ d p s k c U U1 U2, c < nOf v → fit v T rule part c p s = true → cfr d U U1 → Pre d p s U → gfr (d + 1) (sA (sA U1 18 d (nI c)) 19 d (rpl v T c s)) U2 → E (d + 1) (p ||| 2 ^ c) (nxt v T c s) (sA (sA U1 18 d (nI c)) 19 d (rpl v T c s)) U2 true → LE d p s (k + 1) c U U2 true) ∧
  (∀ d p s k c U U1 U2 U' rb, c < nOf v → fit v T rule part c p s = true → cfr d U U1 → Pre d p s U → gfr (d + 1) (sA (sA U1 18 d (nI c)) 19 d (rpl v T c s)) U2 → E (d + 1) (p ||| 2 ^ c) (nxt v T c s) (sA (sA U1 18 d (nI c)) 19 d (rpl v T c s)) U2 false → LE d p s k (c + 1) U2 U' rb → LE d p s (k + 1) c U U' rb) ∧
  (∀ d p s U U1, Pre d p s U → cfr d U U1 → Pre d p s U1) ∧
  (∀ d p s c U U1 U2, c < nOf v → fit v T rule part c p s = true → cfr d U U1 → Pre d p s U → gfr (d + 1) (sA (sA U1 18 d (nI c)) 19 d (rpl v T c s)) U2 → E (d + 1) (p ||| 2 ^ c) (nxt v T c s) (sA (sA U1 18 d (nI c)) 19 d (rpl v T c s)) U2 false → Pre d p s U2) ∧
  (∀ d p s c U U1, c < nOf v → fit v T rule part c p s = true → Gd v p s → cfr d U U1 → Pre d p s U → Pre (d + 1) (p ||| 2 ^ c) (nxt v T c s) (sA (sA U1 18 d (nI c)) 19 d (rpl v T c s)))
theorem TR_18 {v : HVT} {s : Sg} {U : St} {d e : Nat} {x y : Int32} (h : TR v s (thU U e)) : TR v s (thU (sA (sA U 18 d x) 19 d y) e) := h
theorem goes_67 (hw : WF v) (hi : i < 12) (hpt : part < 1024) (hL : LawP v T rule part Pre E LE) {d : Nat} {rc : St → Int32 → Int32 → Int32 → Int32 → Int32 → Option (Int32 × St)} (hrc : GRec v T rule part i asks Pre E (d + 1) rc) {p : Nat} {s : Sg} (hd : d + fr (nOf v) p = nOf v) (hp : p < 1024) (hG : Gd v p s) : ∀ f k c U, k < f → c + k = nOf v → GO v T rule part i asks U d s → Pre d p s U → ∃ (U' : St) (rb : Bool), j_X7_goes_67 rc f U (nI i) (nI part) (nI (due v part)) (nI p) (nI d) (nI c) = some (if rb then 1 else 0, U') ∧ gfr d U U' ∧ LE d p s k c U U' rb
  | 0, _, _, _, h, _, _, _ => absurd h (Nat.not_lt_zero _)
  | f + 1, k, c, U, h, hk, hO, hPre => by
    have hn := hw.2.1
    obtain ⟨l1, l2, l3, l4, l5, l5b, l6⟩ := hL
    obtain ⟨o1, o2, o3, o4, o5⟩ := id hO
    show ∃ (U' : St) (rb : Bool), q_X7_goes_67 rc (j_X7_goes_67 rc f) U (nI i) (nI part) (nI (due v part)) (nI p) (nI d) (nI c) = _ ∧ _
    unfold q_X7_goes_67
    simp only [nm]
    rw [gd_nI hi (by decide), nI_clamp (show i < 2 ^ 31 by omega), o1.2.1]
    cases k with
    | zero =>
      rw [if_pos (nI_le (by omega) (by omega))]
      exact ⟨U, false, rfl, gfr_refl d U, l1 d p s c U⟩
    | succ k =>
      have hcn : c < nOf v := by omega
      have skip : ∀ U1, cfr d U U1 → fit v T rule part c p s = false → ∃ (U' : St) (rb : Bool), j_X7_goes_67 rc f U1 (nI i) (nI part) (nI (due v part)) (nI p) (nI d) (nI (c + 1)) = some (if rb then 1 else 0, U') ∧ gfr d U U' ∧ LE d p s (k + 1) c U U' rb := by
        intro U1 hf hfit
        obtain ⟨U', rb, g1, g2, g3⟩ := goes_67 hw hi hpt ⟨l1, l2, l3, l4, l5, l5b, l6⟩ hrc hd hp hG f k (c + 1) U1 (by omega) (by omega) (GO_gfr hw hG hO (gfr_cfr hf)) (l5 d p s U U1 hPre hf)
        exact ⟨U', rb, g1, gfr_trans (gfr_cfr hf) g2, l2 d p s k c U U1 U' rb hcn hfit hf g3⟩
      rw [if_neg (nI_ge hcn (by omega)), bit_at (show part < 2 ^ 31 by omega) (show c < 31 by omega), bit_at (show p < 2 ^ 31 by omega) (show c < 31 by omega), nI_1]
      cases hb : part.testBit c with
      | false =>
        rw [if_pos (show (if false = true then (1 : Int32) else 0) = 0 from rfl)]
        exact skip U (cfr_refl d U) (by unfold fit; rw [hb]; rfl)
      | true =>
        rw [if_neg (show ¬ (if true = true then (1 : Int32) else 0) = 0 by decide)]
        cases hpc : p.testBit c with
        | true =>
          rw [if_pos (show (if true = true then (1 : Int32) else 0) = 1 from rfl)]
          exact skip U (cfr_refl d U) (by unfold fit; rw [hb, hpc]; rfl)
        | false =>
          rw [if_neg (show ¬ (if false = true then (1 : Int32) else 0) = 1 by decide), gd_nI (by omega) (by decide), nI_clamp (by omega), o3 c hcn]
          have a0 := and_not0 (p := p) (bhd_lt hw rule part c)
          cases hs : sbB (bhd v rule part c) p with
          | false =>
            rw [if_neg (fun z => by rw [a0.mp z] at hs; cases hs)]
            exact skip U (cfr_refl d U) (by unfold fit; rw [hb, hpc, hs]; rfl)
          | true =>
            rw [if_pos (a0.mpr hs)]
            have hfr := fr_in hpc (nOf v) hcn
            obtain ⟨U1, c1, c2, c3⟩ := comesR o1 hw hi (show d ≤ 9 by omega) hcn o2 hpc hG o4
            rw [c1, Option.bind_some]
            have r1 := RR_cfr o1 c2
            have t1 : TU v T U1 i := TU_cfr o2 c2
            have rest : fit v T rule part c p s = true → ∃ (U' : St) (rb : Bool), (rc (sA (sA U1 18 d (nI c)) 19 d (rpl v T c s)) (nI i) (nI part) (nI (due v part)) (nI (p ||| 2 ^ c)) (nI (d + 1))).bind (fun ⟨r, u⟩ => if r = 0 then j_X7_goes_67 rc f u (nI i) (nI part) (nI (due v part)) (nI p) (nI d) (nI (c + 1)) else some ((1 : Int32), u)) = some (if rb then 1 else 0, U') ∧ gfr d U U' ∧ LE d p s (k + 1) c U U' rb := by
              intro hfit
              have hO1 : GO v T rule part i asks (sA (sA U1 18 d (nI c)) 19 d (rpl v T c s)) (d + 1) (nxt v T c s) := by
                refine ⟨r1, t1, ?_, TR_18 c3, ?_⟩
                · show ∀ c, c < nOf v → U1.2.1 20 c = nI (bhd v rule part c)
                  rw [c2.2.2.1 20 (by decide)]
                  exact o3
                · show U1.1 23 = asks
                  rw [c2.1]
                  exact o5
              obtain ⟨U2, rb2, g1, g2, g3⟩ := hrc (p ||| 2 ^ c) (nxt v T c s) _ (by omega) (or_lt (k := 10) hp (by omega)) (Gd_nxt hw hcn o2.tq hpc hG) hO1 (l6 d p s c U U1 hcn hfit hG c2 hPre)
              have f2 : gfr d U U2 := gfr_trans (gfr_trans (gfr_cfr c2) (gfr_18 d U1 _ _)) (gfr_up g2)
              rw [g1, Option.bind_some]
              cases rb2 with
              | true => exact ⟨U2, true, rfl, f2, l3 d p s k c U U1 U2 hcn hfit c2 hPre g2 g3⟩
              | false =>
                obtain ⟨U', rb, e1, e2, e3⟩ := goes_67 hw hi hpt ⟨l1, l2, l3, l4, l5, l5b, l6⟩ hrc hd hp hG f k (c + 1) U2 (by omega) (by omega) (GO_gfr hw hG hO f2) (l5b d p s c U U1 U2 hcn hfit c2 hPre g2 g3)
                exact ⟨U', rb, e1, gfr_trans f2 e2, l4 d p s k c U U1 U2 U' rb hcn hfit c2 hPre g2 g3 e3⟩
            dsimp only
            rw [isOpen_r hi (by omega), (r1.2.2.2 c hcn).2.2.2.2.2.1, Option.bind_some, ix10, gd_nI (show 10 * i + c < 120 by omega) (by decide), nI_clamp (show 10 * i + c < 2 ^ 31 by omega), (r1.2.2.2 c hcn).2.2.2.2.2.2, gd_nI (show d < 11 by omega) (by decide), gd_nI (show d < 11 by omega) (by decide), nI_clamp (show d < 2 ^ 31 by omega), nI_1, or_bit p (by omega)]
            have e0 := en_0 hw c
            cases he : enB v c with
            | false =>
              rw [if_pos (e0.mpr he), if_neg one_ne]
              exact rest (by unfold fit; rw [hb, hpc, hs, he]; rfl)
            | true =>
              have hne : ¬ nI (enOf v c) = 0 := fun z => by rw [e0.mp z] at he; cases he
              rw [if_neg hne, if_pos (show (0 : Int32) = 0 from rfl)]
              by_cases hv : rpl v T c s = vOf v c
              · rw [if_pos hv]
                exact rest (by unfold fit; rw [hb, hpc, hs, he, decide_eq_true hv]; rfl)
              · rw [if_neg hv]
                exact skip U1 c2 (by unfold fit; rw [hb, hpc, hs, he, decide_eq_false hv]; rfl)
/-- what happens at a whole row -/
def WhP (v : HVT) (T : TbT) (rule part i : Nat) (asks : Int32) (Pre : Nat → Nat → Sg → St → Prop) (E : Nat → Nat → Sg → St → St → Bool → Prop) (LE : Nat → Nat → Sg → Nat → Nat → St → St → Bool → Prop) : Prop :=
  (∀ d p s U U' rb, d + fr (nOf v) p = nOf v → sbB (due v part) p = false → LE d p s (nOf v) 0 U U' rb → E d p s U U' rb) ∧
  (∀ d p s U, d + fr (nOf v) p = nOf v → p < 1024 → sbB (due v part) p = true → Gd v p s → GO v T rule part i asks U d s → Pre d p s U →
    (asks = 0 ∧ E d p s U (sI (sL U 22 0 (U.2.2 22 0 + 1)) 21 (nI d)) true) ∨
    (asks = 1 ∧ Pre d p s (sL U 22 0 (U.2.2 22 0 + 1)) ∧ ∀ U' rb, LE d p s (nOf v) 0 (sL U 22 0 (U.2.2 22 0 + 1)) U' rb → E d p s U U' rb) ∨
    (asks = 2 ∧ ∃ U0, (if ((nI p >>> ((U.1 24) &&& 31)) &&& (1 : Int32)) = 1 then j_X7_fill (sL U 22 0 (U.2.2 22 0 + 1)) (nI d) else some (sL U 22 0 (U.2.2 22 0 + 1))) = some U0 ∧ gfr d U U0 ∧ Pre d p s U0 ∧ ∀ U' rb, LE d p s (nOf v) 0 U0 U' rb → E d p s U U' rb))
theorem gfr_many (d : Nat) (U : St) (x : Int64) : gfr d U (sL U 22 0 x) := ⟨fun _ _ _ => rfl, fun _ _ _ _ _ => rfl, fun _ _ => rfl, fun _ _ => ⟨rfl, rfl⟩⟩
theorem gfr_found (d : Nat) (U : St) (x : Int64) (y : Int32) : gfr d U (sI (sL U 22 0 x) 21 y) := ⟨fun k h _ => by rw [sI_1, if_neg h]; rfl, fun _ _ _ _ _ => rfl, fun _ _ => rfl, fun _ _ => ⟨rfl, rfl⟩⟩
theorem goes_s (f : Nat) (U : St) (x1 x2 x3 x4 x5 : Int32) : j_X7_goes (f + 1) U x1 x2 x3 x4 x5 = q_X7_goes_0 (j_X7_goes f) U x1 x2 x3 x4 x5 := rfl
theorem goes_all (hw : WF v) (hi : i < 12) (hpt : part < 1024) (hL : LawP v T rule part Pre E LE) (hW : WhP v T rule part i asks Pre E LE) : ∀ f d, nOf v + 1 - d < f → d ≤ nOf v + 1 → GRec v T rule part i asks Pre E d (j_X7_goes f)
  | 0, _, h, _ => absurd h (Nat.not_lt_zero _)
  | f + 1, d, h, hdn => by
    intro p s U hd hp hG hO hPre
    have hn := hw.2.1
    have hrc := goes_all hw hi hpt hL hW f (d + 1) (by omega) (by omega)
    have hdu := due_lt (v := v) hpt
    rw [goes_s]
    unfold q_X7_goes_0
    simp only [nm]
    rw [fa_and]
    have hiff : nI (p &&& due v part) = nI (due v part) ↔ sbB (due v part) p = true := by
      rw [nI_eq (Nat.lt_of_le_of_lt Nat.and_le_right (by omega)) (by omega), sb_and hdu]
    have loop : ∀ U0, gfr d U U0 → Pre d p s U0 → ∃ (U' : St) (rb : Bool), j_X7_goes_67 (j_X7_goes f) 100 U0 (nI i) (nI part) (nI (due v part)) (nI p) (nI d) 0 = some (if rb then 1 else 0, U') ∧ gfr d U U' ∧ LE d p s (nOf v) 0 U0 U' rb := by
      intro U0 hf hP0
      obtain ⟨U', rb, g1, g2, g3⟩ := goes_67 hw hi hpt hL hrc hd hp hG 100 (nOf v) 0 U0 (by omega) (by omega) (GO_gfr hw hG hO hf) hP0
      exact ⟨U', rb, g1, gfr_trans hf g2, g3⟩
    cases hb : sbB (due v part) p with
    | false =>
      rw [if_neg (fun z => by rw [hiff.mp z] at hb; cases hb)]
      obtain ⟨U', rb, g1, g2, g3⟩ := loop U (gfr_refl d U) hPre
      exact ⟨U', rb, g1, g2, hW.1 d p s U U' rb hd hb g3⟩
    | true =>
      rw [if_pos (hiff.mpr hb)]
      have h23 : (sL U 22 0 (U.2.2 22 0 + 1)).1 23 = asks := hO.2.2.2.2
      have h24 : (sL U 22 0 (U.2.2 22 0 + 1)).1 24 = U.1 24 := rfl
      rw [h23, h24]
      rcases hW.2 d p s U hd hp hb hG hO hPre with ⟨z, hE⟩ | ⟨z, hP1, hE⟩ | ⟨z, U0, e1, e2, hP2, hE⟩
      · rw [if_pos z]
        exact ⟨_, true, rfl, gfr_found d U _ _, hE⟩
      · rw [z, if_neg (show ¬ (1 : Int32) = 0 by decide), if_neg (show ¬ (1 : Int32) = 2 by decide)]
        obtain ⟨U', rb, g1, g2, g3⟩ := loop _ (gfr_many d U _) hP1
        exact ⟨U', rb, g1, g2, hE U' rb g3⟩
      · rw [z, if_neg (show ¬ (2 : Int32) = 0 by decide), if_pos rfl]
        obtain ⟨U', rb, g1, g2, g3⟩ := loop U0 e2 hP2
        refine ⟨U', rb, ?_, g2, hE U' rb g3⟩
        rw [← g1]
        by_cases c : ((nI p >>> ((U.1 24) &&& 31)) &&& (1 : Int32)) = 1
        · rw [if_pos c] at e1
          rw [if_pos c, e1]
          rfl
        · rw [if_neg c] at e1
          rw [if_neg c]
          cases e1
          rfl
end GOES
