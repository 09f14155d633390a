/-! ===== the reference collects ===== -/
section FILLR
variable {v : HVT} {T : TbT} {rule tg : Nat}
/-- the target's answer as it stands in the row below d -/
def told (tg d : Nat) (U : St) (z : Int32) : Prop := ∃ q0, q0 < d ∧ U.2.1 18 q0 = nI tg ∧ (∀ q, q < q0 → U.2.1 18 q ≠ nI tg) ∧ z = U.2.1 19 q0
theorem told_congr {d : Nat} {U U' : St} {z : Int32} (h : ∀ q, q < d → U'.2.1 18 q = U.2.1 18 q ∧ U'.2.1 19 q = U.2.1 19 q) : told tg d U' z ↔ told tg d U z := by
  constructor
  · rintro ⟨q0, h1, h2, h3, h4⟩
    refine ⟨q0, h1, by rw [← (h q0 h1).1]; exact h2, fun q hq => by rw [← (h q (by omega)).1]; exact h3 q hq, by rw [h4, (h q0 h1).2]⟩
  · rintro ⟨q0, h1, h2, h3, h4⟩
    refine ⟨q0, h1, by rw [(h q0 h1).1]; exact h2, fun q hq => by rw [(h q (by omega)).1]; exact h3 q hq, by rw [h4, (h q0 h1).2]⟩
theorem told_one {d : Nat} {U : St} {z z' : Int32} (h : told tg d U z) (h' : told tg d U z') : z = z' := by
  obtain ⟨q0, h1, h2, h3, h4⟩ := h
  obtain ⟨q1, g1, g2, g3, g4⟩ := h'
  rcases Nat.lt_trichotomy q0 q1 with c | c | c
  · exact absurd h2 (g3 q0 c)
  · rw [h4, g4, c]
  · exact absurd g2 (h3 q1 c)
def FA (v : HVT) (T : TbT) (rule tg : Nat) (U : St) (m : Nat) : Prop := FN6 U m ∧ ∀ z, mem (U.2.1 25) m z → FzA v T rule tg z
/-- what a search from here on tells -/
def Gz (v : HVT) (T : TbT) (rule tg d p : Nat) (s : Sg) (U : St) (z : Int32) : Prop := (p.testBit tg = true ∧ Wv v T rule (2 ^ nOf v - 1) p s ≠ 0 ∧ told tg d U z) ∨ (p.testBit tg = false ∧ FS v T rule tg p s z)
def Hz (v : HVT) (T : TbT) (rule tg d p : Nat) (s : Sg) (k c : Nat) (U : St) (z : Int32) : Prop := (p.testBit tg = true ∧ (∃ q, c ≤ q ∧ q < c + k ∧ gW v T rule (2 ^ nOf v - 1) p s q ≠ 0) ∧ told tg d U z) ∨ (p.testBit tg = false ∧ HC v T rule tg p s k c z)
def PreF (v : HVT) (T : TbT) (rule tg : Nat) : Nat → Nat → Sg → St → Prop := fun d p s U => U.1 24 = nI tg ∧ d + fr (nOf v) p = nOf v ∧ (∃ m, FA v T rule tg U m) ∧ (p.testBit tg = true → ∃ x, told tg d U x ∧ (Wv v T rule (2 ^ nOf v - 1) p s ≠ 0 → FzA v T rule tg x)) ∧ (p.testBit tg = false → (∀ q, q < d → U.2.1 18 q ≠ nI tg) ∧ ∀ y, FS v T rule tg p s y → FzA v T rule tg y)
def E2 (v : HVT) (T : TbT) (rule tg : Nat) : Nat → Nat → Sg → St → St → Bool → Prop := fun d p s U U' rb => rb = false ∧ ∀ m, FA v T rule tg U m → ∃ m', FA v T rule tg U' m' ∧ ∀ z, mem (U'.2.1 25) m' z ↔ mem (U.2.1 25) m z ∨ Gz v T rule tg d p s U z
def LE2 (v : HVT) (T : TbT) (rule tg : Nat) : Nat → Nat → Sg → Nat → Nat → St → St → Bool → Prop := fun d p s k c U U' rb => rb = false ∧ ∀ m, FA v T rule tg U m → ∃ m', FA v T rule tg U' m' ∧ ∀ z, mem (U'.2.1 25) m' z ↔ mem (U.2.1 25) m z ∨ Hz v T rule tg d p s k c U z
theorem FA_same {U U' : St} {m : Nat} (h : FA v T rule tg U m) (hs : sameF U U') : FA v T rule tg U' m := by
  unfold FA FN6 at h ⊢
  rw [hs.1, hs.2]
  exact h
theorem V_18 {d q c : Nat} {U U1 : St} {x : Int32} (h : cfr d U U1) (hq : q < d) : (sA (sA U1 18 d (nI c)) 19 d x).2.1 18 q = U.2.1 18 q ∧ (sA (sA U1 18 d (nI c)) 19 d x).2.1 19 q = U.2.1 19 q := by
  constructor
  · rw [sA_2, if_neg (fun z => absurd z.1 (by decide)), sA_2, if_neg (fun z => by omega), h.2.2.1 18 (by decide)]
  · rw [sA_2, if_neg (fun z => by omega), sA_2, if_neg (fun z => absurd z.1 (by decide)), h.2.2.1 19 (by decide)]
theorem V_at (d c : Nat) (U1 : St) (x : Int32) : (sA (sA U1 18 d (nI c)) 19 d x).2.1 18 d = nI c ∧ (sA (sA U1 18 d (nI c)) 19 d x).2.1 19 d = x := by
  constructor
  · rw [sA_2, if_neg (fun z => absurd z.1 (by decide)), sA_at]
  · rw [sA_at]
theorem told_V1 {d c : Nat} {U U1 : St} {x z : Int32} (h : cfr d U U1) (hc : c < 2 ^ 31) (ht : tg < 2 ^ 31) (e : c ≠ tg) : told tg (d + 1) (sA (sA U1 18 d (nI c)) 19 d x) z ↔ told tg d U z := by
  constructor
  · rintro ⟨q0, h1, h2, h3, h4⟩
    by_cases c1 : q0 = d
    · rw [c1, (V_at d c U1 x).1] at h2
      exact absurd h2 (nI_ne hc ht e)
    · have hq : q0 < d := by omega
      rw [(V_18 h hq).1] at h2
      rw [(V_18 h hq).2] at h4
      exact ⟨q0, hq, h2, fun q hq' => by rw [← (V_18 (c := c) (x := x) h (show q < d by omega)).1]; exact h3 q hq', h4⟩
  · rintro ⟨q0, h1, h2, h3, h4⟩
    exact ⟨q0, by omega, by rw [(V_18 h h1).1]; exact h2, fun q hq' => by rw [(V_18 h (show q < d by omega)).1]; exact h3 q hq', by rw [(V_18 h h1).2]; exact h4⟩
theorem told_V2 {d : Nat} {U U1 : St} {x z : Int32} (h : cfr d U U1) (hn : ∀ q, q < d → U.2.1 18 q ≠ nI tg) : told tg (d + 1) (sA (sA U1 18 d (nI tg)) 19 d x) z ↔ z = x := by
  constructor
  · rintro ⟨q0, h1, h2, h3, h4⟩
    by_cases c1 : q0 = d
    · rw [c1, (V_at d tg U1 x).2] at h4
      exact h4
    · rw [(V_18 h (show q0 < d by omega)).1] at h2
      exact absurd h2 (hn q0 (by omega))
  · intro e
    exact ⟨d, by omega, (V_at d tg U1 x).1, fun q hq => by rw [(V_18 h hq).1]; exact hn q hq, by rw [(V_at d tg U1 x).2]; exact e⟩
/-- what call c brings, as the reference sees it -/
theorem Gz_V {d p c : Nat} {s : Sg} {U U1 : St} (hw : WF v) (htg : tg < nOf v) (hc : c < nOf v) (hf : fit v T rule (2 ^ nOf v - 1) c p s = true) (h : cfr d U U1) (hP : PreF v T rule tg d p s U) (k : Nat) (z : Int32) : (Gz v T rule tg (d + 1) (p ||| 2 ^ c) (nxt v T c s) (sA (sA U1 18 d (nI c)) 19 d (rpl v T c s)) z ∨ Hz v T rule tg d p s k (c + 1) U z) ↔ Hz v T rule tg d p s (k + 1) c U z := by
  have hn := hw.2.1
  have hg0 : gW v T rule (2 ^ nOf v - 1) p s c = Wv v T rule (2 ^ nOf v - 1) (p ||| 2 ^ c) (nxt v T c s) := if_pos hf
  unfold Gz Hz
  cases hb : p.testBit tg with
  | true =>
    have e : c ≠ tg := fun z => by
      have := fit_p hf
      rw [z, hb] at this
      cases this
    have hb1 : (p ||| 2 ^ c).testBit tg = true := by rw [tb_or, hb]; rfl
    rw [hb1, told_V1 h (by omega) (by omega) e]
    constructor
    · rintro ((⟨-, z1, z2⟩ | ⟨z1, -⟩) | (⟨-, ⟨q, q1, q2, q3⟩, z2⟩ | ⟨z1, -⟩))
      · exact Or.inl ⟨rfl, ⟨c, Nat.le_refl c, by omega, by rw [hg0]; exact z1⟩, z2⟩
      · cases z1
      · exact Or.inl ⟨rfl, ⟨q, by omega, by omega, q3⟩, z2⟩
      · cases z1
    · rintro (⟨-, ⟨q, q1, q2, q3⟩, z2⟩ | ⟨z1, -⟩)
      · by_cases e2 : q = c
        · rw [e2, hg0] at q3
          exact Or.inl (Or.inl ⟨rfl, q3, z2⟩)
        · exact Or.inr (Or.inl ⟨rfl, ⟨q, by omega, by omega, q3⟩, z2⟩)
      · cases z1
  | false =>
    by_cases e : c = tg
    · subst e
      have hb1 : (p ||| 2 ^ c).testBit c = true := tb_or_self p c
      rw [hb1, told_V2 h (hP.2.2.2.2 hb).1, HC_s]
      constructor
      · rintro ((⟨-, z1, z2⟩ | ⟨z1, -⟩) | (⟨z1, -⟩ | ⟨-, z1⟩))
        · exact Or.inr ⟨rfl, Or.inl ⟨hf, Or.inl ⟨rfl, z1, z2⟩⟩⟩
        · cases z1
        · cases z1
        · exact Or.inr ⟨rfl, Or.inr z1⟩
      · rintro (⟨z1, -⟩ | ⟨-, z1 | z1⟩)
        · cases z1
        · rcases z1.2 with w | w
          · exact Or.inl (Or.inl ⟨rfl, w.2.1, w.2.2⟩)
          · exact absurd rfl w.1
        · exact Or.inr (Or.inr ⟨rfl, z1⟩)
    · have hb1 : (p ||| 2 ^ c).testBit tg = false := by rw [tb_or_ne (fun z => e z.symm)]; exact hb
      rw [hb1, HC_s]
      constructor
      · rintro ((⟨z1, -⟩ | ⟨-, z1⟩) | (⟨z1, -⟩ | ⟨-, z1⟩))
        · cases z1
        · exact Or.inr ⟨rfl, Or.inl ⟨hf, Or.inr ⟨e, z1⟩⟩⟩
        · cases z1
        · exact Or.inr ⟨rfl, Or.inr z1⟩
      · rintro (⟨z1, -⟩ | ⟨-, z1 | z1⟩)
        · cases z1
        · rcases z1.2 with w | w
          · exact absurd w.1 e
          · exact Or.inl (Or.inr ⟨rfl, w.2⟩)
        · exact Or.inr (Or.inr ⟨rfl, z1⟩)
theorem Hz_told {d p k c : Nat} {s : Sg} {U U' : St} (h : ∀ q, q < d → U'.2.1 18 q = U.2.1 18 q ∧ U'.2.1 19 q = U.2.1 19 q) (z : Int32) : Hz v T rule tg d p s k c U' z ↔ Hz v T rule tg d p s k c U z := by
  unfold Hz
  rw [told_congr h]
theorem Hz_skip {d p k c : Nat} {s : Sg} {U : St} (hf : fit v T rule (2 ^ nOf v - 1) c p s = false) (z : Int32) : Hz v T rule tg d p s k (c + 1) U z ↔ Hz v T rule tg d p s (k + 1) c U z := by
  unfold Hz
  rw [HC_s]
  have hg0 : gW v T rule (2 ^ nOf v - 1) p s c = 0 := if_neg (by rw [hf]; exact Bool.false_ne_true)
  constructor
  · rintro (⟨z1, ⟨q, q1, q2, q3⟩, z2⟩ | ⟨z1, z2⟩)
    · exact Or.inl ⟨z1, ⟨q, by omega, by omega, q3⟩, z2⟩
    · exact Or.inr ⟨z1, Or.inr z2⟩
  · rintro (⟨z1, ⟨q, q1, q2, q3⟩, z2⟩ | ⟨z1, z2 | z2⟩)
    · by_cases e : q = c
      · rw [e] at q3
        exact absurd hg0 q3
      · exact Or.inl ⟨z1, ⟨q, by omega, by omega, q3⟩, z2⟩
    · have := z2.1
      rw [hf] at this
      cases this
    · exact Or.inr ⟨z1, z2⟩
theorem PreF_keep {d p : Nat} {s : Sg} {U U' : St} (h : PreF v T rule tg d p s U) (h24 : U'.1 24 = U.1 24) (h18 : ∀ q, q < d → U'.2.1 18 q = U.2.1 18 q ∧ U'.2.1 19 q = U.2.1 19 q) (hA : ∃ m, FA v T rule tg U' m) : PreF v T rule tg d p s U' := by
  obtain ⟨h1, h2, -, h4, h5⟩ := h
  refine ⟨h24.trans h1, h2, hA, fun hb => ?_, fun hb => ⟨fun q hq => by rw [(h18 q hq).1]; exact (h5 hb).1 q hq, (h5 hb).2⟩⟩
  obtain ⟨x, x1, x2⟩ := h4 hb
  exact ⟨x, (told_congr h18).mpr x1, x2⟩
theorem V_sameF {d c : Nat} {U U1 : St} {x : Int32} (h : cfr d U U1) : sameF U (sA (sA U1 18 d (nI c)) 19 d x) := sameF_t (sameF_c h) (sameF_18 U1 d _ _)
theorem PreF_V {d p c : Nat} {s : Sg} {U U1 : St} (hw : WF v) (htg : tg < nOf v) (hc : c < nOf v) (hf : fit v T rule (2 ^ nOf v - 1) c p s = true) (h : cfr d U U1) (hP : PreF v T rule tg d p s U) : PreF v T rule tg (d + 1) (p ||| 2 ^ c) (nxt v T c s) (sA (sA U1 18 d (nI c)) 19 d (rpl v T c s)) := by
  have hn := hw.2.1
  obtain ⟨h1, h2, ⟨m, h3⟩, h4, h5⟩ := id hP
  have hfr := fr_in (fit_p hf) (nOf v) hc
  have hW : Wv v T rule (2 ^ nOf v - 1) (p ||| 2 ^ c) (nxt v T c s) ≠ 0 → Wv v T rule (2 ^ nOf v - 1) p s ≠ 0 := fun z => (Wv_pos v T rule (2 ^ nOf v - 1) p s).mpr (Or.inr ⟨c, hc, hf, z⟩)
  refine ⟨?_, by omega, ⟨m, FA_same h3 (V_sameF h)⟩, fun hb => ?_, fun hb => ?_⟩
  · show U1.1 24 = _
    rw [h.1]
    exact h1
  · by_cases e : c = tg
    · subst e
      have hb0 := fit_p hf
      refine ⟨rpl v T c s, (told_V2 h (h5 hb0).1).mpr rfl, fun z => (h5 hb0).2 _ ((FS_iff v T rule c p s _).mpr ⟨c, hc, hf, Or.inl ⟨rfl, z, rfl⟩⟩)⟩
    · rw [tb_or_ne (fun z => e z.symm)] at hb
      obtain ⟨x, x1, x2⟩ := h4 hb
      exact ⟨x, (told_V1 h (by omega) (by omega) e).mpr x1, fun z => x2 (hW z)⟩
  · have e : c ≠ tg := fun z => by
      rw [z, tb_or_self] at hb
      cases hb
    rw [tb_or_ne (fun z => e z.symm)] at hb
    refine ⟨fun q hq => ?_, fun y hy => (h5 hb).2 y ((FS_iff v T rule tg p s y).mpr ⟨c, hc, hf, Or.inr ⟨e, hy⟩⟩)⟩
    by_cases c1 : q = d
    · rw [c1, (V_at d c U1 _).1]
      exact nI_ne (by omega) (by omega) e
    · rw [(V_18 h (show q < d by omega)).1]
      exact (h5 hb).1 q (by omega)
theorem LawP_2 (hw : WF v) (htg : tg < nOf v) : LawP v T rule (2 ^ nOf v - 1) (PreF v T rule tg) (E2 v T rule tg) (LE2 v T rule tg) := by
  refine ⟨fun d p s c U => ⟨rfl, fun m h => ⟨m, h, fun z => ⟨Or.inl, fun w => w.elim id (fun w => ?_)⟩⟩⟩, fun d p s k c U U1 U' rb hc hf h1 h2 => ⟨h2.1, fun m hm => ?_⟩, fun d p s k c U U1 U2 hc hf h1 _ _ h2 => ?_, fun d p s k c U U1 U2 U' rb hc hf h1 hP hg h2 h3 => ⟨h3.1, fun m hm => ?_⟩, fun d p s U U1 hP h => ?_, fun d p s c U U1 U2 hc hf h1 hP hg h2 => ?_, fun d p s c U U1 hc hf _ h1 hP => PreF_V hw htg hc hf h1 hP⟩
  · rcases w with ⟨_, ⟨q, q1, q2, _⟩, _⟩ | ⟨_, w⟩
    · omega
    · exact absurd w HC_0
  · obtain ⟨m', g1, g2⟩ := h2.2 m (FA_same hm (sameF_c h1))
    refine ⟨m', g1, fun z => ?_⟩
    rw [g2 z, (sameF_c h1).2, Hz_told (U := U) (U' := U1) (fun q _ => ⟨by rw [h1.2.2.1 18 (by decide)], by rw [h1.2.2.1 19 (by decide)]⟩), Hz_skip hf]
  · cases h2.1
  · obtain ⟨m1, g1, g2⟩ := h2.2 m (FA_same hm (V_sameF h1))
    obtain ⟨m2, e1, e2⟩ := h3.2 m1 g1
    refine ⟨m2, e1, fun z => ?_⟩
    have h18 : ∀ q, q < d → U2.2.1 18 q = U.2.1 18 q ∧ U2.2.1 19 q = U.2.1 19 q := fun q hq => by
      have a := hg.2.2.2 q (by omega)
      have b := V_18 (c := c) (x := rpl v T c s) h1 hq
      exact ⟨a.1.trans b.1, a.2.trans b.2⟩
    rw [e2 z, g2 z, Hz_told h18, or_assoc, Gz_V hw htg hc hf h1 hP, (V_sameF (c := c) (x := rpl v T c s) h1).2]
  · obtain ⟨m, hm⟩ := hP.2.2.1
    exact PreF_keep hP (by rw [h.1]) (fun q _ => ⟨by rw [h.2.2.1 18 (by decide)], by rw [h.2.2.1 19 (by decide)]⟩) ⟨m, FA_same hm (sameF_c h)⟩
  · obtain ⟨m, hm⟩ := hP.2.2.1
    obtain ⟨m1, g1, -⟩ := h2.2 m (FA_same hm (V_sameF h1))
    refine PreF_keep hP ?_ (fun q hq => ?_) ⟨m1, g1⟩
    · rw [hg.1 24 (by decide) (by decide)]
      show U1.1 24 = _
      rw [h1.1]
    · have a := hg.2.2.2 q (by omega)
      have b := V_18 (c := c) (x := rpl v T c s) h1 hq
      exact ⟨a.1.trans b.1, a.2.trans b.2⟩
theorem Wv_g {p : Nat} {s : Sg} (hb : sbB (due v (2 ^ nOf v - 1)) p = false) : Wv v T rule (2 ^ nOf v - 1) p s ≠ 0 ↔ ∃ q, 0 ≤ q ∧ q < 0 + nOf v ∧ gW v T rule (2 ^ nOf v - 1) p s q ≠ 0 := by
  rw [Wv_eq, hb, if_neg Bool.false_ne_true, Nat.zero_add]
  exact sF_pos (f := gW v T rule (2 ^ nOf v - 1) p s) (nOf v) 0
theorem WhP_2 {i : Nat} (hw : WF v) (hT : TQ v T) (htg : tg < nOf v) (hop : enB v tg = false) : WhP v T rule (2 ^ nOf v - 1) i 2 (PreF v T rule tg) (E2 v T rule tg) (LE2 v T rule tg) := by
  have hn := hw.2.1
  refine ⟨fun d p s U U' rb hd hb h => ⟨h.1, fun m hm => ?_⟩, fun d p s U hd hp hb hG hO hP => Or.inr (Or.inr ⟨rfl, ?_⟩)⟩
  · obtain ⟨m', g1, g2⟩ := h.2 m hm
    refine ⟨m', g1, fun z => ?_⟩
    rw [g2 z]
    unfold Hz Gz
    rw [Wv_g hb, HC_FS]
  · obtain ⟨h1, h2, ⟨m, h3⟩, h4, h5⟩ := id hP
    have hW : Wv v T rule (2 ^ nOf v - 1) p s ≠ 0 := (Wv_pos v T rule (2 ^ nOf v - 1) p s).mpr (Or.inl hb)
    rw [h1, bit_at (show p < 2 ^ 31 by omega) (show tg < 31 by omega)]
    cases hbt : p.testBit tg with
    | false =>
      rw [if_neg (show ¬ (if false = true then (1 : Int32) else 0) = 1 by decide)]
      refine ⟨_, rfl, gfr_many d U _, PreF_keep hP rfl (fun _ _ => ⟨rfl, rfl⟩) ⟨m, h3⟩, fun U' rb h => ⟨h.1, fun m hm => ?_⟩⟩
      obtain ⟨m', g1, g2⟩ := h.2 m hm
      refine ⟨m', g1, fun z => (g2 z).trans ?_⟩
      show _ ∨ Hz v T rule tg d p s (nOf v) 0 U z ↔ _ ∨ Gz v T rule tg d p s U z
      unfold Hz Gz
      rw [hbt, HC_FS]
      simp
      rfl
    | true =>
      rw [if_pos (show (if true = true then (1 : Int32) else 0) = 1 from rfl)]
      obtain ⟨x, hx, hx2⟩ := h4 hbt
      obtain ⟨q0, q1, q2, q3, q4⟩ := id hx
      have hxF := hx2 hW
      rw [q4] at hxF
      obtain ⟨U0, m0, f1, f2, f3, f4⟩ := fillR (U := sL U 22 0 (U.2.2 22 0 + 1)) (q0 := q0) (m := m) (x := nI d) (by omega) (q2.trans h1.symm) (fun q hq => by
        show U.2.1 18 q ≠ U.1 24
        rw [h1]
        exact q3 q hq) (fills_64 (rule := rule) hw hT htg hop h3.1.2 h3.2) h3.1 (full_ok (rule := rule) hw hT htg hop h3.1.2 h3.2 hxF)
      have h18 : ∀ q, q < d → U0.2.1 18 q = U.2.1 18 q ∧ U0.2.1 19 q = U.2.1 19 q := fun q _ => ⟨by rw [f4.2.1 18 (by decide)]; rfl, by rw [f4.2.1 19 (by decide)]; rfl⟩
      have hA0 : FA v T rule tg U0 m0 := ⟨f2, fun z hz => by
        rcases (f3 z).mp hz with w | w
        · rw [w]
          exact hxF
        · exact h3.2 z w⟩
      refine ⟨U0, f1, ⟨fun k _ hk => f4.1 k hk, fun k _ _ _ hk => f4.2.1 k hk, fun q _ => by rw [f4.2.1 17 (by decide)]; rfl, h18⟩, PreF_keep hP (f4.1 24 (by decide)) h18 ⟨m0, hA0⟩, fun U' rb h => ⟨h.1, fun m' hm' => ?_⟩⟩
      have em : m' = m := by
        have := hm'.1.1.symm.trans h3.1.1
        have l1 := fills_64 (rule := rule) hw hT htg hop hm'.1.2 hm'.2
        have l2 := fills_64 (rule := rule) hw hT htg hop h3.1.2 h3.2
        exact (nI_eq (by omega) (by omega)).mp this
      subst em
      obtain ⟨m2, g1, g2⟩ := h.2 m0 hA0
      refine ⟨m2, g1, fun z => ?_⟩
      rw [g2 z, f3 z, Hz_told h18]
      unfold Hz Gz
      rw [hbt]
      constructor
      · rintro ((z1 | z1) | (⟨-, -, z1⟩ | ⟨z1, -⟩))
        · refine Or.inr (Or.inl ⟨rfl, hW, ?_⟩)
          rw [z1]
          exact ⟨q0, q1, q2, q3, rfl⟩
        · exact Or.inl z1
        · exact Or.inr (Or.inl ⟨rfl, hW, z1⟩)
        · cases z1
      · rintro (z1 | ⟨-, -, z1⟩ | ⟨z1, -⟩)
        · exact Or.inl (Or.inr z1)
        · refine Or.inl (Or.inl ?_)
          rw [told_one z1 hx, q4]
          rfl
        · cases z1
end FILLR
theorem fillsR {U : St} {v : HVT} {T : TbT} {i rule tg : Nat} (hr : RR U i v) (hw : WF v) (hT : TU v T U i) (hi : i < 12) (hru : rule < 3) (htg : tg < nOf v) (hop : enB v tg = false) : ∃ (U1 U' : St) (m : Nat), j_X7_prepare U (nI i) (nI rule) (nI (2 ^ nOf v - 1)) = some U1 ∧ RR (sI (sI (sI U1 23 2) 24 (nI tg)) 26 0) i v ∧ j_X7_goes 12 (sI (sI (sI U1 23 2) 24 (nI tg)) 26 0) (nI i) (nI (2 ^ nOf v - 1)) (nI (due v (2 ^ nOf v - 1))) 0 0 = some (0, U') ∧ FN6 U' m ∧ (∀ y, mem (U'.2.1 25) m y ↔ FzA v T rule tg y) ∧ (∀ k, k ≠ 21 → k ≠ 23 → k ≠ 24 → k ≠ 26 → U'.1 k = U.1 k) ∧ (∀ k, k ≠ 17 → k ≠ 18 → k ≠ 19 → k ≠ 20 → k ≠ 25 → U'.2.1 k = U.2.1 k) := by
  have hn := hw.2.1
  obtain ⟨U1, g1, g2, g3, -⟩ := prepG 2 hr hw hT hi hru (all_lt hn)
  have hO : GO v T rule (2 ^ nOf v - 1) i 2 (sI (sI (sI U1 23 2) 24 (nI tg)) 26 0) 0 (s0 v) := g2
  have h0 : ∀ y, ¬ mem ((sI (sI (sI U1 23 2) 24 (nI tg)) 26 0).2.1 25) 0 y := fun y ⟨q, z, _⟩ => absurd z (Nat.not_lt_zero q)
  have hA : FA v T rule tg (sI (sI (sI U1 23 2) 24 (nI tg)) 26 0) 0 := ⟨⟨rfl, fun q r _ z => absurd z (Nat.not_lt_zero r)⟩, fun z hz => absurd hz (h0 z)⟩
  have hP : PreF v T rule tg 0 0 (s0 v) (sI (sI (sI U1 23 2) 24 (nI tg)) 26 0) := ⟨rfl, by rw [fr_0]; omega, ⟨0, hA⟩, fun z => absurd z (by rw [Nat.zero_testBit]; decide), fun _ => ⟨fun q hq => absurd hq (Nat.not_lt_zero q), fun y hy => hy⟩⟩
  obtain ⟨U2, rb, e1, e2, e3⟩ := goes_all hw hi (all_lt hn) (LawP_2 hw htg) (WhP_2 (i := i) hw hT.tq htg hop) 12 0 (by omega) (by omega) 0 (s0 v) _ (by rw [fr_0]; omega) (by decide) (Gd_0 hw) hO hP
  obtain ⟨m, f1, f2⟩ := e3.2 0 hA
  have r1 : RR (sI U1 23 2) i v := RR_rfr hr g3
  refine ⟨U1, U2, m, g1, r1, ?_, f1.1, fun y => ?_, fun k a1 a2 a3 a4 => ?_, fun k a1 a2 a3 a4 a5 => ?_⟩
  · rw [e3.1] at e1
    exact e1
  · rw [f2 y]
    unfold Gz FzA
    rw [Nat.zero_testBit]
    constructor
    · rintro (z | ⟨z, -⟩ | ⟨-, z⟩)
      · exact absurd z (h0 y)
      · cases z
      · exact z
    · exact fun z => Or.inr (Or.inr ⟨rfl, z⟩)
  · rw [e2.1 k a1 a4, sI_1, if_neg a4, sI_1, if_neg a3]
    exact g3.1 k a1 a2
  · rw [e2.2.1 k a1 a2 a3 a5]
    exact g3.2 k a1 a2 a3 a4
theorem fc_fills : Fc_fills Iv := by
  intro a1 a2 a3 k0 hk0 t gs hs kt tu tq nT nH U h
  have h' := fc_M k0 hk0 _ _ _ _ _ _ _ _ _ h
  obtain ⟨c1, c2, c3, c4, c5, c6⟩ := h.1
  refine ⟨fun i hi hh a6 sh => ?_, fun hn => ?_⟩
  · subst hh
    obtain ⟨v, v1, v2, v3, v4⟩ := h.2.2.2.2.1 i hi
    have hn10 := v3.2.1
    have hcr : CR (mrg gs (hs i)) v := v1
    have hT := TU_of h v4
    obtain ⟨ag, g1, g2⟩ := AG_of h i
    have bad : ∀ r : Int32, j_X6_fills_Y (Tq tq (kt i)) a6 t (mrg gs (hs i)) sh (nI i) a2 a3 = some (r, t, mrg gs (hs i), sh) → j_X7_fills U (nI i) a2 a3 = some (r, U) → ∃ (r : Int32) (t' : Nat → Int32) (u' : St) (sh' : Nat) (U' : St), j_X6_fills_Y (Tq tq (kt i)) a6 t (mrg gs (hs i)) sh (nI i) a2 a3 = some (r, t', u', sh') ∧ j_X7_fills U (nI i) a2 a3 = some (r, U') ∧ Iv (k0 + 6) t' u' (fun k => if k = i then u' else hs k) kt tu tq nT nH U' :=
      fun r e1 e2 => ⟨r, t, _, sh, U, e1, e2, Iv_mrg i h'⟩
    rcases FN_or (nOf v) (by omega) a3 with hf | ⟨tg, htg, rfl⟩
    · refine bad (-1) ?_ (by unfold j_X7_fills; rw [isCall_N c4 hi c2 v2.2.1 hf hn10]; rfl)
      unfold j_X6_fills_Y
      rcases isRule_or a2 with ⟨-, r1, r2⟩ | ⟨rule, hru, rfl, r1, r2⟩
      · rw [r1]
        rfl
      · rw [r1, b1, hasCall_N hcr.2.1 hf]
        rfl
    · have hY := isCall_Y c4 hi c2 v2.2.1 htg hn10
      rcases isRule_or a2 with ⟨-, r1, r2⟩ | ⟨rule, hru, rfl, r1, r2⟩
      · exact bad (-1) (by unfold j_X6_fills_Y; rw [r1]; rfl) (by unfold j_X7_fills; rw [hY, b1, r2]; rfl)
      · have e0 := en_0 v3 tg
        have o1 := isOpen_c hcr.2.1 htg hn10
        have o2 := isOpen_r (U := U) (show i < 12 by omega) (show tg < 10 by omega)
        rw [(hcr.2.2.2 tg (by omega)).2.2.2.2.2.1] at o1
        rw [(v2.2.2.2 tg htg).2.2.2.2.2.1] at o2
        cases hop : enB v tg with
        | true =>
          have hne : ¬ nI (enOf v tg) = 0 := fun z => by rw [e0.mp z] at hop; cases hop
          rw [if_neg hne] at o1 o2
          exact bad (-3) (by unfold j_X6_fills_Y; rw [r1, b1, hasCall_Y hcr.2.1 htg hn10, b1, o1]; rfl) (by unfold j_X7_fills; rw [hY, b1, r2, b1, o2]; rfl)
        | false =>
          rw [if_pos (e0.mpr hop)] at o1 o2
          obtain ⟨u1, m, x1, x2, x3, x4, x5⟩ := collectC (T := Tq tq (kt i)) hcr v3 hT.tq hru htg hop g2 (by omega)
          obtain ⟨U1, U2, m', y1, y2, y3, y4, y5, y6, y7⟩ := fillsR v2 v3 hT (show i < 12 by omega) hru htg hop
          obtain ⟨em, ea⟩ := SA_same x3.2 y4.2 (fun y => (x4 y).trans (y5 y).symm)
          have hm64 : m ≤ 64 := fills_64 (rule := rule) v3 hT.tq htg hop x3.2 (fun y hy => (x4 y).mp hy)
          refine ⟨nI m, t, u1, a6, U2, ?_, ?_, ?_⟩
          · show j_X6_fills_Y (Tq tq (kt i)) a6 t (mrg gs (hs i)) sh (nI i) (nI rule) (nI tg) = _
            unfold j_X6_fills_Y
            rw [r1, b1, hasCall_Y hcr.2.1 htg hn10, b1, o1, b1, x1, Option.bind_some, x3.1]
          · show j_X7_fills U (nI i) (nI rule) (nI tg) = _
            unfold j_X7_fills
            rw [hY, b1, r2, b1, o2, b1, all_r v2.2.1 (by omega) hn10, Option.bind_some, y1, Option.bind_some]
            simp only [nm]
            rw [all_r y2.2.1 (by omega) hn10, Option.bind_some, Option.bind_some, due_r y2 v3 (by omega) (all_lt hn10), Option.bind_some, y3]
            show some (U2.1 26, U2) = _
            rw [y4.1, ← em]
          · obtain ⟨hC, hS, hF, hTT, hH, hM⟩ := h
            have u32 : u1.2.1 32 = gs.2.1 32 := x5.2 32 (by decide) (by decide) (by decide)
            have I := y6
            have R := y7
            refine ⟨?_, ?_, ⟨m, hm64, x3.1, by rw [em]; exact y4.1, ea⟩, ?_, fun j hj => ?_, ⟨ag + 1, by omega, x2⟩⟩
            · unfold iC at hC ⊢
              rw [I 3 (by decide) (by decide) (by decide) (by decide), I 4 (by decide) (by decide) (by decide) (by decide), I 16 (by decide) (by decide) (by decide) (by decide), I 27 (by decide) (by decide) (by decide) (by decide)]
              exact hC
            · unfold iS at hS ⊢
              rw [I 29 (by decide) (by decide) (by decide) (by decide), R 28 (by decide) (by decide) (by decide) (by decide) (by decide), u32]
              exact hS
            · unfold iT at hTT ⊢
              rw [R 1 (by decide) (by decide) (by decide) (by decide) (by decide), R 2 (by decide) (by decide) (by decide) (by decide) (by decide)]
              exact hTT
            · obtain ⟨w, w1, w2, w3, w4⟩ := hH j hj
              refine ⟨w, ?_, ?_, w3, by rw [R 6 (by decide) (by decide) (by decide) (by decide) (by decide)]; exact w4⟩
              · dsimp only
                by_cases e : j = i
                · rw [if_pos e]
                  rw [e] at w1
                  have w1' : CR (mrg gs (hs i)) w := w1
                  obtain ⟨z1, z2⟩ := x5
                  unfold CR at w1' ⊢
                  rw [z1 0 (by decide) (by decide) (by decide) (by decide) (by decide), z1 2 (by decide) (by decide) (by decide) (by decide) (by decide), z1 3 (by decide) (by decide) (by decide) (by decide) (by decide), z2 4 (by decide) (by decide) (by decide), z2 5 (by decide) (by decide) (by decide), z2 6 (by decide) (by decide) (by decide), z2 7 (by decide) (by decide) (by decide), z2 8 (by decide) (by decide) (by decide), z2 9 (by decide) (by decide) (by decide), z2 10 (by decide) (by decide) (by decide)]
                  exact w1'
                · rw [if_neg e]
                  exact w1
              · unfold RR at w2 ⊢
                rw [R 5 (by decide) (by decide) (by decide) (by decide) (by decide), R 7 (by decide) (by decide) (by decide) (by decide) (by decide), R 8 (by decide) (by decide) (by decide) (by decide) (by decide), R 9 (by decide) (by decide) (by decide) (by decide) (by decide), R 10 (by decide) (by decide) (by decide) (by decide) (by decide), R 11 (by decide) (by decide) (by decide) (by decide) (by decide), R 12 (by decide) (by decide) (by decide) (by decide) (by decide), R 13 (by decide) (by decide) (by decide) (by decide) (by decide), R 14 (by decide) (by decide) (by decide) (by decide) (by decide), R 15 (by decide) (by decide) (by decide) (by decide) (by decide)]
                exact w2
  · exact ⟨-1, t, U, rfl, by
      show j_X7_fills U a1 a2 a3 = _
      unfold j_X7_fills
      rw [isCall_NN c4 hn c2]
      rfl, h'⟩
