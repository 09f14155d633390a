/-! ===== counting, and the first order ===== -/
def gW (v : HVT) (T : TbT) (rule part p : Nat) (s : Sg) : Nat → Nat := fun c => if fit v T rule part c p s then Wv v T rule part (p ||| 2 ^ c) (nxt v T c s) else 0
def sameF (U U' : St) : Prop := U'.1 26 = U.1 26 ∧ U'.2.1 25 = U.2.1 25
theorem sameF_c {d : Nat} {U U1 : St} (h : cfr d U U1) : sameF U U1 := ⟨by rw [h.1], h.2.2.1 25 (by decide)⟩
theorem sameF_t {a b c : St} (h : sameF a b) (h2 : sameF b c) : sameF a c := ⟨h2.1.trans h.1, h2.2.trans h.2⟩
theorem sameF_18 (U : St) (d : Nat) (x y : Int32) : sameF U (sA (sA U 18 d x) 19 d y) := ⟨rfl, by
  funext q
  rw [sA_2, if_neg (fun z => absurd z.1 (by decide)), sA_2, if_neg (fun z => absurd z.1 (by decide))]⟩
def E1 (v : HVT) (T : TbT) (rule part : Nat) : Nat → Nat → Sg → St → St → Bool → Prop := fun _ p s U U' rb => rb = false ∧ U'.2.2 22 0 = U.2.2 22 0 + lN (Wv v T rule part p s) ∧ sameF U U'
def LE1 (v : HVT) (T : TbT) (rule part : Nat) : Nat → Nat → Sg → Nat → Nat → St → St → Bool → Prop := fun _ p s k c U U' rb => rb = false ∧ U'.2.2 22 0 = U.2.2 22 0 + lN (sF (gW v T rule part p s) k c) ∧ sameF U U'
theorem LawP_1 (v : HVT) (T : TbT) (rule part : Nat) : LawP v T rule part (fun _ _ _ _ => True) (E1 v T rule part) (LE1 v T rule part) := by
  refine ⟨fun d p s c U => ⟨rfl, ?_, rfl, rfl⟩, fun d p s k c U U1 U' rb hc hf h1 h2 => ⟨h2.1, ?_, sameF_t (sameF_c h1) h2.2.2⟩, fun d p s k c U U1 U2 hc hf h1 _ _ h2 => ?_, fun d p s k c U U1 U2 U' rb hc hf h1 _ _ h2 h3 => ⟨h3.1, ?_, sameF_t (sameF_t (sameF_t (sameF_c h1) (sameF_18 U1 d _ _)) h2.2.2) h3.2.2⟩, fun _ _ _ _ _ _ _ => trivial, fun _ _ _ _ _ _ _ _ _ _ _ _ _ => trivial, fun _ _ _ _ _ _ _ _ _ _ _ => trivial⟩
  · show _ = _ + lN 0
    rw [show lN 0 = 0 from rfl, Int64.add_zero]
  · rw [h2.2.1, h1.2.1]
    show _ = _ + lN (gW v T rule part p s c + sF (gW v T rule part p s) k (c + 1))
    rw [show gW v T rule part p s c = 0 from if_neg (by rw [hf]; exact Bool.false_ne_true), Nat.zero_add]
  · cases h2.1
  · rw [h3.2.1, h2.2.1]
    show U1.2.2 22 0 + _ + _ = _ + lN (gW v T rule part p s c + sF (gW v T rule part p s) k (c + 1))
    rw [show gW v T rule part p s c = Wv v T rule part (p ||| 2 ^ c) (nxt v T c s) from if_pos hf, ← lN_add, h1.2.1, Int64.add_assoc]
theorem WhP_1 (v : HVT) (T : TbT) (rule part i : Nat) : WhP v T rule part i 1 (fun _ _ _ _ => True) (E1 v T rule part) (LE1 v T rule part) := by
  refine ⟨fun d p s U U' rb _ hb h => ⟨h.1, ?_, h.2.2⟩, fun d p s U _ _ hb _ _ _ => Or.inr (Or.inl ⟨rfl, trivial, fun U' rb h => ⟨h.1, ?_, sameF_t ⟨rfl, rfl⟩ h.2.2⟩⟩)⟩
  · rw [h.2.1, Wv_eq, hb, if_neg Bool.false_ne_true, Nat.zero_add]
    rfl
  · rw [h.2.1, Wv_eq, hb, if_pos rfl]
    show (sL U 22 0 (U.2.2 22 0 + 1)).2.2 22 0 + lN (sF (gW v T rule part p s) (nOf v) 0) = U.2.2 22 0 + lN (1 + sF (gW v T rule part p s) (nOf v) 0)
    rw [sL_3, if_pos ⟨rfl, rfl⟩, ← lN_add, Int64.add_assoc]
    rfl
/-- the first call that leads on -/
def ff (v : HVT) (T : TbT) (rule part p : Nat) (s : Sg) : Nat → Nat → Option Nat
  | 0, _ => none
  | k + 1, c => if gW v T rule part p s c ≠ 0 then some c else ff v T rule part p s k (c + 1)
theorem ff_s (v : HVT) (T : TbT) (rule part p : Nat) (s : Sg) (k c : Nat) : ff v T rule part p s (k + 1) c = if gW v T rule part p s c ≠ 0 then some c else ff v T rule part p s k (c + 1) := rfl
theorem ff_some {v : HVT} {T : TbT} {rule part p : Nat} {s : Sg} : ∀ k c q, ff v T rule part p s k c = some q → c ≤ q ∧ q < c + k ∧ gW v T rule part p s q ≠ 0
  | 0, c, q, h => by cases h
  | k + 1, c, q, h => by
    rw [ff_s] at h
    by_cases e : gW v T rule part p s c ≠ 0
    · rw [if_pos e] at h
      cases h
      exact ⟨Nat.le_refl _, by omega, e⟩
    · rw [if_neg e] at h
      obtain ⟨h1, h2, h3⟩ := ff_some k (c + 1) q h
      exact ⟨by omega, by omega, h3⟩
theorem ff_none {v : HVT} {T : TbT} {rule part p : Nat} {s : Sg} : ∀ k c, ff v T rule part p s k c = none → ∀ q, c ≤ q → q < c + k → gW v T rule part p s q = 0
  | 0, c, _, q, h1, h2 => by omega
  | k + 1, c, h, q, h1, h2 => by
    rw [ff_s] at h
    by_cases e : gW v T rule part p s c ≠ 0
    · rw [if_pos e] at h
      cases h
    · rw [if_neg e] at h
      by_cases e2 : q = c
      · rw [e2]
        exact Decidable.not_not.mp e
      · exact ff_none k (c + 1) h q (by omega) (by omega)
theorem Wv_ff {v : HVT} {T : TbT} {rule part p : Nat} {s : Sg} (hb : sbB (due v part) p = false) : Wv v T rule part p s ≠ 0 ↔ (ff v T rule part p s (nOf v) 0).isSome = true := by
  rw [Wv_eq, hb, if_neg Bool.false_ne_true, Nat.zero_add]
  have h1 := sF_pos (f := gW v T rule part p s) (nOf v) 0
  refine h1.trans ?_
  cases hf : ff v T rule part p s (nOf v) 0 with
  | some q =>
    obtain ⟨z1, z2, z3⟩ := ff_some _ _ _ hf
    exact ⟨fun _ => rfl, fun _ => ⟨q, z1, z2, z3⟩⟩
  | none =>
    refine ⟨fun ⟨q, z1, z2, z3⟩ => absurd (ff_none _ _ hf q z1 z2) z3, fun z => by cases z⟩
/-- the first order from here on -/
def fp (v : HVT) (T : TbT) (rule part : Nat) : Nat → Nat → Sg → List Nat
  | 0, _, _ => []
  | f + 1, p, s => if sbB (due v part) p then [] else match ff v T rule part p s (nOf v) 0 with
    | none => []
    | some c => c :: fp v T rule part f (p ||| 2 ^ c) (nxt v T c s)
theorem fp_s (v : HVT) (T : TbT) (rule part f p : Nat) (s : Sg) : fp v T rule part (f + 1) p s = if sbB (due v part) p then [] else match ff v T rule part p s (nOf v) 0 with
    | none => []
    | some c => c :: fp v T rule part f (p ||| 2 ^ c) (nxt v T c s) := rfl
def FP (v : HVT) (T : TbT) (rule part p : Nat) (s : Sg) : List Nat := fp v T rule part (fr (nOf v) p) p s
theorem FP_w {v : HVT} {T : TbT} {rule part p : Nat} {s : Sg} (hb : sbB (due v part) p = true) : FP v T rule part p s = [] := by
  unfold FP
  cases fr (nOf v) p with
  | zero => rfl
  | succ f =>
    unfold fp
    rw [if_pos hb]
theorem FP_c {v : HVT} {T : TbT} {rule part p c : Nat} {s : Sg} (hb : sbB (due v part) p = false) (hf : ff v T rule part p s (nOf v) 0 = some c) : FP v T rule part p s = c :: FP v T rule part (p ||| 2 ^ c) (nxt v T c s) := by
  obtain ⟨-, h2, h3⟩ := ff_some _ _ _ hf
  have hfit : fit v T rule part c p s = true := by
    cases h : fit v T rule part c p s with
    | true => rfl
    | false => exact absurd (if_neg (by rw [h]; exact Bool.false_ne_true)) h3
  have hfr := fr_in (fit_p hfit) (nOf v) (by omega)
  unfold FP
  rw [← hfr, fp_s, hb, if_neg Bool.false_ne_true, hf]
def PathAt (U : St) (d : Nat) (l : List Nat) : Prop := U.1 21 = nI (d + l.length) ∧ ∀ q, q < l.length → U.2.1 18 (d + q) = nI (l.getD q 0)
def E0 (v : HVT) (T : TbT) (rule part : Nat) : Nat → Nat → Sg → St → St → Bool → Prop := fun d p s U U' rb => (rb = true ↔ Wv v T rule part p s ≠ 0) ∧ (rb = true → PathAt U' d (FP v T rule part p s)) ∧ sameF U U'
def LE0 (v : HVT) (T : TbT) (rule part : Nat) : Nat → Nat → Sg → Nat → Nat → St → St → Bool → Prop := fun d p s k c U U' rb => (rb = true ↔ (ff v T rule part p s k c).isSome = true) ∧ (∀ q, ff v T rule part p s k c = some q → PathAt U' d (q :: FP v T rule part (p ||| 2 ^ q) (nxt v T q s))) ∧ sameF U U'
theorem LawP_0 (v : HVT) (T : TbT) (rule part : Nat) : LawP v T rule part (fun _ _ _ _ => True) (E0 v T rule part) (LE0 v T rule part) := by
  refine ⟨fun d p s c U => ⟨⟨fun z => (by cases z), fun z => (by cases z)⟩, fun q z => (by cases z), rfl, rfl⟩, fun d p s k c U U1 U' rb hc hf h1 h2 => ?_, fun d p s k c U U1 U2 hc hf h1 _ hg h2 => ?_, fun d p s k c U U1 U2 U' rb hc hf h1 _ hg h2 h3 => ?_, fun _ _ _ _ _ _ _ => trivial, fun _ _ _ _ _ _ _ _ _ _ _ _ _ => trivial, fun _ _ _ _ _ _ _ _ _ _ _ => trivial⟩
  · have e : ff v T rule part p s (k + 1) c = ff v T rule part p s k (c + 1) := by
      rw [ff_s, if_neg (fun z => z (if_neg (by rw [hf]; exact Bool.false_ne_true)))]
    unfold LE0
    rw [e]
    exact ⟨h2.1, h2.2.1, sameF_t (sameF_c h1) h2.2.2⟩
  · have hg0 : gW v T rule part p s c = Wv v T rule part (p ||| 2 ^ c) (nxt v T c s) := if_pos hf
    have e : ff v T rule part p s (k + 1) c = some c := by
      rw [ff_s, if_pos (by rw [hg0]; exact h2.1.mp rfl)]
    unfold LE0
    rw [e]
    refine ⟨⟨fun _ => rfl, fun _ => rfl⟩, fun q hq => ?_, sameF_t (sameF_t (sameF_c h1) (sameF_18 U1 d _ _)) h2.2.2⟩
    cases hq
    obtain ⟨p1, p2⟩ := h2.2.1 rfl
    refine ⟨by rw [p1]; show _ = nI (d + (_ + 1)); congr 1; omega, fun q hq => ?_⟩
    cases q with
    | zero =>
      have := (hg.2.2.2 d (by omega)).1
      rw [Nat.add_zero, this, sA_2, if_neg (fun z => absurd z.1 (by decide)), sA_at]
      rfl
    | succ q =>
      have := p2 q (by
        have hq' : q + 1 < (FP v T rule part (p ||| 2 ^ c) (nxt v T c s)).length + 1 := hq
        omega)
      rw [show d + (q + 1) = d + 1 + q by omega, this]
      rfl
  · have hg0 : gW v T rule part p s c = Wv v T rule part (p ||| 2 ^ c) (nxt v T c s) := if_pos hf
    have e : ff v T rule part p s (k + 1) c = ff v T rule part p s k (c + 1) := by
      rw [ff_s, if_neg (fun z => by
        rw [hg0] at z
        have := h2.1.mpr z
        cases this)]
    unfold LE0
    rw [e]
    exact ⟨h3.1, h3.2.1, sameF_t (sameF_t (sameF_t (sameF_c h1) (sameF_18 U1 d _ _)) h2.2.2) h3.2.2⟩
theorem WhP_0 (v : HVT) (T : TbT) (rule part i : Nat) : WhP v T rule part i 0 (fun _ _ _ _ => True) (E0 v T rule part) (LE0 v T rule part) := by
  refine ⟨fun d p s U U' rb _ hb h => ⟨h.1.trans (Wv_ff hb).symm, fun hr => ?_, h.2.2⟩, fun d p s U _ _ hb _ _ _ => Or.inl ⟨rfl, ⟨fun _ => ?_, fun _ => rfl⟩, fun _ => ?_, rfl, rfl⟩⟩
  · have := h.1.mp hr
    cases hf : ff v T rule part p s (nOf v) 0 with
    | none =>
      rw [hf] at this
      cases this
    | some q =>
      rw [FP_c hb hf]
      exact h.2.1 q hf
  · rw [Wv_eq, hb, if_pos rfl]
    omega
  · rw [FP_w hb]
    exact ⟨rfl, fun q hq => absurd hq (Nat.not_lt_zero q)⟩
/-- nothing that the reference keeps differs -/
def rfr (U U' : St) : Prop := (∀ k, k ≠ 21 → k ≠ 23 → U'.1 k = U.1 k) ∧ ∀ k, k ≠ 17 → k ≠ 18 → k ≠ 19 → k ≠ 20 → U'.2.1 k = U.2.1 k
theorem rfr_refl (U : St) : rfr U U := ⟨fun _ _ _ => rfl, fun _ _ _ _ _ => rfl⟩
theorem rfr_trans {a b c : St} (h : rfr a b) (h2 : rfr b c) : rfr a c := ⟨fun k x y => (h2.1 k x y).trans (h.1 k x y), fun k x y z w => (h2.2 k x y z w).trans (h.2 k x y z w)⟩
theorem RR_rfr {U U' : St} {i : Nat} {v : HVT} (a1 : RR U i v) (hf : rfr U U') : RR U' i v := by
  have e := hf.2
  unfold RR at a1 ⊢
  rw [e 5 (by decide) (by decide) (by decide) (by decide), e 7 (by decide) (by decide) (by decide) (by decide), e 8 (by decide) (by decide) (by decide) (by decide), e 9 (by decide) (by decide) (by decide) (by decide), e 10 (by decide) (by decide) (by decide) (by decide), e 11 (by decide) (by decide) (by decide) (by decide), e 12 (by decide) (by decide) (by decide) (by decide), e 13 (by decide) (by decide) (by decide) (by decide), e 14 (by decide) (by decide) (by decide) (by decide), e 15 (by decide) (by decide) (by decide) (by decide)]
  exact a1
theorem TU_rfr {U U' : St} {i : Nat} {v : HVT} {T : TbT} (a2 : TU v T U i) (hf : rfr U U') : TU v T U' i := by
  have e := hf.2
  unfold TU at a2 ⊢
  rw [e 1 (by decide) (by decide) (by decide) (by decide), e 2 (by decide) (by decide) (by decide) (by decide), e 6 (by decide) (by decide) (by decide) (by decide)]
  exact a2
/-- the reference is prepared -/
theorem prepG {U : St} {v : HVT} {T : TbT} {i rule part : Nat} (asks : Int32) (hr : RR U i v) (hw : WF v) (hT : TU v T U i) (hi : i < 12) (hru : rule < 3) (hp : part < 1024) : ∃ U' : St, j_X7_prepare U (nI i) (nI rule) (nI part) = some U' ∧ GO v T rule part i asks (sI U' 23 asks) 0 (s0 v) ∧ rfr U (sI U' 23 asks) ∧ rfr U U' := by
  obtain ⟨U', g1, g2, g3, g4, g5, g6⟩ := prepR hr hw hi hru hp
  have f0 : rfr U U' := ⟨fun k _ _ => by rw [g2], fun k h1 _ _ h4 => g4 k h1 h4⟩
  have f1 : rfr U (sI U' 23 asks) := ⟨fun k h1 h2 => by rw [sI_1, if_neg h2, g2], fun k h1 _ _ h4 => g4 k h1 h4⟩
  refine ⟨U', g1, ⟨RR_rfr hr f1, TU_rfr hT f1, g5, ?_, rfl⟩, f1, f0⟩
  have ht : ∀ q, q < 12 → thU (sI U' 23 asks) 0 q = 0 := fun q hq => by
    show U'.2.1 17 (12 * 0 + q) = 0
    rw [Nat.mul_zero, Nat.zero_add]
    exact g6 q hq
  unfold s0
  refine ⟨fun _ => ht 0 (by decide), fun h => ?_, fun h => ?_, fun h q hq => ?_⟩
  · rw [if_neg (by omega)]
    exact ⟨ht 11 (by decide), fun q hq => absurd hq (Nat.not_lt_zero q)⟩
  · rw [if_neg (by omega)]
    exact ⟨ht 11 (by decide), fun q hq => absurd hq (Nat.not_lt_zero q)⟩
  · rw [if_pos h, ht q (by omega)]
    rcases (show q = 0 ∨ q = 1 ∨ q = 2 ∨ q = 3 by omega) with rfl | rfl | rfl | rfl <;> rfl
theorem gfr_rfr {U U' : St} (h : gfr 0 U U') (h2 : sameF U U') : rfr U U' := by
  refine ⟨fun k h1 h3 => ?_, fun k x y z w => ?_⟩
  · by_cases e : k = 26
    · rw [e]
      exact h2.1
    · exact h.1 k h1 e
  · by_cases e : k = 25
    · rw [e]
      exact h2.2
    · exact h.2.1 k x y z e
theorem takenR {U : St} {v : HVT} {T : TbT} {i rule part : Nat} (hr : RR U i v) (hw : WF v) (hT : TU v T U i) (hi : i < 12) (hru : rule < 3) (hp : part < 1024) : ∃ U' : St, j_X7_isTaken U (nI i) (nI rule) (nI part) = some (if tkB v T rule part then 1 else 0, U') ∧ rfr U U' ∧ (tkB v T rule part = true → PathAt U' 0 (FP v T rule part 0 (s0 v))) := by
  have hn := hw.2.1
  obtain ⟨U1, g1, g2, g3, -⟩ := prepG 0 hr hw hT hi hru hp
  have := goes_all hw hi hp (LawP_0 v T rule part) (WhP_0 v T rule part i) 12 0 (by omega) (by omega)
  obtain ⟨U2, rb, e1, e2, e3⟩ := this 0 (s0 v) (sI U1 23 0) (by rw [fr_0]; omega) (by decide) (Gd_0 hw) g2 trivial
  have hrb : rb = tkB v T rule part := by
    unfold tkB
    have := e3.1
    cases rb with
    | true => rw [decide_eq_true (this.mp rfl)]
    | false => rw [decide_eq_false (fun z => by have := this.mpr z; cases this)]
  refine ⟨U2, ?_, rfr_trans g3 (gfr_rfr e2 e3.2.2), fun h => e3.2.1 (hrb.trans h)⟩
  unfold j_X7_isTaken
  rw [g1, Option.bind_some]
  simp only [nm]
  rw [due_r (RR_rfr hr g3) hw hi hp, Option.bind_some]
  rw [show (j_X7_goes 12 (sI U1 23 0) (nI i) (nI part) (nI (due v part)) 0 0) = some (if rb then 1 else 0, U2) from e1, hrb]
  rfl
theorem ordersR {U : St} {v : HVT} {T : TbT} {i rule part : Nat} (hr : RR U i v) (hw : WF v) (hT : TU v T U i) (hi : i < 12) (hru : rule < 3) (hp : part < 1024) : ∃ U1 U' : St, j_X7_prepare U (nI i) (nI rule) (nI part) = some U1 ∧ RR (sL (sI U1 23 1) 22 0 0) i v ∧ j_X7_goes 12 (sL (sI U1 23 1) 22 0 0) (nI i) (nI part) (nI (due v part)) 0 0 = some (0, U') ∧ U'.2.2 22 0 = lN (Wv v T rule part 0 (s0 v)) ∧ rfr U U' := by
  have hn := hw.2.1
  obtain ⟨U1, g1, g2, g3, -⟩ := prepG 1 hr hw hT hi hru hp
  have := goes_all hw hi hp (LawP_1 v T rule part) (WhP_1 v T rule part i) 12 0 (by omega) (by omega)
  obtain ⟨U2, rb, e1, e2, e3⟩ := this 0 (s0 v) (sL (sI U1 23 1) 22 0 0) (by rw [fr_0]; omega) (by decide) (Gd_0 hw) g2 trivial
  have hrb : rb = false := e3.1
  refine ⟨U1, U2, g1, RR_rfr hr g3, by rw [hrb] at e1; exact e1, ?_, rfr_trans g3 (gfr_rfr e2 e3.2.2)⟩
  rw [e3.2.1, sL_3, if_pos ⟨rfl, rfl⟩, Int64.zero_add]
