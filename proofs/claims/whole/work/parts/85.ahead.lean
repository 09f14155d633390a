/-! ===== quiet ticks, ahead ===== -/
theorem nI_ne {a b : Nat} (ha : a < 2 ^ 31) (hb : b < 2 ^ 31) (h : a ≠ b) : ¬ nI a = nI b := fun z => h ((nI_eq ha hb).mp z)
theorem b1 {α : Type} {A : Option α} {f : Int32 → Option α} : (some (1 : Int32)).bind (fun r => if r = 0 then A else f r) = f 1 := by
  show (if (1 : Int32) = 0 then A else f 1) = f 1
  rw [if_neg one_ne]
theorem b0 {α : Type} {A : Option α} {f : Int32 → Option α} : (some (0 : Int32)).bind (fun r => if r = 0 then A else f r) = A := rfl
theorem bB {α : Type} {A : Option α} {f : Int32 → Option α} (b : Bool) : (some (if b then (1 : Int32) else 0)).bind (fun r => if r = 0 then A else f r) = if b then f 1 else A := by
  cases b with
  | true => exact b1
  | false => rfl
/-- call c is under way at tick t -/
def nqB (v : HVT) (part t c : Nat) : Bool := part.testBit c && (decide (bgOf v c ≤ t) && !(enB v c && decide (enOf v c ≤ t)))
def qtF (v : HVT) (part t : Nat) : Nat → Nat → Bool
  | 0, _ => true
  | k + 1, c => !nqB v part t c && qtF v part t k (c + 1)
theorem qtF_s (v : HVT) (part t k c : Nat) : qtF v part t (k + 1) c = (!nqB v part t c && qtF v part t k (c + 1)) := rfl
def quB (v : HVT) (part t : Nat) : Bool := qtF v part t (nOf v) 0
theorem WF.bg {v : HVT} (h : WF v) {c : Nat} (hc : c < nOf v) : 1 ≤ bgOf v c ∧ bgOf v c ≤ 20 := by
  have h1 := h.2.2.2.1 c hc
  have := h.tk
  omega
theorem WF.en20 {v : HVT} (h : WF v) (c : Nat) : enOf v c ≤ 20 := by
  by_cases hc : c < nOf v
  · have h1 := (h.2.2.2.1 c hc).2.2.2.2.2.2
    have := h.tk
    omega
  · rw [(h.2.2.2.2.2 c (by omega)).1]
    omega
theorem quiet_c {u : St} {v : HVT} {part t : Nat} (hc : CR u v) (hw : WF v) (hp : part < 1024) (ht : t < 2 ^ 31) : ∀ f k c, k < f → c + k = nOf v → j_X1_isQuiet_2 u f (nI part) (nI t) (nI c) = some (if qtF v part t k c then 1 else 0)
  | 0, _, _, h, _ => absurd h (Nat.not_lt_zero _)
  | f + 1, k, c, h, hk => by
    have hn := hw.2.1
    show q_X1_isQuiet_2 u (j_X1_isQuiet_2 u f) _ _ _ = _
    unfold q_X1_isQuiet_2
    simp only [nm]
    rw [hc.2.1]
    cases k with
    | zero =>
      rw [if_pos (nI_le (by omega) (by omega))]
      rfl
    | succ k =>
      have ih := quiet_c hc hw hp ht f k (c + 1) (by omega) (by omega)
      obtain ⟨-, -, -, -, z5, z6, -⟩ := hc.2.2.2 c (by omega)
      have hbg := hw.bg (show c < nOf v by omega)
      have hen := hw.en20 c
      rw [if_neg (nI_ge (by omega) (by omega))]
      simp only [gd_nI (show c < 10 by omega) (by decide : 10 < 2 ^ 31), nI_clamp (show c < 2 ^ 31 by omega), z5, z6, nI_1, ih, holds_b (show part < 2 ^ 31 by omega) (show c < 31 by omega), bB]
      rw [qtF_s]
      unfold nqB
      have e0 := en_0 hw c
      have i1 : nI t < nI (bgOf v c) ↔ t < bgOf v c := nI_ltI ht (by omega)
      have i2 : nI t < nI (enOf v c) ↔ t < enOf v c := nI_ltI ht (by omega)
      simp only [i1, i2]
      cases hb : part.testBit c with
      | false =>
        simp
      | true =>
        cases he : enB v c with
        | false =>
          rw [if_pos (e0.mpr he)]
          by_cases hl : t < bgOf v c
          · simp [hl, Nat.not_le.mpr hl]
          · simp [hl, Nat.not_lt.mp hl]
        | true =>
          rw [if_neg (fun z => by rw [e0.mp z] at he; cases he)]
          by_cases hl : t < bgOf v c
          · simp [hl, Nat.not_le.mpr hl]
          · by_cases h2 : t < enOf v c
            · simp [hl, Nat.not_lt.mp hl, h2, Nat.not_le.mpr h2]
            · simp [hl, Nat.not_lt.mp hl, h2, Nat.not_lt.mp h2]
theorem quietC {u : St} {v : HVT} {part t : Nat} (hc : CR u v) (hw : WF v) (hp : part < 1024) (ht : t < 2 ^ 31) : j_X1_isQuiet u (nI part) (nI t) = some (if quB v part t then 1 else 0) :=
  quiet_c hc hw hp ht 100 (nOf v) 0 (by have := hw.2.1; omega) (by omega)
theorem quiet_r {U : St} {i : Nat} {v : HVT} {part t : Nat} (hr : RR U i v) (hw : WF v) (hi : i < 12) (hp : part < 1024) (ht : t < 2 ^ 31) : ∀ f k c, k < f → c + k = nOf v → j_X7_isQuiet_3 U f (nI i) (nI part) (nI t) (nI c) = some (if qtF v part t k c then 1 else 0)
  | 0, _, _, h, _ => absurd h (Nat.not_lt_zero _)
  | f + 1, k, c, h, hk => by
    have hn := hw.2.1
    show q_X7_isQuiet_3 U (j_X7_isQuiet_3 U f) _ _ _ _ = _
    unfold q_X7_isQuiet_3
    simp only [nm]
    rw [gd_nI hi (by decide), nI_clamp (by omega), hr.2.1]
    cases k with
    | zero =>
      rw [if_pos (nI_le (by omega) (by omega))]
      rfl
    | succ k =>
      have ih := quiet_r hr hw hi hp ht f k (c + 1) (by omega) (by omega)
      obtain ⟨-, -, -, -, z5, z6, -⟩ := hr.2.2.2 c (by omega)
      have hbg := hw.bg (show c < nOf v by omega)
      have hen := hw.en20 c
      rw [if_neg (nI_ge (by omega) (by omega)), ix10]
      simp only [gd_nI (show 10 * i + c < 120 by omega) (by decide : 120 < 2 ^ 31), nI_clamp (show 10 * i + c < 2 ^ 31 by omega), z5, z6, nI_1, ih, bit_at (show part < 2 ^ 31 by omega) (show c < 31 by omega)]
      rw [qtF_s]
      unfold nqB
      have e0 := en_0 hw c
      have i1 : nI t < nI (bgOf v c) ↔ t < bgOf v c := nI_ltI ht (by omega)
      have i2 : nI (enOf v c) ≤ nI t ↔ enOf v c ≤ t := nI_leI (by omega) ht
      simp only [i1, i2]
      cases hb : part.testBit c with
      | false => rfl
      | true =>
        rw [if_pos rfl, if_pos rfl]
        cases he : enB v c with
        | false =>
          have he' : nI (enOf v c) = 0 := e0.mpr he
          by_cases hl : t < bgOf v c
          · simp [hl, Nat.not_le.mpr hl]
          · simp [hl, Nat.not_lt.mp hl, he']
        | true =>
          have he' : ¬ nI (enOf v c) = 0 := fun z => by rw [e0.mp z] at he; cases he
          by_cases hl : t < bgOf v c
          · simp [hl, Nat.not_le.mpr hl]
          · by_cases h2 : t < enOf v c
            · simp [hl, Nat.not_lt.mp hl, h2, Nat.not_le.mpr h2, he']
            · simp [hl, Nat.not_lt.mp hl, h2, Nat.not_lt.mp h2, he']
theorem quietR {U : St} {i : Nat} {v : HVT} {part t : Nat} (hr : RR U i v) (hw : WF v) (hi : i < 12) (hp : part < 1024) (ht : t < 2 ^ 31) : j_X7_isQuiet U (nI i) (nI part) (nI t) = some (if quB v part t then 1 else 0) :=
  quiet_r hr hw hi hp ht 100 (nOf v) 0 (by have := hw.2.1; omega) (by omega)
/-- the quiet ticks -/
def qmF (v : HVT) (part : Nat) (t : Nat) : Bool := decide (1 ≤ t) && quB v part t
def qm (v : HVT) (part : Nat) : Nat := mk (qmF v part) (tkOf v + 1)
theorem qm_lt {v : HVT} (h : WF v) (part : Nat) : qm v part < 2 ^ 21 :=
  Nat.lt_of_lt_of_le (mk_lt _ _) (Nat.pow_le_pow_right (by decide) (by have := h.tk; omega))
theorem ticks_c {u : St} {v : HVT} {part : Nat} (hc : CR u v) (hw : WF v) (hp : part < 1024) : ∀ f t, tkOf v + 1 - t < f → 1 ≤ t → t ≤ tkOf v + 1 → j_X1_quietTicks_4 u f (nI part) (nI (mk (qmF v part) t)) (nI t) = some (nI (qm v part))
  | 0, _, h, _, _ => absurd h (Nat.not_lt_zero _)
  | f + 1, t, h, h1, h2 => by
    have htk := hw.tk
    show q_X1_quietTicks_4 u (j_X1_quietTicks_4 u f) _ _ _ = _
    unfold q_X1_quietTicks_4
    simp only [nm]
    rw [hc.2.2.1]
    by_cases e : t = tkOf v + 1
    · subst e
      rw [if_pos (nI_lt (by omega) (by omega))]
      rfl
    · rw [if_neg (nI_nlt (by omega) (by omega)), quietC hc hw hp (by omega), bB, nI_1, or_bit _ (by omega)]
      have ih := ticks_c hc hw hp f (t + 1) (by omega) (by omega) (by omega)
      have hq : qmF v part t = quB v part t := by
        unfold qmF
        rw [decide_eq_true h1]
        rfl
      cases hb : quB v part t with
      | true =>
        rw [if_pos rfl, ← mk_t (hq.trans hb)]
        exact ih
      | false =>
        rw [if_neg Bool.false_ne_true, ← mk_f (hq.trans hb)]
        exact ih
theorem ticksC {u : St} {v : HVT} {part : Nat} (hc : CR u v) (hw : WF v) (hp : part < 1024) : j_X1_quietTicks u (nI part) = some (nI (qm v part)) := by
  have := ticks_c hc hw hp 100 1 (by have := hw.tk; omega) (by omega) (by omega)
  have e : mk (qmF v part) 1 = 0 := by
    show mk (qmF v part) 0 ||| (if qmF v part 0 then 2 ^ 0 else 0) = 0
    rw [show qmF v part 0 = false from rfl, if_neg Bool.false_ne_true, Nat.or_zero]
    rfl
  rw [e] at this
  exact this
def exQ (v : HVT) (part : Nat) : Nat → Nat → Bool
  | 0, _ => false
  | k + 1, t => quB v part t || exQ v part k (t + 1)
theorem exQ_s (v : HVT) (part k t : Nat) : exQ v part (k + 1) t = (quB v part t || exQ v part k (t + 1)) := rfl
theorem exQ_iff (v : HVT) (part : Nat) : ∀ k t, exQ v part k t = true ↔ ∃ q, t ≤ q ∧ q < t + k ∧ quB v part q = true
  | 0, t => ⟨fun h => (by cases h), fun ⟨q, h1, h2, _⟩ => by omega⟩
  | k + 1, t => by
    rw [exQ_s, Bool.or_eq_true, exQ_iff v part k (t + 1)]
    constructor
    · rintro (h | ⟨q, h1, h2, h3⟩)
      · exact ⟨t, Nat.le_refl t, by omega, h⟩
      · exact ⟨q, by omega, by omega, h3⟩
    · rintro ⟨q, h1, h2, h3⟩
      by_cases e : q = t
      · rw [← e]
        exact Or.inl h3
      · exact Or.inr ⟨q, by omega, by omega, h3⟩
/-- x is ahead of y -/
def ahB (v : HVT) (rule part x y : Nat) : Bool := enB v x && (decide (enOf v x < bgOf v y) && (decide (rule = 0) || (decide (caOf v x = caOf v y) || (decide (rule = 1) && exQ v part (bgOf v y - enOf v x) (enOf v x)))))
theorem tb_span {b e i : Nat} (h : e ≤ b) : (2 ^ b - 2 ^ e).testBit i = decide (e ≤ i ∧ i < b) := by
  have e1 : 2 ^ b - 2 ^ e = 2 ^ e * (2 ^ (b - e) - 1) := by
    rw [Nat.mul_sub, ← Nat.pow_add, Nat.mul_one, show e + (b - e) = b by omega]
  rw [e1, Nat.testBit_two_pow_mul, Nat.testBit_two_pow_sub_one]
  by_cases h1 : e ≤ i
  · by_cases h2 : i < b
    · rw [decide_eq_true h1, decide_eq_true (show i - e < b - e by omega), decide_eq_true ⟨h1, h2⟩]
      rfl
    · rw [decide_eq_false (show ¬ (i - e < b - e) by omega), decide_eq_false (show ¬ (e ≤ i ∧ i < b) from fun z => h2 z.2), Bool.and_false]
  · rw [decide_eq_false (show ¬ i ≥ e from h1), decide_eq_false (show ¬ (e ≤ i ∧ i < b) from fun z => h1 z.1)]
    rfl
theorem and_ne0 {a b : Nat} : a &&& b ≠ 0 ↔ ∃ i, a.testBit i = true ∧ b.testBit i = true := by
  constructor
  · intro h
    obtain ⟨i, hi⟩ := Nat.exists_testBit_of_ne_zero h
    rw [Nat.testBit_and, Bool.and_eq_true] at hi
    exact ⟨i, hi⟩
  · rintro ⟨i, h1, h2⟩ h
    have : (a &&& b).testBit i = true := by rw [Nat.testBit_and, h1, h2]; rfl
    rw [h, Nat.zero_testBit] at this
    cases this
theorem ahead_c {u : St} {v : HVT} {rule part x y qq : Nat} (hc : CR u v) (hw : WF v) (hr : rule < 3) (hx : x < nOf v) (hy : y < nOf v) (hq : rule = 1 → qq = qm v part) : j_X1_isAhead u (nI rule) (nI qq) (nI x) (nI y) = some (if ahB v rule part x y then 1 else 0) := by
  have hn := hw.2.1
  obtain ⟨z1, -, -, -, z5, z6, -⟩ := hc.2.2.2 x (by omega)
  obtain ⟨y1, -, -, -, y5, y6, -⟩ := hc.2.2.2 y (by omega)
  have hbx := hw.bg hx
  have hby := hw.bg hy
  have hex := hw.en20 x
  have cax := (hw.2.2.2.1 x hx).1
  have cay := (hw.2.2.2.1 y hy).1
  have e0 := en_0 hw x
  unfold j_X1_isAhead
  simp only [nm]
  rw [isOpen_c hc.2.1 hx hn]
  simp only [gd_nI (show x < 10 by omega) (by decide : 10 < 2 ^ 31), gd_nI (show y < 10 by omega) (by decide : 10 < 2 ^ 31), nI_clamp (show x < 2 ^ 31 by omega), nI_clamp (show y < 2 ^ 31 by omega), z1, z6, y1, y5]
  unfold ahB
  cases he : enB v x with
  | false =>
    rw [if_pos (e0.mpr he), b1]
    rfl
  | true =>
    rw [if_neg (fun z => by rw [e0.mp z] at he; cases he), b0]
    by_cases hl : enOf v x < bgOf v y
    · rw [if_pos (nI_lt hl (by omega)), decide_eq_true hl]
      by_cases r0 : rule = 0
      · rw [if_pos (by rw [r0]; rfl), decide_eq_true r0]
        rfl
      · rw [if_neg (show ¬ nI rule = 0 from nI_ne (b := 0) (by omega) (by decide) r0), decide_eq_false r0]
        by_cases cc : caOf v x = caOf v y
        · rw [if_pos (by rw [cc]), decide_eq_true cc]
          rfl
        · rw [if_neg (fun z => cc ((nI_eq (by omega) (by omega)).mp z)), decide_eq_false cc]
          by_cases r1 : rule = 1
          · rw [if_pos (by rw [r1]; rfl), decide_eq_true r1, one_shl (by omega), one_shl (by omega), pk_sub (Nat.pow_le_pow_right (by decide) (by omega)), fa_and, hq r1]
            have hlt : 2 ^ bgOf v y ≤ 2 ^ 20 := Nat.pow_le_pow_right (by decide) (by omega)
            have hA : qm v part &&& (2 ^ bgOf v y - 2 ^ enOf v x) < 2 ^ 31 := Nat.lt_of_le_of_lt Nat.and_le_right (Nat.lt_of_le_of_lt (Nat.sub_le _ _) (Nat.lt_of_le_of_lt hlt (by decide)))
            have hiff : (nI (qm v part &&& (2 ^ bgOf v y - 2 ^ enOf v x)) = 0) ↔ exQ v part (bgOf v y - enOf v x) (enOf v x) = false := by
              rw [show (0 : Int32) = nI 0 from rfl, nI_eq hA (by decide)]
              have h1 := @and_ne0 (qm v part) (2 ^ bgOf v y - 2 ^ enOf v x)
              have h2 := exQ_iff v part (bgOf v y - enOf v x) (enOf v x)
              have he1 : 1 ≤ enOf v x := by
                unfold enB at he
                have := of_decide_eq_true he
                omega
              have htk := (hw.2.2.2.1 y hy).2.2.2.2.2.1
              have h3 : (∃ i, (qm v part).testBit i = true ∧ (2 ^ bgOf v y - 2 ^ enOf v x).testBit i = true) ↔ ∃ q, enOf v x ≤ q ∧ q < enOf v x + (bgOf v y - enOf v x) ∧ quB v part q = true := by
                constructor
                · rintro ⟨i, g1, g2⟩
                  rw [tb_span (by omega), decide_eq_true_iff] at g2
                  unfold qm at g1
                  rw [mk_tb, Bool.and_eq_true] at g1
                  have g3 := g1.2
                  unfold qmF at g3
                  rw [Bool.and_eq_true] at g3
                  exact ⟨i, g2.1, by omega, g3.2⟩
                · rintro ⟨q, g1, g2, g3⟩
                  refine ⟨q, ?_, ?_⟩
                  · unfold qm
                    rw [mk_tb, decide_eq_true (by omega)]
                    unfold qmF
                    rw [decide_eq_true (by omega), g3]
                    rfl
                  · rw [tb_span (by omega), decide_eq_true_iff]
                    omega
              have h4 := (h1.trans h3).trans h2.symm
              constructor
              · intro w
                cases hx : exQ v part (bgOf v y - enOf v x) (enOf v x) with
                | false => rfl
                | true => exact absurd w (h4.mpr hx)
              · intro w
                refine Decidable.byContradiction (fun n => ?_)
                rw [h4.mp n] at w
                cases w
            cases hb : exQ v part (bgOf v y - enOf v x) (enOf v x) with
            | false =>
              rw [if_pos (hiff.mpr hb)]
              rfl
            | true =>
              rw [if_neg (fun z => by rw [hiff.mp z] at hb; cases hb)]
              rfl
          · rw [if_neg (show ¬ nI rule = 1 from nI_ne (b := 1) (by omega) (by decide) r1), decide_eq_false r1]
            rfl
    · rw [if_neg (nI_nlt (by omega) (by omega)), decide_eq_false hl]
      rfl
theorem aheadL_r {U : St} {i : Nat} {v : HVT} {rule part x y : Nat} (hr : RR U i v) (hw : WF v) (hi : i < 12) (hp : part < 1024) (hy : y < nOf v) : ∀ f k t, k < f → t + k = bgOf v y → j_X7_isAhead_79 U f (nI i) (nI rule) (nI part) (nI (10 * i + y)) (nI t) = some (if nI rule = 1 ∧ exQ v part k t = true then 1 else 0)
  | 0, _, _, h, _ => absurd h (Nat.not_lt_zero _)
  | f + 1, k, t, h, hk => by
    have hn := hw.2.1
    obtain ⟨-, -, -, -, z5, -, -⟩ := hr.2.2.2 y hy
    have hby := hw.bg hy
    show q_X7_isAhead_79 U (j_X7_isAhead_79 U f) _ _ _ _ _ = _
    unfold q_X7_isAhead_79
    simp only [nm]
    rw [gd_nI (by omega) (by decide), nI_clamp (by omega), z5]
    cases k with
    | zero =>
      rw [if_pos (nI_le (by omega) (by omega)), if_neg (fun z => by cases z.2)]
    | succ k =>
      have ih := aheadL_r (rule := rule) (x := x) hr hw hi hp hy f k (t + 1) (by omega) (by omega)
      rw [if_neg (nI_ge (by omega) (by omega))]
      by_cases e : nI rule = 1
      · rw [if_pos e, quietR hr hw hi hp (by omega), bB, nI_1, ih, exQ_s]
        cases quB v part t with
        | true => simp [e]
        | false => simp [e]
      · rw [if_neg e, if_neg (fun z => e z.1)]
theorem ahead_r {U : St} {i : Nat} {v : HVT} {rule part x y : Nat} (hr : RR U i v) (hw : WF v) (hi : i < 12) (hp : part < 1024) (hru : rule < 3) (hx : x < nOf v) (hy : y < nOf v) : j_X7_isAhead U (nI i) (nI rule) (nI part) (nI x) (nI y) = some (if ahB v rule part x y then 1 else 0) := by
  have hn := hw.2.1
  obtain ⟨z1, -, -, -, z5, z6, -⟩ := hr.2.2.2 x hx
  obtain ⟨y1, -, -, -, y5, y6, -⟩ := hr.2.2.2 y hy
  have hbx := hw.bg hx
  have hby := hw.bg hy
  have hex := hw.en20 x
  have cax := (hw.2.2.2.1 x hx).1
  have cay := (hw.2.2.2.1 y hy).1
  have e0 := en_0 hw x
  unfold j_X7_isAhead
  simp only [nm]
  rw [ix10, ix10]
  simp only [gd_nI (show 10 * i + x < 120 by omega) (by decide : 120 < 2 ^ 31), gd_nI (show 10 * i + y < 120 by omega) (by decide : 120 < 2 ^ 31), nI_clamp (show 10 * i + x < 2 ^ 31 by omega), nI_clamp (show 10 * i + y < 2 ^ 31 by omega), z1, z6, y1, y5]
  unfold ahB
  cases he : enB v x with
  | false =>
    rw [if_pos (e0.mpr he)]
    rfl
  | true =>
    rw [if_neg (fun z => by rw [e0.mp z] at he; cases he)]
    by_cases hl : enOf v x < bgOf v y
    · rw [if_pos (nI_lt hl (by omega)), decide_eq_true hl]
      by_cases r0 : rule = 0
      · rw [if_pos (by rw [r0]; rfl), decide_eq_true r0]
        rfl
      · rw [if_neg (show ¬ nI rule = 0 from nI_ne (b := 0) (by omega) (by decide) r0), decide_eq_false r0]
        by_cases cc : caOf v x = caOf v y
        · rw [if_pos (by rw [cc]), decide_eq_true cc]
          rfl
        · rw [if_neg (fun z => cc ((nI_eq (by omega) (by omega)).mp z)), decide_eq_false cc, aheadL_r (x := x) hr hw hi hp hy 100 (bgOf v y - enOf v x) (enOf v x) (by omega) (by omega)]
          by_cases r1 : rule = 1
          · have r1' : nI rule = 1 := by rw [r1]; rfl
            simp [r1, r1']
            rw [← r1]
            simp [r1']
          · have r1' : ¬ nI rule = 1 := nI_ne (b := 1) (by omega) (by decide) r1
            simp [r1, r1']
    · rw [if_neg (nI_nlt (by omega) (by omega)), decide_eq_false hl]
      rfl
theorem all_lt {n : Nat} (h : n ≤ 10) : 2 ^ n - 1 < 1024 := by
  have : 2 ^ n ≤ 2 ^ 10 := Nat.pow_le_pow_right (by decide) h
  have : 0 < 2 ^ n := Nat.pow_pos (by decide)
  omega
theorem all_c {u : St} {n : Nat} (hu : u.1 2 = nI n) (hn : n ≤ 10) : j_X1_allCalls u = some (nI (2 ^ n - 1)) := by
  unfold j_X1_allCalls
  rw [hu, one_shl (by omega), show (1 : Int32) = nI 1 from rfl, pk_sub (Nat.pow_pos (by decide))]
theorem all_r {U : St} {i n : Nat} (hr : U.2.1 7 i = nI n) (hi : i < 12) (hn : n ≤ 10) : j_X7_all U (nI i) = some (nI (2 ^ n - 1)) := by
  unfold j_X7_all
  rw [gd_nI hi (by decide), nI_clamp (by omega), hr, one_shl (by omega), show (1 : Int32) = nI 1 from rfl, pk_sub (Nat.pow_pos (by decide))]
theorem isRule_or (x : Int32) : (FN (nI 3) x ∧ j_X6_isRule x = some 0 ∧ j_X7_isRule x = some 0) ∨ ∃ r, r < 3 ∧ x = nI r ∧ j_X6_isRule x = some 1 ∧ j_X7_isRule x = some 1 := by
  unfold j_X6_isRule j_X7_isRule
  rcases in_lit (x := x) (m := 3) (hi := 2) (by decide) (by decide) with ⟨h, z⟩ | ⟨j, hj, rfl, z⟩
  · refine Or.inl ⟨h, ?_, by rw [z]; rfl⟩
    by_cases c : x < 0
    · rw [if_pos c]
    · rw [if_neg c]
      rcases h with w | ⟨-, w⟩
      · exact absurd w c
      · rw [if_pos (show (3 : Int32) ≤ x from w)]
  · refine Or.inr ⟨j, hj, rfl, ?_, by rw [z]; rfl⟩
    rw [if_neg (nI_pos (by omega)), if_neg (show ¬ (3 : Int32) ≤ nI j from nI_ge (b := 3) hj (by decide))]
theorem fc_ahead : Fc_ahead Iv := by
  intro a1 a2 a3 a4 k0 hk0 t gs hs kt tu tq nT nH U h
  have h' := fc_M k0 hk0 _ _ _ _ _ _ _ _ _ h
  obtain ⟨c1, c2, c3, c4, c5, c6⟩ := h.1
  refine ⟨fun i hi hh a6 sh => ?_, fun hn => ?_⟩
  · subst hh
    obtain ⟨v, v1, v2, v3, v4⟩ := h.2.2.2.2.1 i hi
    have hn10 := v3.2.1
    have hcr : CR (mrg gs (hs i)) v := v1
    have fin : ∀ r : Int32, j_X6_ahead_Y (Tq tq (kt i)) a6 t (mrg gs (hs i)) sh (nI i) a2 a3 a4 = some (r, t, mrg gs (hs i), sh) → j_X7_ahead U (nI i) a2 a3 a4 = some r → ∃ (r : Int32) (t' : Nat → Int32) (u' : St) (sh' : Nat) (U' : St), j_X6_ahead_Y (Tq tq (kt i)) a6 t (mrg gs (hs i)) sh (nI i) a2 a3 a4 = some (r, t', u', sh') ∧ pr U (j_X7_ahead U (nI i) a2 a3 a4) = some (r, U') ∧ Iv (k0 + 6) t' u' (fun k => if k = i then u' else hs k) kt tu tq nT nH U' := by
      intro r e1 e2
      exact ⟨r, t, _, sh, U, e1, by rw [e2]; rfl, Iv_mrg i h'⟩
    have hR : ∀ x : Int32, (FN (nI (nOf v)) x ∧ j_X1_hasCall (mrg gs (hs i)) x = some 0 ∧ j_X7_isCall U (nI i) x = some 0) ∨ ∃ c, c < nOf v ∧ x = nI c ∧ j_X1_hasCall (mrg gs (hs i)) x = some 1 ∧ j_X7_isCall U (nI i) x = some 1 := by
      intro x
      rcases FN_or (nOf v) (by omega) x with z | ⟨c, hc, rfl⟩
      · exact Or.inl ⟨z, hasCall_N hcr.2.1 z, isCall_N c4 hi c2 v2.2.1 z hn10⟩
      · exact Or.inr ⟨c, hc, rfl, hasCall_Y hcr.2.1 hc hn10, isCall_Y c4 hi c2 v2.2.1 hc hn10⟩
    unfold j_X6_ahead_Y j_X7_ahead at fin ⊢
    rcases isRule_or a2 with ⟨-, r1, r2⟩ | ⟨rule, hru, rfl, r1, r2⟩
    · refine fin (-1) (by rw [r1]; rfl) ?_
      rcases hR a3 with ⟨-, -, z⟩ | ⟨x, -, -, -, z⟩
      · rw [z]
        rfl
      · rw [z, b1]
        rcases hR a4 with ⟨-, -, w⟩ | ⟨y, -, -, -, w⟩
        · rw [w]
          rfl
        · rw [w, b1, r2]
          rfl
    · rcases hR a3 with ⟨-, z1, z2⟩ | ⟨x, hx, rfl, z1, z2⟩
      · refine fin (-1) (by rw [r1, b1, z1]; rfl) (by rw [z2]; rfl)
      · rcases hR a4 with ⟨-, w1, w2⟩ | ⟨y, hy, rfl, w1, w2⟩
        · refine fin (-1) (by rw [r1, b1, z1, b1, w1]; rfl) (by rw [z2, b1, w2]; rfl)
        · refine fin (if ahB v rule (2 ^ nOf v - 1) x y then 1 else 0) ?_ ?_
          · rw [r1, b1, z1, b1, w1, b1, all_c hcr.2.1 hn10]
            simp only [Option.bind_some]
            rw [ticksC hcr v3 (all_lt hn10)]
            simp only [Option.bind_some]
            rw [ahead_c hcr v3 hru hx hy (fun _ => rfl), bB]
            cases ahB v rule (2 ^ nOf v - 1) x y <;> rfl
          · rw [z2, b1, w2, b1, r2, b1, all_r v2.2.1 (by omega) hn10]
            simp only [Option.bind_some]
            rw [ahead_r v2 v3 (by omega) (all_lt hn10) hru hx hy, bB]
            cases ahB v rule (2 ^ nOf v - 1) x y <;> rfl
  · exact ⟨-1, t, U, rfl, by
      show pr U (j_X7_ahead U a1 a2 a3 a4) = _
      unfold j_X7_ahead
      rw [isCall_NN c4 hn c2]
      rfl, h'⟩
