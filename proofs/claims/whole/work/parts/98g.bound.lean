/-! ===== the answers that an open call may have had ===== -/
def Ff (v : HVT) (T : TbT) (rule tg : Nat) : Nat → Nat → Sg → Int32 → Prop
  | 0, _, _, _ => False
  | f + 1, p, s, y => ∃ c, c < nOf v ∧ fit v T rule (2 ^ nOf v - 1) c p s = true ∧ ((c = tg ∧ Wv v T rule (2 ^ nOf v - 1) (p ||| 2 ^ c) (nxt v T c s) ≠ 0 ∧ y = rpl v T c s) ∨ (c ≠ tg ∧ Ff v T rule tg f (p ||| 2 ^ c) (nxt v T c s) y))
def FS (v : HVT) (T : TbT) (rule tg p : Nat) (s : Sg) (y : Int32) : Prop := Ff v T rule tg (fr (nOf v) p) p s y
theorem FS_iff (v : HVT) (T : TbT) (rule tg p : Nat) (s : Sg) (y : Int32) : FS v T rule tg p s y ↔ ∃ c, c < nOf v ∧ fit v T rule (2 ^ nOf v - 1) c p s = true ∧ ((c = tg ∧ Wv v T rule (2 ^ nOf v - 1) (p ||| 2 ^ c) (nxt v T c s) ≠ 0 ∧ y = rpl v T c s) ∨ (c ≠ tg ∧ FS v T rule tg (p ||| 2 ^ c) (nxt v T c s) y)) := by
  unfold FS
  cases hf : fr (nOf v) p with
  | zero =>
    refine ⟨fun h => h.elim, fun ⟨c, h1, h2, _⟩ => ?_⟩
    have := fit_p h2
    rw [fr_full hf h1] at this
    cases this
  | succ f =>
    show (∃ c, _) ↔ _
    constructor
    · rintro ⟨c, h1, h2, h3⟩
      have h4 := fr_in (fit_p h2) (nOf v) h1
      rw [show f = fr (nOf v) (p ||| 2 ^ c) by omega] at h3
      exact ⟨c, h1, h2, h3⟩
    · rintro ⟨c, h1, h2, h3⟩
      have h4 := fr_in (fit_p h2) (nOf v) h1
      rw [show fr (nOf v) (p ||| 2 ^ c) = f by omega] at h3
      exact ⟨c, h1, h2, h3⟩
/-- the sum of what the calls of p add -/
def cs (v : HVT) (p : Nat) : Nat → Int32
  | 0 => 0
  | k + 1 => cs v p k + (if p.testBit k && decide (acOf v k ≠ 0) then aOf v k else 0)
theorem cs_s (v : HVT) (p k : Nat) : cs v p (k + 1) = cs v p k + (if p.testBit k && decide (acOf v k ≠ 0) then aOf v k else 0) := rfl
theorem cs_congr {v : HVT} {p p' : Nat} : ∀ k, (∀ c, c < k → p.testBit c = p'.testBit c) → cs v p k = cs v p' k
  | 0, _ => rfl
  | k + 1, h => by
    rw [cs_s, cs_s, cs_congr k (fun c hc => h c (by omega)), h k (by omega)]
theorem cs_0 (v : HVT) : ∀ k, cs v 0 k = 0
  | 0 => rfl
  | k + 1 => by
    rw [cs_s, cs_0 v k, Nat.zero_testBit]
    rfl
theorem cs_out {v : HVT} {p c : Nat} : ∀ k, k ≤ c → cs v (p ||| 2 ^ c) k = cs v p k := fun k hk => cs_congr k (fun q hq => tb_or_ne (by omega))
theorem cs_in {v : HVT} {p c : Nat} (h : p.testBit c = false) : ∀ k, c < k → cs v (p ||| 2 ^ c) k = cs v p k + (if acOf v c ≠ 0 then aOf v c else 0)
  | 0, hk => absurd hk (Nat.not_lt_zero c)
  | k + 1, hk => by
    rw [cs_s, cs_s]
    by_cases e : k = c
    · subst e
      rw [cs_out k (Nat.le_refl k), tb_or_self, h]
      by_cases a0 : acOf v k ≠ 0
      · rw [if_pos a0, decide_eq_true a0]
        simp
      · rw [if_neg a0, decide_eq_false a0]
        simp
    · rw [cs_in h k (by omega), tb_or_ne e, Int32.add_assoc, Int32.add_assoc, Int32.add_comm (if acOf v c ≠ 0 then aOf v c else 0)]
def clo (v : HVT) (rule p : Nat) : Prop := ∀ c x, c < nOf v → p.testBit c = true → (bhd v rule (2 ^ nOf v - 1) c).testBit x = true → p.testBit x = true
def wvv (v : HVT) (c : Nat) : Int32 := if acOf v c = 1 then aOf v c else bOf v c
def RI (v : HVT) (rule p : Nat) (s : Sg) : Prop := clo v rule p ∧ (kdOf v = 0 → s.1 = 0 ∨ ∃ c, c < nOf v ∧ s.1 = wvv v c) ∧ (kdOf v = 1 → s.1 = cs v p (nOf v))
theorem RI_0 (v : HVT) (rule : Nat) : RI v rule 0 (s0 v) := by
  refine ⟨fun c x _ h _ => ?_, fun _ => Or.inl rfl, fun _ => (cs_0 v _).symm⟩
  rw [Nat.zero_testBit] at h
  cases h
theorem fit_b {v : HVT} (hw : WF v) {T : TbT} {rule part c p : Nat} {s : Sg} (h : fit v T rule part c p s = true) : ∀ x, (bhd v rule part c).testBit x = true → p.testBit x = true := by
  unfold fit at h
  rw [Bool.and_eq_true, Bool.and_eq_true, Bool.and_eq_true] at h
  exact (sb_iff (bhd_lt hw rule part c)).mp h.2.2.1
theorem RI_nxt {v : HVT} (hw : WF v) {T : TbT} {rule p c : Nat} {s : Sg} (hc : c < nOf v) (hf : fit v T rule (2 ^ nOf v - 1) c p s = true) (h : RI v rule p s) : RI v rule (p ||| 2 ^ c) (nxt v T c s) := by
  obtain ⟨h1, h2, h3⟩ := h
  have hpc := fit_p hf
  refine ⟨fun q x hq hb hx => ?_, fun hk => ?_, fun hk => ?_⟩
  · have old : p.testBit x = true → (p ||| 2 ^ c).testBit x = true := fun z => by
      rw [tb_or, z]
      rfl
    by_cases e : q = c
    · rw [e] at hx
      exact old (fit_b hw hf x hx)
    · rw [tb_or_ne e] at hb
      exact old (h1 q x hq hb hx)
  · rw [nxt_0 hk]
    show (if acOf v c = 0 then s.1 else if acOf v c = 1 then aOf v c else if s.1 = aOf v c then bOf v c else s.1) = 0 ∨ ∃ c', c' < nOf v ∧ (if acOf v c = 0 then s.1 else if acOf v c = 1 then aOf v c else if s.1 = aOf v c then bOf v c else s.1) = wvv v c'
    by_cases a0 : acOf v c = 0
    · rw [if_pos a0]
      exact h2 hk
    · rw [if_neg a0]
      by_cases a1 : acOf v c = 1
      · rw [if_pos a1]
        exact Or.inr ⟨c, hc, by unfold wvv; rw [if_pos a1]⟩
      · rw [if_neg a1]
        by_cases a2 : s.1 = aOf v c
        · rw [if_pos a2]
          exact Or.inr ⟨c, hc, by unfold wvv; rw [if_neg a1]⟩
        · rw [if_neg a2]
          exact h2 hk
  · rw [nxt_1 hk, cs_in hpc _ hc]
    show (if acOf v c = 0 then s.1 else s.1 + aOf v c) = _
    rw [← h3 hk]
    by_cases a0 : acOf v c = 0
    · rw [if_pos a0, if_neg (fun z => z a0), Int32.add_zero]
    · rw [if_neg a0, if_pos a0]
theorem reach {v : HVT} (hw : WF v) {T : TbT} (hT : TQ v T) {rule tg : Nat} : ∀ f p s y, Ff v T rule tg f p s y → Gd v p s → RI v rule p s → ∃ p' s', Gd v p' s' ∧ RI v rule p' s' ∧ fit v T rule (2 ^ nOf v - 1) tg p' s' = true ∧ y = rpl v T tg s'
  | 0, _, _, _, h, _, _ => h.elim
  | f + 1, p, s, y, h, hG, hI => by
    obtain ⟨c, h1, h2, h3⟩ := h
    rcases h3 with ⟨rfl, h4, h5⟩ | ⟨h4, h5⟩
    · exact ⟨p, s, hG, hI, h2, h5⟩
    · exact reach hw hT f _ _ y h5 (Gd_nxt hw h1 hT (fit_p h2) hG) (RI_nxt hw h1 h2 hI)
/-! how many they can be -/
theorem holes : ∀ (N m : Nat) (f : Nat → Nat), (∀ q, q < m → f q < N) → (∀ q r, q < r → r < m → f q ≠ f r) → m ≤ N
  | 0, m, f, h, _ => by
    cases m with
    | zero => exact Nat.le_refl 0
    | succ m => exact absurd (h 0 (by omega)) (Nat.not_lt_zero _)
  | N + 1, m, f, h, hi => by
    by_cases e : ∃ q, q < m ∧ f q = N
    · obtain ⟨q0, h0, e0⟩ := e
      have := holes N (m - 1) (fun q => if q < q0 then f q else f (q + 1)) (fun q hq => by
        by_cases c : q < q0
        · rw [if_pos c]
          have z1 := h q (by omega)
          have z2 := hi q q0 c h0
          omega
        · rw [if_neg c]
          have z1 := h (q + 1) (by omega)
          have z2 := hi q0 (q + 1) (by omega) (by omega)
          omega) (fun q r hqr hr => by
        by_cases c : q < q0
        · rw [if_pos c]
          by_cases c2 : r < q0
          · rw [if_pos c2]
            exact hi q r hqr (by omega)
          · rw [if_neg c2]
            exact hi q (r + 1) (by omega) (by omega)
        · rw [if_neg c, if_neg (by omega)]
          exact hi (q + 1) (r + 1) (by omega) (by omega))
      omega
    · have := holes N m f (fun q hq => by
        have z1 := h q hq
        have z2 : f q ≠ N := fun z => e ⟨q, hq, z⟩
        omega) hi
      omega
theorem pigeon {N : Nat} (R : Int32 → Nat → Prop) (hf : ∀ x y i, R x i → R y i → x = y) {a : Nat → Int32} {m : Nat} (hS : SA a m) (h : ∀ q, q < m → ∃ i, i < N ∧ R (a q) i) : m ≤ N := by
  have h' : ∀ q, ∃ i, q < m → i < N ∧ R (a q) i := fun q => by
    by_cases c : q < m
    · obtain ⟨i, hi⟩ := h q c
      exact ⟨i, fun _ => hi⟩
    · exact ⟨0, fun z => absurd z c⟩
  refine holes N m (fun q => Classical.choose (h' q)) (fun q hq => (Classical.choose_spec (h' q) hq).1) (fun q r hqr hr e => ?_)
  have z1 := (Classical.choose_spec (h' q) (by omega)).2
  have z2 := (Classical.choose_spec (h' r) hr).2
  rw [e] at z1
  have := hS q r hqr hr
  rw [hf _ _ _ z1 z2] at this
  exact i_irr _ this
def cn (f : Nat → Bool) : Nat → Nat
  | 0 => 0
  | k + 1 => cn f k + (if f k then 1 else 0)
theorem cn_s (f : Nat → Bool) (k : Nat) : cn f (k + 1) = cn f k + (if f k then 1 else 0) := rfl
theorem cn_sub {f g : Nat → Bool} : ∀ k, (∀ c, c < k → f c = true → g c = true) → cn f k ≤ cn g k
  | 0, _ => Nat.le_refl 0
  | k + 1, h => by
    have ih := cn_sub k (fun c hc => h c (by omega))
    rw [cn_s, cn_s]
    cases hf : f k with
    | false =>
      rw [if_neg Bool.false_ne_true]
      omega
    | true =>
      rw [if_pos rfl, if_pos (h k (by omega) hf)]
      omega
theorem cn_lt {f g : Nat → Bool} : ∀ k, (∀ c, c < k → f c = true → g c = true) → (∃ c, c < k ∧ g c = true ∧ f c = false) → cn f k < cn g k
  | 0, _, ⟨c, h, _⟩ => absurd h (Nat.not_lt_zero c)
  | k + 1, h, ⟨c, h1, h2, h3⟩ => by
    rw [cn_s, cn_s]
    by_cases e : c = k
    · subst e
      have := cn_sub c (fun q hq => h q (by omega))
      rw [h2, h3, if_neg Bool.false_ne_true, if_pos rfl]
      omega
    · have ih := cn_lt k (fun q hq => h q (by omega)) ⟨c, by omega, h2, h3⟩
      cases hf : f k with
      | false =>
        rw [if_neg Bool.false_ne_true]
        omega
      | true =>
        rw [if_pos rfl, if_pos (h k (by omega) hf)]
        omega
theorem cn_four (ca : Nat → Nat) : ∀ k, (∀ c, c < k → ca c < 4) → cn (fun c => decide (ca c = 0)) k + cn (fun c => decide (ca c = 1)) k + cn (fun c => decide (ca c = 2)) k + cn (fun c => decide (ca c = 3)) k = k
  | 0, _ => rfl
  | k + 1, h => by
    have ih := cn_four ca k (fun c hc => h c (by omega))
    have hk := h k (by omega)
    rw [cn_s, cn_s, cn_s, cn_s]
    rcases (show ca k = 0 ∨ ca k = 1 ∨ ca k = 2 ∨ ca k = 3 by omega) with e | e | e | e
    · simp [e]
      omega
    · simp [e]
      omega
    · simp [e]
      omega
    · simp [e]
      omega
theorem mix {a A b B : Nat} (ha : a < A) (hb : b < B) : a + A * b < A * B := by
  have : A * (b + 1) ≤ A * B := Nat.mul_le_mul_left A hb
  rw [Nat.mul_add, Nat.mul_one] at this
  omega
theorem mix_inj {a a' A b b' : Nat} (ha : a < A) (ha' : a' < A) (h : a + A * b = a' + A * b') : a = a' ∧ b = b' := by
  have h1 : (a + A * b) % A = a := by rw [Nat.add_mul_mod_self_left, Nat.mod_eq_of_lt ha]
  have h2 : (a' + A * b') % A = a' := by rw [Nat.add_mul_mod_self_left, Nat.mod_eq_of_lt ha']
  have h3 : a = a' := by rw [← h1, ← h2, h]
  refine ⟨h3, ?_⟩
  rw [h3] at h
  have h4 : A * b = A * b' := by omega
  exact Nat.eq_of_mul_eq_mul_left (by omega) h4
theorem amgm : ∀ a, a < 10 → ∀ b, b < 10 → ∀ c, c < 10 → a + b + c ≤ 9 → (a + 1) * ((b + 1) * (c + 1)) ≤ 64 := by decide +kernel
section COUNTER
variable {v : HVT} {rule tg : Nat}
def eX (v : HVT) (tg x : Nat) : Nat := if x = caOf v tg then 0 else cn (fun c => decide (caOf v c = x)) (nOf v)
def dX (v : HVT) (tg p x : Nat) : Nat := if x = caOf v tg then 0 else cn (fun c => decide (caOf v c = x) && p.testBit c) (nOf v)
theorem dX_le (p x : Nat) : dX v tg p x < eX v tg x + 1 := by
  unfold dX eX
  split
  · omega
  · have := cn_sub (f := fun c => decide (caOf v c = x) && p.testBit c) (g := fun c => decide (caOf v c = x)) (nOf v) (fun c _ h => by
      rw [Bool.and_eq_true] at h
      exact h.1)
    omega
def code4 (v : HVT) (tg p : Nat) : Nat := dX v tg p 0 + (eX v tg 0 + 1) * (dX v tg p 1 + (eX v tg 1 + 1) * (dX v tg p 2 + (eX v tg 2 + 1) * dX v tg p 3))
theorem code_lt (p : Nat) : code4 v tg p < (eX v tg 0 + 1) * ((eX v tg 1 + 1) * ((eX v tg 2 + 1) * (eX v tg 3 + 1))) :=
  mix (dX_le p 0) (mix (dX_le p 1) (mix (dX_le p 2) (dX_le p 3)))
theorem code_inj {p p' : Nat} (h : code4 v tg p = code4 v tg p') : ∀ x, x < 4 → dX v tg p x = dX v tg p' x := by
  obtain ⟨h0, h⟩ := mix_inj (dX_le p 0) (dX_le p' 0) h
  obtain ⟨h1, h⟩ := mix_inj (dX_le p 1) (dX_le p' 1) h
  obtain ⟨h2, h3⟩ := mix_inj (dX_le p 2) (dX_le p' 2) h
  intro x hx
  rcases (show x = 0 ∨ x = 1 ∨ x = 2 ∨ x = 3 by omega) with rfl | rfl | rfl | rfl
  · exact h0
  · exact h1
  · exact h2
  · exact h3
theorem code_64 (hw : WF v) (htg : tg < nOf v) : (eX v tg 0 + 1) * ((eX v tg 1 + 1) * ((eX v tg 2 + 1) * (eX v tg 3 + 1))) ≤ 64 := by
  have hn := hw.2.1
  have hs := cn_four (caOf v) (nOf v) (fun c hc => (hw.2.2.2.1 c hc).1)
  have hca := (hw.2.2.2.1 tg htg).1
  have hpos : 0 < cn (fun c => decide (caOf v c = caOf v tg)) (nOf v) := by
    have := cn_lt (f := fun _ => false) (g := fun c => decide (caOf v c = caOf v tg)) (nOf v) (fun _ _ h => by cases h) ⟨tg, htg, decide_eq_true rfl, rfl⟩
    omega
  unfold eX
  rcases (show caOf v tg = 0 ∨ caOf v tg = 1 ∨ caOf v tg = 2 ∨ caOf v tg = 3 by omega) with e | e | e | e
  · rw [e] at hpos ⊢
    have := amgm (cn (fun c => decide (caOf v c = 1)) (nOf v)) (by omega) (cn (fun c => decide (caOf v c = 2)) (nOf v)) (by omega) (cn (fun c => decide (caOf v c = 3)) (nOf v)) (by omega) (by omega)
    simp
    exact this
  · rw [e] at hpos ⊢
    have := amgm (cn (fun c => decide (caOf v c = 0)) (nOf v)) (by omega) (cn (fun c => decide (caOf v c = 2)) (nOf v)) (by omega) (cn (fun c => decide (caOf v c = 3)) (nOf v)) (by omega) (by omega)
    simp
    exact this
  · rw [e] at hpos ⊢
    have := amgm (cn (fun c => decide (caOf v c = 0)) (nOf v)) (by omega) (cn (fun c => decide (caOf v c = 1)) (nOf v)) (by omega) (cn (fun c => decide (caOf v c = 3)) (nOf v)) (by omega) (by omega)
    simp
    exact this
  · rw [e] at hpos ⊢
    have := amgm (cn (fun c => decide (caOf v c = 0)) (nOf v)) (by omega) (cn (fun c => decide (caOf v c = 1)) (nOf v)) (by omega) (cn (fun c => decide (caOf v c = 2)) (nOf v)) (by omega) (by omega)
    simp
    exact this
/-- earlier calls of the same caller are ahead -/
theorem same_b (hw : WF v) {c d : Nat} (h : c < d) (hd : d < nOf v) (e : caOf v c = caOf v d) : (bhd v rule (2 ^ nOf v - 1) d).testBit c = true := by
  obtain ⟨-, h2⟩ := hw.2.2.2.2.1 c d h hd
  obtain ⟨h3, h4⟩ := h2 e
  unfold bhd
  rw [mk_tb, decide_eq_true (show c < nOf v by omega)]
  unfold bhF ahB
  rw [all_tb (show c < nOf v by omega), decide_eq_true h4, decide_eq_true e, show enB v c = true from decide_eq_true h3]
  simp
theorem code_same (hw : WF v) (htg : tg < nOf v) (hop : enB v tg = false) {p p' : Nat} (h1 : clo v rule p) (h2 : clo v rule p') (b1 : ∀ x, (bhd v rule (2 ^ nOf v - 1) tg).testBit x = true → p.testBit x = true) (b2 : ∀ x, (bhd v rule (2 ^ nOf v - 1) tg).testBit x = true → p'.testBit x = true) (n1 : p.testBit tg = false) (n2 : p'.testBit tg = false) (h : code4 v tg p = code4 v tg p') : ∀ c, c < nOf v → p.testBit c = p'.testBit c := by
  intro c hc
  have hca := (hw.2.2.2.1 c hc).1
  by_cases e : caOf v c = caOf v tg
  · rcases Nat.lt_trichotomy c tg with z | z | z
    · have := same_b (rule := rule) hw z htg e
      rw [b1 c this, b2 c this]
    · rw [z, n1, n2]
    · have := ((hw.2.2.2.2.1 tg c z hc).2 e.symm).1
      exact absurd hop (by rw [show enB v tg = true from decide_eq_true this]; decide)
  · have hd := code_inj h (caOf v c) hca
    unfold dX at hd
    rw [if_neg e, if_neg e] at hd
    have key : ∀ {p p' : Nat}, clo v rule p → clo v rule p' → cn (fun q => decide (caOf v q = caOf v c) && p.testBit q) (nOf v) = cn (fun q => decide (caOf v q = caOf v c) && p'.testBit q) (nOf v) → p.testBit c = true → p'.testBit c = false → False := by
      intro p p' h1 h2 hd x1 x2
      have := cn_lt (f := fun q => decide (caOf v q = caOf v c) && p'.testBit q) (g := fun q => decide (caOf v q = caOf v c) && p.testBit q) (nOf v) (fun q hq hf => by
        rw [Bool.and_eq_true] at hf ⊢
        refine ⟨hf.1, ?_⟩
        have eq := of_decide_eq_true hf.1
        rcases Nat.lt_trichotomy q c with z | z | z
        · exact h1 c q hc x1 (same_b hw z hc eq)
        · rw [z]
          exact x1
        · have := h2 q c hq hf.2 (same_b hw z hq eq.symm)
          rw [x2] at this
          cases this) ⟨c, hc, by rw [x1, decide_eq_true rfl]; rfl, by rw [x2, decide_eq_true rfl]; rfl⟩
      omega
    cases x1 : p.testBit c with
    | true =>
      cases x2 : p'.testBit c with
      | true => rfl
      | false => exact (key h1 h2 hd x1 x2).elim
    | false =>
      cases x2 : p'.testBit c with
      | true => exact (key h2 h1 hd.symm x2 x1).elim
      | false => rfl
end COUNTER
/-- 64 at most -/
theorem fills_64 {v : HVT} (hw : WF v) {T : TbT} (hT : TQ v T) {rule tg : Nat} (htg : tg < nOf v) (hop : enB v tg = false) {a : Nat → Int32} {m : Nat} (hS : SA a m) (h : ∀ y, mem a m y → FS v T rule tg 0 (s0 v) y) : m ≤ 64 := by
  have hn := hw.2.1
  have h1 : ∀ q, q < m → ∃ p' s', Gd v p' s' ∧ RI v rule p' s' ∧ fit v T rule (2 ^ nOf v - 1) tg p' s' = true ∧ a q = rpl v T tg s' := fun q hq => reach hw hT _ _ _ _ (h (a q) ⟨q, hq, rfl⟩) (Gd_0 hw) (RI_0 v rule)
  have byG : ∀ G : Nat → Int32, (∀ p' s', Gd v p' s' → RI v rule p' s' → ∃ i, i < 64 ∧ rpl v T tg s' = G i) → m ≤ 64 := by
    intro G hG
    refine pigeon (N := 64) (fun y i => y = G i) (fun x y i e1 e2 => by rw [e1, e2]) hS (fun q hq => ?_)
    obtain ⟨p', s', z1, z2, -, z4⟩ := h1 q hq
    obtain ⟨i, i1, i2⟩ := hG p' s' z1 z2
    exact ⟨i, i1, by rw [z4, i2]⟩
  have hk := hw.1
  rcases (show kdOf v = 0 ∨ kdOf v = 1 ∨ kdOf v = 2 ∨ kdOf v = 3 ∨ kdOf v = 4 ∨ kdOf v = 5 ∨ kdOf v = 6 by omega) with k | k | k | k | k | k | k
  · by_cases a0 : acOf v tg = 0
    · refine byG (fun i => if i = 0 then 0 else wvv v (i - 1)) (fun p s _ hI => ?_)
      rw [rpl_0 k, if_pos a0]
      rcases hI.2.1 k with z | ⟨c, z1, z2⟩
      · exact ⟨0, by omega, by rw [z]; rfl⟩
      · exact ⟨c + 1, by omega, by rw [z2, if_neg (by omega), Nat.add_sub_cancel]⟩
    · refine byG nI (fun p s _ _ => ?_)
      rw [rpl_0 k, if_neg a0]
      split
      · exact ⟨0, by omega, rfl⟩
      · split
        · exact ⟨1, by omega, rfl⟩
        · exact ⟨0, by omega, rfl⟩
  · have hN := code_64 hw htg
    refine Nat.le_trans (pigeon (N := (eX v tg 0 + 1) * ((eX v tg 1 + 1) * ((eX v tg 2 + 1) * (eX v tg 3 + 1)))) (fun y i => ∃ p, clo v rule p ∧ (∀ x, (bhd v rule (2 ^ nOf v - 1) tg).testBit x = true → p.testBit x = true) ∧ p.testBit tg = false ∧ code4 v tg p = i ∧ y = if acOf v tg = 0 then cs v p (nOf v) else cs v p (nOf v) + aOf v tg) ?_ hS (fun q hq => ?_)) hN
    · rintro x y i ⟨p, x1, x2, x3, x4, x5⟩ ⟨p', y1, y2, y3, y4, y5⟩
      have := cs_congr (v := v) (nOf v) (code_same hw htg hop x1 y1 x2 y2 x3 y3 (x4.trans y4.symm))
      rw [x5, y5, this]
    · obtain ⟨p', s', z1, z2, z3, z4⟩ := h1 q hq
      refine ⟨code4 v tg p', code_lt p', p', z2.1, fit_b hw z3, fit_p z3, rfl, ?_⟩
      rw [z4, rpl_1 k, z2.2.2 k]
  · by_cases a0 : acOf v tg = 0
    · refine byG nI (fun p s hG _ => ?_)
      rw [rpl_2 k, if_pos a0]
      refine ⟨s.2.length + 1, ?_, rfl⟩
      rcases hG with z | ⟨-, -, z, -⟩ | z | z | z <;> omega
    · refine byG (fun i => if i = 0 then -1 else aOf v (i - 1)) (fun p s hG _ => ?_)
      rw [rpl_2 k, if_neg a0]
      rcases hG with z | ⟨-, -, -, z⟩ | z | z | z
      · omega
      · cases hs : s.2 with
        | nil => exact ⟨0, by omega, rfl⟩
        | cons w L =>
          have := z w (by rw [hs]; exact List.mem_cons_self)
          exact ⟨w, by omega, by rw [if_neg (by omega)]; rfl⟩
      · omega
      · omega
      · omega
  · by_cases a0 : acOf v tg = 0
    · refine byG nI (fun p s hG _ => ?_)
      rw [rpl_3 k, if_pos a0]
      refine ⟨s.2.length + 1, ?_, rfl⟩
      rcases hG with z | ⟨-, -, z, -⟩ | z | z | z <;> omega
    · refine byG (fun i => if i = 0 then -1 else aOf v (i - 1)) (fun p s hG _ => ?_)
      rw [rpl_3 k, if_neg a0]
      rcases hG with z | ⟨-, -, -, z⟩ | z | z | z
      · omega
      · cases hs : s.2 with
        | nil => exact ⟨0, by omega, rfl⟩
        | cons w L =>
          have := z w (by rw [hs]; exact List.mem_cons_self)
          exact ⟨w, by omega, by rw [if_neg (by omega)]; rfl⟩
      · omega
      · omega
      · omega
  · refine byG nI (fun p s _ _ => ?_)
    rw [rpl_4 k]
    split
    · split
      · exact ⟨0, by omega, rfl⟩
      · exact ⟨1, by omega, rfl⟩
    · split
      · exact ⟨1, by omega, rfl⟩
      · exact ⟨0, by omega, rfl⟩
  · by_cases a0 : acOf v tg = 0
    · refine byG (vAt v) (fun p s hG _ => ?_)
      rw [rpl_5 k, if_pos a0]
      refine ⟨s.2.getD (kyOf v tg) 0, ?_, rfl⟩
      rcases hG with z | z | z | ⟨-, -, -, z⟩ | z
      · omega
      · omega
      · omega
      · rcases getD_mem (L := s.2) (k := kyOf v tg) with w | w
        · omega
        · have := z _ w
          omega
      · omega
    · refine byG nI (fun p s _ _ => ?_)
      rw [rpl_5 k, if_neg a0]
      split
      · exact ⟨0, by omega, rfl⟩
      · split
        · exact ⟨1, by omega, rfl⟩
        · exact ⟨0, by omega, rfl⟩
  · refine byG (fun i => tbA T (4 * i + acOf v tg)) (fun p s hG _ => ?_)
    rw [rpl_6 k]
    rcases hG with z | z | z | z | ⟨-, -, w, z1, z2⟩
    · omega
    · omega
    · omega
    · omega
    · exact ⟨w, by omega, by rw [z2, nI_clamp (by omega)]⟩
