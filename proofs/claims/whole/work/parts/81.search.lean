/-! ===== the search as such: of a set of calls p and a state s ===== -/
/-- how many of the first n are not in p -/
def fr : Nat → Nat → Nat
  | 0, _ => 0
  | n + 1, p => fr n p + (if p.testBit n then 0 else 1)
theorem fr_le : ∀ n p, fr n p ≤ n
  | 0, _ => Nat.le_refl 0
  | n + 1, p => by
    have := fr_le n p
    unfold fr
    split <;> omega
theorem fr_0 : ∀ n, fr n 0 = n
  | 0 => rfl
  | n + 1 => by
    unfold fr
    rw [fr_0 n, Nat.zero_testBit]
    rfl
theorem tb_or (p c x : Nat) : (p ||| 2 ^ c).testBit x = (p.testBit x || decide (c = x)) := by
  rw [Nat.testBit_or, Nat.testBit_two_pow]
theorem tb_or_self (p c : Nat) : (p ||| 2 ^ c).testBit c = true := by
  rw [tb_or, decide_eq_true rfl, Bool.or_true]
theorem tb_or_ne {p c x : Nat} (h : x ≠ c) : (p ||| 2 ^ c).testBit x = p.testBit x := by
  rw [tb_or, decide_eq_false (fun e => h e.symm), Bool.or_false]
theorem fr_out {p c : Nat} : ∀ n, n ≤ c → fr n (p ||| 2 ^ c) = fr n p
  | 0, _ => rfl
  | n + 1, h => by
    unfold fr
    rw [fr_out n (by omega), tb_or_ne (by omega)]
theorem fr_in {p c : Nat} (h0 : p.testBit c = false) : ∀ n, c < n → fr n (p ||| 2 ^ c) + 1 = fr n p
  | 0, h => absurd h (Nat.not_lt_zero c)
  | n + 1, h => by
    unfold fr
    by_cases e : n = c
    · subst e
      rw [fr_out n (Nat.le_refl n), tb_or_self, h0]
      rfl
    · have := fr_in h0 n (by omega)
      rw [tb_or_ne e]
      omega
theorem fr_full {n p c : Nat} (h : fr n p = 0) (hc : c < n) : p.testBit c = true := by
  induction n with
  | zero => exact absurd hc (Nat.not_lt_zero c)
  | succ n ih =>
    unfold fr at h
    by_cases e : c = n
    · subst e
      cases hb : p.testBit c with
      | true => rfl
      | false =>
        rw [hb] at h
        simp at h
    · exact ih (by omega) (by omega)
theorem or_lt {p c k : Nat} (hp : p < 2 ^ k) (hc : c < k) : p ||| 2 ^ c < 2 ^ k := Nat.or_lt_two_pow hp (Nat.pow_lt_pow_right (by decide) hc)
/-- the sum of f over c .. c + k - 1 -/
def sF (f : Nat → Nat) : Nat → Nat → Nat
  | 0, _ => 0
  | k + 1, c => f c + sF f k (c + 1)
theorem sF_congr {f g : Nat → Nat} : ∀ k c, (∀ i, c ≤ i → i < c + k → f i = g i) → sF f k c = sF g k c
  | 0, _, _ => rfl
  | k + 1, c, h => by
    unfold sF
    rw [h c (Nat.le_refl c) (by omega), sF_congr k (c + 1) (fun i h1 h2 => h i (by omega) (by omega))]
theorem sF_bound {f : Nat → Nat} {B : Nat} : ∀ k c, (∀ i, c ≤ i → i < c + k → f i ≤ B) → sF f k c ≤ k * B
  | 0, _, _ => Nat.zero_le _
  | k + 1, c, h => by
    unfold sF
    have h1 := h c (Nat.le_refl c) (by omega)
    have h2 := sF_bound (f := f) (B := B) k (c + 1) (fun i h1 h2 => h i (by omega) (by omega))
    rw [Nat.succ_mul]
    omega
theorem sF_pos {f : Nat → Nat} : ∀ k c, sF f k c ≠ 0 ↔ ∃ i, c ≤ i ∧ i < c + k ∧ f i ≠ 0
  | 0, c => ⟨fun h => absurd rfl h, fun ⟨i, h1, h2, _⟩ => by omega⟩
  | k + 1, c => by
    unfold sF
    have ih := sF_pos (f := f) k (c + 1)
    constructor
    · intro h
      by_cases e : f c = 0
      · obtain ⟨i, h1, h2, h3⟩ := ih.mp (by omega)
        exact ⟨i, by omega, by omega, h3⟩
      · exact ⟨c, Nat.le_refl c, by omega, e⟩
    · rintro ⟨i, h1, h2, h3⟩
      by_cases e : i = c
      · subst e
        omega
      · have := ih.mpr ⟨i, by omega, by omega, h3⟩
        omega
section WAYS
variable {σ : Type} (n : Nat) (fit : Nat → Nat → σ → Bool) (nx : Nat → σ → σ) (wh : Nat → Bool)
/-- in how many ways a row goes on and is an order: at most f calls more -/
def wy : Nat → Nat → σ → Nat
  | 0, p, _ => if wh p then 1 else 0
  | f + 1, p, s => (if wh p then 1 else 0) + sF (fun c => if fit c p s then wy f (p ||| 2 ^ c) (nx c s) else 0) n 0
theorem wy_more (hf : ∀ c p s, fit c p s = true → p.testBit c = false) : ∀ f p s, fr n p ≤ f → wy n fit nx wh (f + 1) p s = wy n fit nx wh f p s
  | 0, p, s, h => by
    show (if wh p then 1 else 0) + sF _ n 0 = if wh p then 1 else 0
    rw [sF_congr (g := fun _ => 0) n 0 (fun i _ h2 => by
      cases hb : fit i p s with
      | false => rfl
      | true =>
        have h3 := hf i p s hb
        rw [fr_full (n := n) (by omega) (by omega)] at h3
        cases h3)]
    have := sF_bound (f := fun _ => 0) (B := 0) n 0 (fun _ _ _ => Nat.le_refl 0)
    omega
  | f + 1, p, s, h => by
    show (if wh p then 1 else 0) + sF _ n 0 = (if wh p then 1 else 0) + sF _ n 0
    rw [sF_congr n 0 (fun i _ h2 => ?_)]
    cases hb : fit i p s with
    | false => rfl
    | true =>
      have h3 := fr_in (hf i p s hb) n (by omega)
      exact wy_more hf f _ _ (by omega)
/-- all of them -/
def Wy (p : Nat) (s : σ) : Nat := wy n fit nx wh n p s
theorem Wy_eq (hf : ∀ c p s, fit c p s = true → p.testBit c = false) (p : Nat) (s : σ) : Wy n fit nx wh p s = (if wh p then 1 else 0) + sF (fun c => if fit c p s then Wy n fit nx wh (p ||| 2 ^ c) (nx c s) else 0) n 0 :=
  (wy_more n fit nx wh hf n p s (fr_le n p)).symm
theorem wy_bound (hn : n ≤ 10) : ∀ f p s, wy n fit nx wh f p s ≤ 11 ^ f
  | 0, p, s => by
    unfold wy
    split <;> decide
  | f + 1, p, s => by
    unfold wy
    have h1 := sF_bound (f := fun c => if fit c p s then wy n fit nx wh f (p ||| 2 ^ c) (nx c s) else 0) (B := 11 ^ f) n 0 (fun i _ _ => by
      have := wy_bound hn f (p ||| 2 ^ i) (nx i s)
      split <;> omega)
    have h2 : n * 11 ^ f ≤ 10 * 11 ^ f := Nat.mul_le_mul_right _ hn
    have h3 : 0 < 11 ^ f := Nat.pow_pos (by decide)
    rw [Nat.pow_succ]
    split <;> omega
theorem Wy_bound (hn : n ≤ 10) (p : Nat) (s : σ) : Wy n fit nx wh p s < 2 ^ 40 := by
  have h1 := wy_bound n fit nx wh hn n p s
  have h2 : 11 ^ n ≤ 11 ^ 10 := Nat.pow_le_pow_right (by decide) hn
  have h3 : 11 ^ 10 < 2 ^ 40 := by decide
  unfold Wy
  omega
theorem Wy_pos (hf : ∀ c p s, fit c p s = true → p.testBit c = false) (p : Nat) (s : σ) : Wy n fit nx wh p s ≠ 0 ↔ wh p = true ∨ ∃ c, c < n ∧ fit c p s = true ∧ Wy n fit nx wh (p ||| 2 ^ c) (nx c s) ≠ 0 := by
  rw [Wy_eq n fit nx wh hf]
  have := sF_pos (f := fun c => if fit c p s then Wy n fit nx wh (p ||| 2 ^ c) (nx c s) else 0) n 0
  constructor
  · intro h
    by_cases e : wh p = true
    · exact Or.inl e
    · rw [if_neg e] at h
      obtain ⟨i, _, h2, h3⟩ := this.mp (by omega)
      refine Or.inr ⟨i, by omega, ?_⟩
      cases hb : fit i p s with
      | false =>
        rw [hb] at h3
        exact absurd rfl h3
      | true =>
        rw [hb] at h3
        exact ⟨rfl, h3⟩
  · rintro (h | ⟨c, h1, h2, h3⟩)
    · rw [if_pos h]
      omega
    · have := this.mpr ⟨c, Nat.zero_le c, by omega, by rw [h2]; exact h3⟩
      omega
end WAYS
