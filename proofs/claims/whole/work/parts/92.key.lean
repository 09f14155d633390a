/-! ===== the key tells the set and the state ===== -/
theorem encL_inj1 : ∀ L L' : List Nat, (∀ w, w ∈ L → 1 ≤ w ∧ w < 16) → (∀ w, w ∈ L' → 1 ≤ w ∧ w < 16) → encL L = encL L' → L = L'
  | [], [], _, _, _ => rfl
  | [], w :: L, _, h, e => by
    have := h w List.mem_cons_self
    have e' : 0 = w + 16 * encL L := e
    omega
  | w :: L, [], h, _, e => by
    have := h w List.mem_cons_self
    have e' : w + 16 * encL L = 0 := e
    omega
  | w :: L, w' :: L', h, h', e => by
    have h1 := h w List.mem_cons_self
    have h2 := h' w' List.mem_cons_self
    have e' : w + 16 * encL L = w' + 16 * encL L' := e
    rw [encL_inj1 L L' (fun x hx => h x (List.mem_cons_of_mem w hx)) (fun x hx => h' x (List.mem_cons_of_mem w' hx)) (by omega), show w = w' by omega]
theorem encL_inj2 : ∀ L L' : List Nat, L.length = L'.length → (∀ w, w ∈ L → w < 16) → (∀ w, w ∈ L' → w < 16) → encL L = encL L' → L = L'
  | [], [], _, _, _, _ => rfl
  | [], w :: L, hl, _, _, _ => by cases hl
  | w :: L, [], hl, _, _, _ => by cases hl
  | w :: L, w' :: L', hl, h, h', e => by
    have h1 := h w List.mem_cons_self
    have h2 := h' w' List.mem_cons_self
    have e' : w + 16 * encL L = w' + 16 * encL L' := e
    have hl' : L.length + 1 = L'.length + 1 := hl
    rw [encL_inj2 L L' (by omega) (fun x hx => h x (List.mem_cons_of_mem w hx)) (fun x hx => h' x (List.mem_cons_of_mem w' hx)) (by omega), show w = w' by omega]
def keyV (x : Int64) (p : Nat) : Int64 := (x <<< ((10 : Int32).toInt64 &&& 63)) ||| (nI p).toInt64
theorem key_bit {x : Int64} {p i : Nat} (hp : p < 1024) (hi : i < 64) : (keyV x p).toBitVec.getLsbD i = if i < 10 then p.testBit i else x.toBitVec.getLsbD (i - 10) := by
  unfold keyV
  rw [show ((10 : Int32).toInt64 &&& 63) = lN 10 from wb_c 10 (by decide), nI_l (by omega), Int64.toBitVec_or, Int64.toBitVec_shiftLeft, wb_tb, wb_tb, wb_sm 10 (by decide), BitVec.getLsbD_or, BitVec.shiftLeft_eq', show (BitVec.ofNat 64 10).toNat = 10 from rfl, BitVec.getLsbD_shiftLeft, BitVec.getLsbD_ofNat, decide_eq_true hi]
  by_cases h : i < 10
  · rw [if_pos h, decide_eq_true h]
    rfl
  · rw [if_neg h, decide_eq_false h, Nat.testBit_lt_two_pow (Nat.lt_of_lt_of_le hp (show 2 ^ 10 ≤ 2 ^ i from Nat.pow_le_pow_right (by decide) (by omega)))]
    simp
theorem key_p {x x' : Int64} {p p' : Nat} (hp : p < 1024) (hp' : p' < 1024) (h : keyV x p = keyV x' p') : p = p' ∧ ∀ i, i < 54 → x.toBitVec.getLsbD i = x'.toBitVec.getLsbD i := by
  constructor
  · apply Nat.eq_of_testBit_eq
    intro i
    by_cases hi : i < 10
    · have h1 := key_bit (x := x) hp (show i < 64 by omega)
      have h2 := key_bit (x := x') hp' (show i < 64 by omega)
      rw [if_pos hi] at h1 h2
      rw [← h1, ← h2, h]
    · have hb : 2 ^ 10 ≤ 2 ^ i := Nat.pow_le_pow_right (by decide) (by omega)
      rw [Nat.testBit_lt_two_pow (Nat.lt_of_lt_of_le hp hb), Nat.testBit_lt_two_pow (Nat.lt_of_lt_of_le hp' hb)]
  · intro i hi
    have h1 := key_bit (x := x) hp (show i + 10 < 64 by omega)
    have h2 := key_bit (x := x') hp' (show i + 10 < 64 by omega)
    rw [if_neg (by omega), Nat.add_sub_cancel] at h1 h2
    rw [← h1, ← h2, h]
theorem bits_I {y y' : Int32} (h : ∀ i, i < 54 → y.toInt64.toBitVec.getLsbD i = y'.toInt64.toBitVec.getLsbD i) : y = y' := by
  apply Int32.toBitVec_inj.mp
  apply BitVec.eq_of_getLsbD_eq
  intro i hi
  have := h i (by omega)
  rw [Int32.toBitVec_toInt64, Int32.toBitVec_toInt64, BitVec.getLsbD_signExtend, BitVec.getLsbD_signExtend, if_pos hi, if_pos hi, decide_eq_true (show i < 64 by omega)] at this
  exact this
theorem bits_L {m m' : Nat} (hm : m < 2 ^ 40) (hm' : m' < 2 ^ 40) (h : ∀ i, i < 54 → (lN m).toBitVec.getLsbD i = (lN m').toBitVec.getLsbD i) : m = m' := by
  apply Nat.eq_of_testBit_eq
  intro i
  by_cases hi : i < 54
  · have := h i hi
    rw [wb_tb, wb_tb, BitVec.getLsbD_ofNat, BitVec.getLsbD_ofNat, decide_eq_true (show i < 64 by omega)] at this
    exact this
  · have hb : 2 ^ 40 ≤ 2 ^ i := Nat.pow_le_pow_right (by decide) (by omega)
    rw [Nat.testBit_lt_two_pow (Nat.lt_of_lt_of_le hm hb), Nat.testBit_lt_two_pow (Nat.lt_of_lt_of_le hm' hb)]
def keyN (v : HVT) (p : Nat) (s : Sg) : Int64 := keyV (enc v s) p
theorem key_inj {v : HVT} (hw : WF v) {p p' r r' : Nat} {s s' : Sg} (hp : p < 1024) (hp' : p' < 1024) (hG : Gd v r s) (hG' : Gd v r' s') (h : keyN v p s = keyN v p' s') : p = p' ∧ s = s' := by
  have hn := hw.2.1
  obtain ⟨h1, h2⟩ := key_p hp hp' h
  refine ⟨h1, ?_⟩
  have hk := hw.1
  have iI : (kdOf v = 0 ∨ kdOf v = 1 ∨ kdOf v = 4 ∨ kdOf v = 6) → s.2 = [] → s'.2 = [] → s = s' := by
    intro hk e e'
    rw [enc_i hk, enc_i hk] at h2
    have := bits_I h2
    exact Prod.ext this (by rw [e, e'])
  have iL : (kdOf v = 2 ∨ kdOf v = 3 ∨ kdOf v = 5) → s.1 = 0 → s'.1 = 0 → s.2.length ≤ 10 → s'.2.length ≤ 10 → (∀ w, w ∈ s.2 → w < 16) → (∀ w, w ∈ s'.2 → w < 16) → encL s.2 = encL s'.2 := by
    intro hk e e' l l' b b'
    rw [enc_l hk, enc_l hk] at h2
    exact bits_L (p40 b l) (p40 b' l') h2
  rcases hG with ⟨h, h2⟩ | ⟨h, h1, h2, h3⟩ | ⟨h, h1, m, h2, h3⟩ | ⟨h, h1, h2, h3⟩ | ⟨h, h1, m, h2, h3⟩ <;> rcases hG' with ⟨g, g2⟩ | ⟨g, g1, g2, g3⟩ | ⟨g, g1, m', g2, g3⟩ | ⟨g, g1, g2, g3⟩ | ⟨g, g1, m', g2, g3⟩ <;> first | (exfalso; omega) | skip
  · exact iI (by omega) h2 g2
  · have e := iL (by omega) h1 g1 (by omega) (by omega) (fun w hw => by have := h3 w hw; omega) (fun w hw => by have := g3 w hw; omega)
    exact Prod.ext (by rw [h1, g1]) (encL_inj1 _ _ (fun w hw => by have := h3 w hw; omega) (fun w hw => by have := g3 w hw; omega) e)
  · exact iI (by omega) h1 g1
  · have e := iL (by omega) h1 g1 (by omega) (by omega) (fun w hw => by have := h3 w hw; omega) (fun w hw => by have := g3 w hw; omega)
    exact Prod.ext (by rw [h1, g1]) (encL_inj2 _ _ (by omega) (fun w hw => by have := h3 w hw; omega) (fun w hw => by have := g3 w hw; omega) e)
  · exact iI (by omega) h1 g1
