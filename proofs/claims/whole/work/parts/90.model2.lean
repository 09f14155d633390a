/-! ===== a set, a map, a machine: the class ===== -/
theorem ky_4 {v : HVT} (hw : WF v) {c : Nat} (hc : c < nOf v) (hk : kdOf v = 4) : aOf v c = nI (kyOf v c) ∧ kyOf v c < 16 := by
  obtain ⟨x, hx, e⟩ := (hw.2.2.2.1 c hc).2.2.1 hk
  unfold kyOf
  rw [e, nI_clamp (by omega)]
  exact ⟨rfl, hx⟩
theorem ky_5 {v : HVT} (hw : WF v) {c : Nat} (hc : c < nOf v) (hk : kdOf v = 5) : aOf v c = nI (kyOf v c) ∧ kyOf v c < 4 := by
  obtain ⟨x, hx, e⟩ := (hw.2.2.2.1 c hc).2.2.2.1 hk
  unfold kyOf
  rw [e, nI_clamp (by omega)]
  exact ⟨rfl, hx⟩
theorem lN_shr {n k : Nat} (hn : n < 2 ^ 63) (hk : k < 63) : lN n >>> ((nI k).toInt64 &&& 63) = lN (n / 2 ^ k) := by
  rw [wb_c k (by omega)]
  apply wb_inj
  rw [Int64.toBitVec_shiftRight, wb_tb, wb_tb, wb_tb, wb_sm k (by omega)]
  apply BitVec.eq_of_toNat_eq
  have hm : (BitVec.ofNat 64 n).msb = false := by
    rw [BitVec.msb_eq_false_iff_two_mul_lt, BitVec.toNat_ofNat, Nat.mod_eq_of_lt (by omega)]
    omega
  rw [BitVec.sshiftRight_eq', BitVec.toNat_ofNat, Nat.mod_eq_of_lt (show k < 2 ^ 64 by omega), BitVec.sshiftRight_eq_of_msb_false hm, BitVec.toNat_ushiftRight, BitVec.toNat_ofNat, BitVec.toNat_ofNat, Nat.shiftRight_eq_div_pow, Nat.mod_eq_of_lt (show n < 2 ^ 64 by omega), Nat.mod_eq_of_lt (Nat.lt_of_le_of_lt (Nat.div_le_self _ _) (show n < 2 ^ 64 by omega))]
theorem clr_lt (m k : Nat) (h : m < 65536) : clr m k < 65536 := Nat.lt_of_le_of_lt Nat.and_le_left h
theorem tb_not16 {k i : Nat} (hi : i < 16) : (65535 ^^^ 2 ^ k).testBit i = !decide (k = i) := by
  rw [Nat.testBit_xor, show (65535 : Nat) = 2 ^ 16 - 1 from rfl, Nat.testBit_two_pow_sub_one, Nat.testBit_two_pow, decide_eq_true hi, Bool.true_xor]
theorem tb_clr {m k i : Nat} (hm : m < 65536) : (clr m k).testBit i = (m.testBit i && !decide (k = i)) := by
  unfold clr
  rw [Nat.testBit_and]
  by_cases hi : i < 16
  · rw [tb_not16 hi]
  · rw [Nat.testBit_lt_two_pow (Nat.lt_of_lt_of_le hm (show 2 ^ 16 ≤ 2 ^ i from Nat.pow_le_pow_right (by decide) (by omega)))]
    rfl
theorem clr_L {m k : Nat} (hm : m < 65536) (hk : k < 16) : lN m &&& (lN (2 ^ k) ^^^ (-1)) = lN (clr m k) := by
  apply wb_inj
  rw [Int64.toBitVec_and, Int64.toBitVec_xor, wb_tb, wb_tb, wb_tb]
  apply BitVec.eq_of_getLsbD_eq
  intro i hi
  rw [BitVec.getLsbD_and, BitVec.getLsbD_xor, BitVec.getLsbD_ofNat, BitVec.getLsbD_ofNat, BitVec.getLsbD_ofNat, decide_eq_true hi, Nat.testBit_two_pow, tb_clr hm, show (-1 : Int64).toBitVec = BitVec.allOnes 64 from rfl, BitVec.getLsbD_allOnes, decide_eq_true hi]
  cases m.testBit i <;> cases decide (k = i) <;> rfl
theorem clr_I {m k : Nat} (hm : m < 65536) (hk : k < 16) : nI m &&& (nI (2 ^ k) ^^^ (-1)) = nI (clr m k) := by
  apply Int32.toBitVec_inj.mp
  show BitVec.ofNat 32 m &&& (BitVec.ofNat 32 (2 ^ k) ^^^ BitVec.allOnes 32) = BitVec.ofNat 32 (clr m k)
  apply BitVec.eq_of_getLsbD_eq
  intro i hi
  rw [BitVec.getLsbD_and, BitVec.getLsbD_xor, BitVec.getLsbD_ofNat, BitVec.getLsbD_ofNat, BitVec.getLsbD_ofNat, decide_eq_true hi, Nat.testBit_two_pow, tb_clr hm, BitVec.getLsbD_allOnes, decide_eq_true hi]
  cases m.testBit i <;> cases decide (k = i) <;> rfl
section CLS2
variable {u : St} {v : HVT} {T : TbT} {c p : Nat} {s : Sg}
theorem reply_4 (hc : CR u v) (hw : WF v) (hcn : c < nOf v) (hk : kdOf v = 4) {m : Nat} (hm : m < 65536) (hs : s.1 = nI m) : j_X3_reply T u (nI c) (enc v s) = some (rpl v T c s) := by
  have hn := hw.2.1
  obtain ⟨z5, z6, z7⟩ := hc.at (show c < 10 by omega)
  obtain ⟨e, he⟩ := ky_4 hw hcn hk
  have h0 : u.1 0 = 4 := by rw [hc.1, hk]; rfl
  rw [rpl_4 hk, enc_i (by omega), hs, nI_clamp (by omega), nI_l (by omega)]
  unfold j_X3_reply j_X3_setReply
  rw [h0, if_neg (show ¬ (4 : Int32) = 0 by decide), if_neg (show ¬ (4 : Int32) = 1 by decide), if_neg (show ¬ (4 : Int32) = 2 by decide), if_neg (show ¬ (4 : Int32) = 3 by decide), if_pos rfl]
  simp only [gd_nI (show c < 10 by omega) (by decide : 10 < 2 ^ 31), nI_clamp (show c < 2 ^ 31 by omega), z5, z6, ac_0 (hw.ac hcn)]
  rw [e, lN_shr (by omega) (by omega), wb_a1 (Nat.lt_of_le_of_lt (Nat.div_le_self _ _) (by omega)), Nat.testBit_eq_decide_div_mod_eq, show (0 : Int64) = lN 0 from rfl]
  rcases Nat.mod_two_eq_zero_or_one (m / 2 ^ kyOf v c) with q | q
  · rw [q, if_pos ((lg_cmp_eq _ _).mpr rfl), if_neg (show ¬ decide (0 = 1) = true by decide)]
    by_cases a0 : acOf v c = 0
    · rw [if_pos a0, if_pos a0]
      rfl
    · rw [if_neg a0, if_neg a0]
      rfl
  · rw [q, if_neg (fun z => absurd ((lg_cmp_eq _ _).mp z) (by decide)), if_pos (show decide (1 = 1) = true by decide)]
    by_cases a0 : acOf v c = 0
    · rw [if_pos a0, if_pos a0]
      rfl
    · rw [if_neg a0, if_neg a0]
      rfl
theorem after_4 (hc : CR u v) (hw : WF v) (hcn : c < nOf v) (hk : kdOf v = 4) {m : Nat} (hm : m < 65536) (hs : s.1 = nI m) : j_X3_after T u (nI c) (enc v s) = some (enc v (nxt v T c s)) := by
  have hn := hw.2.1
  obtain ⟨z5, z6, z7⟩ := hc.at (show c < 10 by omega)
  obtain ⟨e, he⟩ := ky_4 hw hcn hk
  have h0 : u.1 0 = 4 := by rw [hc.1, hk]; rfl
  have hor : m ||| 2 ^ kyOf v c < 2 ^ 16 := or_lt hm he
  rw [nxt_4 hk, enc_i (by omega), enc_i (by omega), hs, nI_clamp (by omega), nI_l (by omega)]
  unfold j_X3_after j_X3_setAfter
  rw [h0, if_neg (show ¬ (4 : Int32) = 0 by decide), if_neg (show ¬ (4 : Int32) = 1 by decide), if_neg (show ¬ (4 : Int32) = 2 by decide), if_neg (show ¬ (4 : Int32) = 3 by decide), if_pos rfl]
  simp only [gd_nI (show c < 10 by omega) (by decide : 10 < 2 ^ 31), nI_clamp (show c < 2 ^ 31 by omega), z5, z6, ac_0 (hw.ac hcn), ac_1 (hw.ac hcn)]
  have hp : 2 ^ kyOf v c < 2 ^ 16 := Nat.pow_lt_pow_right (by decide) he
  have h1 : (1 : Int64) <<< ((nI (kyOf v c)).toInt64 &&& 63) = lN (2 ^ kyOf v c) := by
    rw [show (1 : Int64) = lN 1 from rfl, wb_shl 1 (by omega), Nat.one_mul]
  rw [e, h1, wb_or (by omega) (by omega), clr_L hm he]
  by_cases a0 : acOf v c = 0
  · rw [if_pos a0, if_pos a0, nI_l (by omega)]
    rfl
  · rw [if_neg a0, if_neg a0]
    by_cases a1 : acOf v c = 1
    · rw [if_pos a1, if_pos a1, nI_l (by have := clr_lt m (kyOf v c) hm; omega)]
      rfl
    · rw [if_neg a1, if_neg a1, nI_l (by omega)]
      rfl
/-! a map -/
theorem encL_at : ∀ (L : List Nat) (k : Nat), (∀ w, w ∈ L → w < 16) → encL L / 16 ^ k % 16 = L.getD k 0
  | [], k, _ => by
    show 0 / 16 ^ k % 16 = 0
    rw [Nat.zero_div]
  | w :: L, 0, h => by
    have := (encL_div w L (h w List.mem_cons_self)).2
    rw [Nat.pow_zero, Nat.div_one, this]
    rfl
  | w :: L, k + 1, h => by
    have := (encL_div w L (h w List.mem_cons_self)).1
    rw [Nat.pow_succ, Nat.mul_comm, ← Nat.div_div_eq_div_mul, this, encL_at L k (fun x hx => h x (List.mem_cons_of_mem w hx))]
    rfl
theorem getD_mem {L : List Nat} {k : Nat} : L.getD k 0 = 0 ∨ L.getD k 0 ∈ L := by
  by_cases h : k < L.length
  · right
    rw [List.getD_eq_getElem?_getD, List.getElem?_eq_getElem h]
    exact List.getElem_mem h
  · left
    rw [List.getD_eq_getElem?_getD, List.getElem?_eq_none (by omega)]
    rfl
theorem valueAt_c (hc : CR u v) (hw : WF v) {L : List Nat} (hL : ∀ w, w ∈ L → w ≤ nOf v) (hl : L.length ≤ 10) {k : Nat} (hk : k < 4) : j_X3_valueAt u (lN (encL L)) (nI k) = some (vAt v (L.getD k 0)) := by
  have hn := hw.2.1
  have hb := p40 (fun w hw => by have := hL w hw; omega) hl
  unfold j_X3_valueAt
  simp only [nm]
  rw [show (4 : Int32) = nI 4 from rfl, pk_mul, lN_shr (by omega) (by omega), show (15 : Int64) = lN (2 ^ 4 - 1) from rfl, wb_mask (Nat.lt_of_le_of_lt (Nat.div_le_self _ _) (by omega)) (by decide), lN_i, show (2 : Nat) ^ (k * 4) = 16 ^ k by rw [Nat.mul_comm, Nat.pow_mul], show (2 : Nat) ^ 4 = 16 from rfl, encL_at L k (fun w hw => by have := hL w hw; omega)]
  have hg : L.getD k 0 ≤ nOf v := by
    rcases getD_mem (L := L) (k := k) with z | z
    · omega
    · exact hL _ z
  unfold vAt
  by_cases e : L.getD k 0 = 0
  · rw [if_pos e, e, show nI 0 - 1 = -1 from rfl, hasCall_N hc.2.1 (Or.inl (by decide))]
    rfl
  · rw [if_neg e, show nI (L.getD k 0) - 1 = nI (L.getD k 0 - 1) by
      have := nI_pred (L.getD k 0 - 1)
      rwa [show L.getD k 0 - 1 + 1 = L.getD k 0 by omega] at this, hasCall_Y hc.2.1 (by omega) hn, b1]
    obtain ⟨z5, z6, z7⟩ := hc.at (show L.getD k 0 - 1 < 10 by omega)
    rw [gd_nI (by omega) (by decide), gd_nI (by omega) (by decide), gd_nI (by omega) (by decide), nI_clamp (by omega), z5, z7]
    simp only [ac_1 (hw.ac (show L.getD k 0 - 1 < nOf v by omega))]
    split <;> rfl
theorem reply_5 (hc : CR u v) (hw : WF v) (hcn : c < nOf v) (hk : kdOf v = 5) (hL : ∀ w, w ∈ s.2 → w ≤ nOf v) (hl : s.2.length = 4) : j_X3_reply T u (nI c) (enc v s) = some (rpl v T c s) := by
  have hn := hw.2.1
  obtain ⟨z5, z6, z7⟩ := hc.at (show c < 10 by omega)
  obtain ⟨e, he⟩ := ky_5 hw hcn hk
  have h0 : u.1 0 = 5 := by rw [hc.1, hk]; rfl
  rw [rpl_5 hk, enc_l (by omega)]
  unfold j_X3_reply j_X3_cellReply
  rw [h0, if_neg (show ¬ (5 : Int32) = 0 by decide), if_neg (show ¬ (5 : Int32) = 1 by decide), if_neg (show ¬ (5 : Int32) = 2 by decide), if_neg (show ¬ (5 : Int32) = 3 by decide), if_neg (show ¬ (5 : Int32) = 4 by decide), if_pos rfl]
  simp only [gd_nI (show c < 10 by omega) (by decide : 10 < 2 ^ 31), nI_clamp (show c < 2 ^ 31 by omega), z5, z6, z7, ac_0 (hw.ac hcn), ac_1 (hw.ac hcn)]
  rw [e, valueAt_c hc hw hL (by omega) he]
  simp only [Option.bind_some]
  unfold mpV
  split
  · rfl
  · split
    · rfl
    · split <;> rfl
theorem nib_set {e lo x w hi : Nat} (hlo : lo < 2 ^ e) (hx : x < 16) (hw : w < 16) (he : e + 4 < 64) (hb : lo + 2 ^ e * (x + 16 * hi) < 2 ^ 64) (hb2 : lo + 2 ^ e * (w + 16 * hi) < 2 ^ 64) : (lN (lo + 2 ^ e * (x + 16 * hi)) &&& (lN (15 * 2 ^ e) ^^^ (-1))) ||| lN (w * 2 ^ e) = lN (lo + 2 ^ e * (w + 16 * hi)) := by
  have tb : ∀ y i, y < 16 → (lo + 2 ^ e * (y + 16 * hi)).testBit i = if i < e then lo.testBit i else if i - e < 4 then y.testBit (i - e) else hi.testBit (i - e - 4) := by
    intro y i hy
    rw [Nat.add_comm, Nat.testBit_two_pow_mul_add _ hlo]
    by_cases h1 : i < e
    · rw [if_pos h1, if_pos h1]
    · rw [if_neg h1, if_neg h1, show y + 16 * hi = 2 ^ 4 * hi + y by omega, Nat.testBit_two_pow_mul_add _ (show y < 2 ^ 4 from hy)]
  have t15 : ∀ y i, (y * 2 ^ e).testBit i = (decide (e ≤ i) && y.testBit (i - e)) := by
    intro y i
    rw [Nat.mul_comm, Nat.testBit_two_pow_mul]
  apply wb_inj
  rw [Int64.toBitVec_or, Int64.toBitVec_and, Int64.toBitVec_xor, wb_tb, wb_tb, wb_tb, wb_tb]
  apply BitVec.eq_of_getLsbD_eq
  intro i h64
  rw [BitVec.getLsbD_or, BitVec.getLsbD_and, BitVec.getLsbD_xor, BitVec.getLsbD_ofNat, BitVec.getLsbD_ofNat, BitVec.getLsbD_ofNat, BitVec.getLsbD_ofNat, decide_eq_true h64, show (-1 : Int64).toBitVec = BitVec.allOnes 64 from rfl, BitVec.getLsbD_allOnes, decide_eq_true h64, tb x i hx, tb w i hw, t15, t15]
  by_cases h1 : i < e
  · rw [if_pos h1, if_pos h1, decide_eq_false (show ¬ e ≤ i by omega)]
    cases lo.testBit i <;> rfl
  · rw [if_neg h1, if_neg h1, decide_eq_true (show e ≤ i by omega)]
    by_cases h2 : i - e < 4
    · rw [if_pos h2, if_pos h2, show (15 : Nat) = 2 ^ 4 - 1 from rfl, Nat.testBit_two_pow_sub_one, decide_eq_true h2]
      cases x.testBit (i - e) <;> cases w.testBit (i - e) <;> rfl
    · rw [if_neg h2, if_neg h2, show (15 : Nat) = 2 ^ 4 - 1 from rfl, Nat.testBit_two_pow_sub_one, decide_eq_false h2, Nat.testBit_lt_two_pow (show w < 2 ^ (i - e) from Nat.lt_of_lt_of_le hw (show 2 ^ 4 ≤ 2 ^ (i - e) from Nat.pow_le_pow_right (by decide) (by omega)))]
      cases hi.testBit (i - e - 4) <;> rfl
theorem set_c {L : List Nat} (hl : L.length = 4) (hL : ∀ w, w ∈ L → w < 16) {k w : Nat} (hk : k < 4) (hw : w < 16) : (lN (encL L) &&& ((15 : Int64) <<< ((nI k * 4).toInt64 &&& 63) ^^^ (-1))) ||| (lN w <<< ((nI k * 4).toInt64 &&& 63)) = lN (encL (L.set k w)) := by
  match L, hl, hL with
  | [a, b, c, d], _, hL =>
    have ha := hL a (by simp)
    have hb := hL b (by simp)
    have hc := hL c (by simp)
    have hd := hL d (by simp)
    rw [show (4 : Int32) = nI 4 from rfl, pk_mul, show (15 : Int64) = lN 15 from rfl, wb_shl 15 (by omega), wb_shl w (by omega)]
    rcases (show k = 0 ∨ k = 1 ∨ k = 2 ∨ k = 3 by omega) with rfl | rfl | rfl | rfl
    · have := nib_set (e := 0) (lo := 0) (x := a) (w := w) (hi := encL [b, c, d]) (by decide) ha hw (by decide) (by simp [encL]; omega) (by simp [encL]; omega)
      rw [show encL [a, b, c, d] = 0 + 2 ^ 0 * (a + 16 * encL [b, c, d]) by simp [encL], show encL ([a, b, c, d].set 0 w) = 0 + 2 ^ 0 * (w + 16 * encL [b, c, d]) by simp [encL]]
      exact this
    · have := nib_set (e := 4) (lo := a) (x := b) (w := w) (hi := encL [c, d]) ha hb hw (by decide) (by simp [encL]; omega) (by simp [encL]; omega)
      rw [show encL [a, b, c, d] = a + 2 ^ 4 * (b + 16 * encL [c, d]) by simp [encL], show encL ([a, b, c, d].set 1 w) = a + 2 ^ 4 * (w + 16 * encL [c, d]) by simp [encL]]
      exact this
    · have := nib_set (e := 8) (lo := a + 16 * b) (x := c) (w := w) (hi := encL [d]) (by omega) hc hw (by decide) (by simp [encL]; omega) (by simp [encL]; omega)
      rw [show encL [a, b, c, d] = a + 16 * b + 2 ^ 8 * (c + 16 * encL [d]) by simp [encL]; omega, show encL ([a, b, c, d].set 2 w) = a + 16 * b + 2 ^ 8 * (w + 16 * encL [d]) by simp [encL]; omega]
      exact this
    · have := nib_set (e := 12) (lo := a + 16 * b + 256 * c) (x := d) (w := w) (hi := encL []) (by omega) hd hw (by decide) (by simp [encL]; omega) (by simp [encL]; omega)
      rw [show encL [a, b, c, d] = a + 16 * b + 256 * c + 2 ^ 12 * (d + 16 * encL []) by simp [encL]; omega, show encL ([a, b, c, d].set 3 w) = a + 16 * b + 256 * c + 2 ^ 12 * (w + 16 * encL []) by simp [encL]; omega]
      exact this
theorem after_5 (hc : CR u v) (hw : WF v) (hcn : c < nOf v) (hk : kdOf v = 5) (hL : ∀ w, w ∈ s.2 → w ≤ nOf v) (hl : s.2.length = 4) : j_X3_after T u (nI c) (enc v s) = some (enc v (nxt v T c s)) := by
  have hn := hw.2.1
  obtain ⟨z5, z6, z7⟩ := hc.at (show c < 10 by omega)
  obtain ⟨e, he⟩ := ky_5 hw hcn hk
  have h0 : u.1 0 = 5 := by rw [hc.1, hk]; rfl
  rw [nxt_5 hk, enc_l (by omega), enc_l (by omega)]
  unfold j_X3_after j_X3_mapAfter
  rw [h0, if_neg (show ¬ (5 : Int32) = 0 by decide), if_neg (show ¬ (5 : Int32) = 1 by decide), if_neg (show ¬ (5 : Int32) = 2 by decide), if_neg (show ¬ (5 : Int32) = 3 by decide), if_neg (show ¬ (5 : Int32) = 4 by decide), if_pos rfl]
  simp only [nm, gd_nI (show c < 10 by omega) (by decide : 10 < 2 ^ 31), nI_clamp (show c < 2 ^ 31 by omega), z5, z6, z7, ac_0 (hw.ac hcn), ac_1 (hw.ac hcn)]
  rw [e, valueAt_c hc hw hL (by omega) he, nI_l (by omega), lN_1, set_c hl (fun w hw => by have := hL w hw; omega) he (by omega)]
  simp only [Option.bind_some, show ¬ (1 : Int32) = 0 by decide, if_false, if_true]
  unfold mpV
  by_cases h1 : vAt v (s.2.getD (kyOf v c) 0) = bOf v c >>> ((16 : Int32) &&& 31)
  · rw [if_pos h1, if_pos h1]
    split
    · rfl
    · split <;> rfl
  · rw [if_neg h1, if_neg h1]
    split
    · rfl
    · split <;> rfl
/-! a machine -/
theorem has_c {m x : Nat} (hm : m < 8) (hx : x < 4) : j_X5_has (lN m) (nI x) = some 1 := by
  unfold j_X5_has
  rw [if_neg (fun z => by
    have := (lg_cmp_lt _ _).mp z
    rw [show (0 : Int64) = lN 0 from rfl, pk_lLT (by omega) (by decide)] at this
    omega), if_neg (fun z => by
    have := (lg_cmp_ge _ _).mp z
    rw [show (8 : Int64) = lN 8 from rfl, pk_lLE (by decide) (by omega)] at this
    omega), if_neg (nI_pos (by omega)), if_neg (show ¬ (4 : Int32) ≤ nI x from nI_ge (b := 4) hx (by decide))]
theorem place_c {m x : Nat} : j_X5_placeOf (lN m) (nI x) = some (nI (4 * m + x)) := by
  unfold j_X5_placeOf
  rw [lN_i, show (4 : Int32) = nI 4 from rfl, pk_mul, nI_add, Nat.mul_comm]
theorem WF.ac6 {v : HVT} (h : WF v) {c : Nat} (hc : c < nOf v) (hk : kdOf v = 6) : acOf v c < 4 := by
  have := (h.2.2.2.1 c hc).2.1
  rw [hk] at this
  exact this
theorem reply_6 (hc : CR u v) (hw : WF v) (hcn : c < nOf v) (hk : kdOf v = 6) (hT : TQ v T) {m : Nat} (hm : m < 8) (hs : s.1 = nI m) : j_X3_reply T u (nI c) (enc v s) = some (rpl v T c s) := by
  have hn := hw.2.1
  obtain ⟨z5, z6, z7⟩ := hc.at (show c < 10 by omega)
  have h0 : u.1 0 = 6 := by rw [hc.1, hk]; rfl
  obtain ⟨q, rfl, hq⟩ := hT hk
  have ha := hw.ac6 hcn hk
  rw [rpl_6 hk, enc_i (by omega), hs, nI_clamp (by omega), nI_l (by omega)]
  unfold j_X3_reply tcase
  rw [h0, if_neg (show ¬ (6 : Int32) = 0 by decide), if_neg (show ¬ (6 : Int32) = 1 by decide), if_neg (show ¬ (6 : Int32) = 2 by decide), if_neg (show ¬ (6 : Int32) = 3 by decide), if_neg (show ¬ (6 : Int32) = 4 by decide), if_neg (show ¬ (6 : Int32) = 5 by decide), if_pos rfl]
  show gd (nI c) 10 ((j_X5_answerIn q u (lN m) (u.2.1 5 (nI c).toNatClampNeg)).bind (fun r => some r)) = _
  rw [gd_nI (by omega) (by decide), nI_clamp (by omega), z5]
  unfold j_X5_answerIn
  rw [has_c hm ha, b1, place_c]
  show (gd (nI (4 * m + acOf v c)) 32 (some (q.1 (nI (4 * m + acOf v c)).toNatClampNeg))).bind _ = _
  rw [gd_nI (by omega) (by decide), nI_clamp (by omega)]
  rfl
theorem after_6 (hc : CR u v) (hw : WF v) (hcn : c < nOf v) (hk : kdOf v = 6) (hT : TQ v T) {m : Nat} (hm : m < 8) (hs : s.1 = nI m) : j_X3_after T u (nI c) (enc v s) = some (enc v (nxt v T c s)) := by
  have hn := hw.2.1
  obtain ⟨z5, z6, z7⟩ := hc.at (show c < 10 by omega)
  have h0 : u.1 0 = 6 := by rw [hc.1, hk]; rfl
  obtain ⟨q, rfl, hq⟩ := hT hk
  have ha := hw.ac6 hcn hk
  rw [nxt_6 hk, enc_i (by omega), enc_i (by omega), hs, nI_clamp (by omega), nI_l (by omega)]
  unfold j_X3_after tcase
  rw [h0, if_neg (show ¬ (6 : Int32) = 0 by decide), if_neg (show ¬ (6 : Int32) = 1 by decide), if_neg (show ¬ (6 : Int32) = 2 by decide), if_neg (show ¬ (6 : Int32) = 3 by decide), if_neg (show ¬ (6 : Int32) = 4 by decide), if_neg (show ¬ (6 : Int32) = 5 by decide), if_pos rfl]
  show gd (nI c) 10 ((j_X5_nextIn q u (lN m) (u.2.1 5 (nI c).toNatClampNeg)).bind (fun r => some r.toInt64)) = _
  rw [gd_nI (by omega) (by decide), nI_clamp (by omega), z5]
  unfold j_X5_nextIn
  rw [has_c hm ha, b1, place_c]
  show (gd (nI (4 * m + acOf v c)) 32 (some (q.2 (nI (4 * m + acOf v c)).toNatClampNeg))).bind _ = _
  rw [gd_nI (by omega) (by decide), nI_clamp (by omega)]
  rfl
end CLS2
