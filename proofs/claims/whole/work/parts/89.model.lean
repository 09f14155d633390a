/-! ===== the models: what a thing answers and becomes ===== -/
abbrev Sg : Type := Int32 × List Nat
/-- what the writer w - 1 wrote; 0: none -/
def vAt (v : HVT) (w : Nat) : Int32 := if w = 0 then 0 else if acOf v (w - 1) = 1 then bOf v (w - 1) else (bOf v (w - 1)).toInt16.toInt32
def kyOf (v : HVT) (c : Nat) : Nat := (aOf v c).toNatClampNeg
def tkL (v : HVT) : List Nat → Int32
  | [] => -1
  | w :: _ => aOf v (w - 1)
def mpV (v : HVT) (c : Nat) (s : Sg) : Int32 := vAt v (s.2.getD (kyOf v c) 0)
def tbA (T : TbT) (x : Nat) : Int32 := match T with
  | none => 0
  | some q => q.1 x
def tbN (T : TbT) (x : Nat) : Int32 := match T with
  | none => 0
  | some q => q.2 x
def clr (m k : Nat) : Nat := m &&& (65535 ^^^ 2 ^ k)
/-- what call c is answered in s -/
def rpl (v : HVT) (T : TbT) (c : Nat) (s : Sg) : Int32 :=
  if kdOf v = 0 then (if acOf v c = 0 then s.1 else if acOf v c = 1 then 0 else if s.1 = aOf v c then 1 else 0)
  else if kdOf v = 1 then (if acOf v c = 0 then s.1 else s.1 + aOf v c)
  else if kdOf v = 2 ∨ kdOf v = 3 then (if acOf v c = 0 then nI (s.2.length + 1) else tkL v s.2)
  else if kdOf v = 4 then (if s.1.toNatClampNeg.testBit (kyOf v c) then (if acOf v c = 0 then 0 else 1) else (if acOf v c = 0 then 1 else 0))
  else if kdOf v = 5 then (if acOf v c = 0 then mpV v c s else if acOf v c = 1 then 0 else if mpV v c s = bOf v c >>> ((16 : Int32) &&& 31) then 1 else 0)
  else tbA T (4 * s.1.toNatClampNeg + acOf v c)
/-- what it becomes -/
def nxt (v : HVT) (T : TbT) (c : Nat) (s : Sg) : Sg :=
  if kdOf v = 0 then (if acOf v c = 0 then s.1 else if acOf v c = 1 then aOf v c else if s.1 = aOf v c then bOf v c else s.1, [])
  else if kdOf v = 1 then (if acOf v c = 0 then s.1 else s.1 + aOf v c, [])
  else if kdOf v = 2 then (0, if acOf v c = 0 then s.2 ++ [c + 1] else s.2.tail)
  else if kdOf v = 3 then (0, if acOf v c = 0 then (c + 1) :: s.2 else s.2.tail)
  else if kdOf v = 4 then (if acOf v c = 0 then nI (s.1.toNatClampNeg ||| 2 ^ kyOf v c) else if acOf v c = 1 then nI (clr s.1.toNatClampNeg (kyOf v c)) else s.1, [])
  else if kdOf v = 5 then (0, if acOf v c = 0 then s.2 else if acOf v c = 1 then s.2.set (kyOf v c) (c + 1) else if mpV v c s = bOf v c >>> ((16 : Int32) &&& 31) then s.2.set (kyOf v c) (c + 1) else s.2)
  else (tbN T (4 * s.1.toNatClampNeg + acOf v c), [])
def encL : List Nat → Nat
  | [] => 0
  | w :: L => w + 16 * encL L
/-- the state as a long -/
def enc (v : HVT) (s : Sg) : Int64 := if kdOf v = 2 ∨ kdOf v = 3 ∨ kdOf v = 5 then lN (encL s.2) else s.1.toInt64
def s0 (v : HVT) : Sg := (0, if kdOf v = 5 then [0, 0, 0, 0] else [])
/-- states as they come -/
def Gd (v : HVT) (p : Nat) (s : Sg) : Prop :=
  ((kdOf v = 0 ∨ kdOf v = 1) ∧ s.2 = []) ∨ ((kdOf v = 2 ∨ kdOf v = 3) ∧ s.1 = 0 ∧ s.2.length + fr (nOf v) p ≤ nOf v ∧ ∀ w, w ∈ s.2 → 1 ≤ w ∧ w ≤ nOf v) ∨
  (kdOf v = 4 ∧ s.2 = [] ∧ ∃ m, m < 65536 ∧ s.1 = nI m) ∨ (kdOf v = 5 ∧ s.1 = 0 ∧ s.2.length = 4 ∧ ∀ w, w ∈ s.2 → w ≤ nOf v) ∨ (kdOf v = 6 ∧ s.2 = [] ∧ ∃ m, m < 8 ∧ s.1 = nI m)
/-- of a machine the table is there -/
def TQ (v : HVT) (T : TbT) : Prop := kdOf v = 6 → ∃ q, T = some q ∧ ∀ i, i < 32 → ∃ x, x < 8 ∧ q.2 i = nI x
theorem Gd_0 {v : HVT} (hw : WF v) : Gd v 0 (s0 v) := by
  have hk := hw.1
  unfold Gd s0
  rcases (show kdOf v = 0 ∨ kdOf v = 1 ∨ kdOf v = 2 ∨ kdOf v = 3 ∨ kdOf v = 4 ∨ kdOf v = 5 ∨ kdOf v = 6 by omega) with h | h | h | h | h | h | h
  · rw [h]; exact Or.inl ⟨Or.inl rfl, rfl⟩
  · rw [h]; exact Or.inl ⟨Or.inr rfl, rfl⟩
  · rw [h]
    refine Or.inr (Or.inl ⟨Or.inl rfl, rfl, ?_, fun w hw => absurd hw (List.not_mem_nil)⟩)
    show 0 + fr (nOf v) 0 ≤ _
    rw [fr_0]
    omega
  · rw [h]
    refine Or.inr (Or.inl ⟨Or.inr rfl, rfl, ?_, fun w hw => absurd hw (List.not_mem_nil)⟩)
    show 0 + fr (nOf v) 0 ≤ _
    rw [fr_0]
    omega
  · rw [h]; exact Or.inr (Or.inr (Or.inl ⟨rfl, rfl, 0, by decide, rfl⟩))
  · rw [h]
    refine Or.inr (Or.inr (Or.inr (Or.inl ⟨rfl, rfl, rfl, fun w hw => ?_⟩)))
    rw [if_pos rfl] at hw
    simp at hw
    omega
  · rw [h]; exact Or.inr (Or.inr (Or.inr (Or.inr ⟨rfl, rfl, 0, by decide, rfl⟩)))
theorem enc_0 (v : HVT) : enc v (s0 v) = 0 := by
  unfold enc s0
  by_cases h : kdOf v = 2 ∨ kdOf v = 3 ∨ kdOf v = 5
  · rw [if_pos h]
    by_cases h5 : kdOf v = 5
    · rw [if_pos h5]
      rfl
    · rw [if_neg h5]
      rfl
  · rw [if_neg h]
    rfl
theorem i64_32 (x : Int32) : x.toInt64.toInt32 = x := by simp
theorem i64_eq (x y : Int32) : lg_cmp x.toInt64 y.toInt64 = 0 ↔ x = y := by
  rw [lg_cmp_eq]
  constructor
  · intro h
    rw [← i64_32 x, h, i64_32]
  · intro h
    rw [h]
theorem encL_lt : ∀ L : List Nat, (∀ w, w ∈ L → w < 16) → encL L < 16 ^ L.length
  | [], _ => by decide
  | w :: L, h => by
    have h1 := encL_lt L (fun x hx => h x (List.mem_cons_of_mem w hx))
    have h2 := h w List.mem_cons_self
    show w + 16 * encL L < 16 ^ (L.length + 1)
    rw [Nat.pow_succ]
    omega
theorem encL_ge : ∀ L : List Nat, (∀ w, w ∈ L → 1 ≤ w) → L ≠ [] → 16 ^ (L.length - 1) ≤ encL L
  | [], _, h => absurd rfl h
  | [w], h, _ => by
    have := h w List.mem_cons_self
    show 1 ≤ w + 16 * 0
    omega
  | w :: x :: L, h, _ => by
    have h1 := encL_ge (x :: L) (fun y hy => h y (List.mem_cons_of_mem w hy)) (List.cons_ne_nil x L)
    show 16 ^ (L.length + 1) ≤ w + 16 * encL (x :: L)
    have h2 : 16 ^ L.length ≤ encL (x :: L) := h1
    rw [Nat.pow_succ]
    omega
theorem encL_app : ∀ (L : List Nat) (w : Nat), encL (L ++ [w]) = encL L + w * 16 ^ L.length
  | [], w => by
    show w + 16 * 0 = 0 + w * 1
    omega
  | x :: L, w => by
    show x + 16 * encL (L ++ [w]) = x + 16 * encL L + w * 16 ^ (L.length + 1)
    rw [encL_app L w, Nat.pow_succ, Nat.mul_add, ← Nat.mul_assoc w, Nat.mul_comm (w * 16 ^ L.length) 16, Nat.add_assoc]
theorem lenL {L : List Nat} (h : ∀ w, w ∈ L → 1 ≤ w ∧ w < 16) (hl : L.length ≤ 10) : j_X3_lengthOf (lN (encL L)) = some (nI L.length) := by
  cases L with
  | nil => exact len_0
  | cons w L =>
    have h1 := encL_lt (w :: L) (fun x hx => (h x hx).2)
    have h2 := encL_ge (w :: L) (fun x hx => (h x hx).1) (List.cons_ne_nil w L)
    have hl' : L.length + 1 ≤ 10 := hl
    exact len_k (k := L.length) (by omega) h2 h1
theorem encL_div (w : Nat) (L : List Nat) (h : w < 16) : encL (w :: L) / 16 = encL L ∧ encL (w :: L) % 16 = w := by
  show (w + 16 * encL L) / 16 = _ ∧ (w + 16 * encL L) % 16 = _
  omega
theorem p40 {L : List Nat} (h : ∀ w, w ∈ L → w < 16) (hl : L.length ≤ 10) : encL L < 2 ^ 40 := by
  have h1 := encL_lt L h
  have h2 : 16 ^ L.length ≤ 16 ^ 10 := Nat.pow_le_pow_right (by decide) hl
  have h3 : (16 : Nat) ^ 10 = 2 ^ 40 := by decide
  omega
/-! the parts of one call -/
theorem CR.at {u : St} {v : HVT} (h : CR u v) {c : Nat} (hc : c < 10) : u.2.1 5 c = nI (acOf v c) ∧ u.2.1 6 c = aOf v c ∧ u.2.1 7 c = bOf v c :=
  ⟨(h.2.2.2 c hc).2.1, (h.2.2.2 c hc).2.2.1, (h.2.2.2 c hc).2.2.2.1⟩
theorem WF.ac {v : HVT} (h : WF v) {c : Nat} (hc : c < nOf v) : acOf v c < 5 :=
  Nat.lt_of_lt_of_le (h.2.2.2.1 c hc).2.1 (Nat.le_of_lt (acts_b _ h.1))
theorem ac_0 {x : Nat} (h : x < 5) : (nI x = 0) = (x = 0) := propext (nI_eq (b := 0) (by omega) (by decide))
theorem ac_1 {x : Nat} (h : x < 5) : (nI x = 1) = (x = 1) := propext (nI_eq (b := 1) (by omega) (by decide))
theorem kd_n {x k : Nat} (h : x < 7) (hk : k < 7) : (nI x = nI k) = (x = k) := propext (nI_eq (by omega) (by omega))
section KIND
variable {v : HVT} {T : TbT} {c : Nat} {s : Sg}
theorem rpl_0 (h : kdOf v = 0) : rpl v T c s = (if acOf v c = 0 then s.1 else if acOf v c = 1 then 0 else if s.1 = aOf v c then 1 else 0) := by
  unfold rpl
  simp [h]
theorem nxt_0 (h : kdOf v = 0) : nxt v T c s = (if acOf v c = 0 then s.1 else if acOf v c = 1 then aOf v c else if s.1 = aOf v c then bOf v c else s.1, []) := by
  unfold nxt
  simp [h]
theorem rpl_1 (h : kdOf v = 1) : rpl v T c s = (if acOf v c = 0 then s.1 else s.1 + aOf v c) := by
  unfold rpl
  simp [h]
theorem nxt_1 (h : kdOf v = 1) : nxt v T c s = (if acOf v c = 0 then s.1 else s.1 + aOf v c, []) := by
  unfold nxt
  simp [h]
theorem rpl_2 (h : kdOf v = 2) : rpl v T c s = (if acOf v c = 0 then nI (s.2.length + 1) else tkL v s.2) := by
  unfold rpl
  simp [h]
theorem nxt_2 (h : kdOf v = 2) : nxt v T c s = (0, if acOf v c = 0 then s.2 ++ [c + 1] else s.2.tail) := by
  unfold nxt
  simp [h]
theorem rpl_3 (h : kdOf v = 3) : rpl v T c s = (if acOf v c = 0 then nI (s.2.length + 1) else tkL v s.2) := by
  unfold rpl
  simp [h]
theorem nxt_3 (h : kdOf v = 3) : nxt v T c s = (0, if acOf v c = 0 then (c + 1) :: s.2 else s.2.tail) := by
  unfold nxt
  simp [h]
theorem rpl_4 (h : kdOf v = 4) : rpl v T c s = (if s.1.toNatClampNeg.testBit (kyOf v c) then (if acOf v c = 0 then 0 else 1) else (if acOf v c = 0 then 1 else 0)) := by
  unfold rpl
  simp [h]
theorem nxt_4 (h : kdOf v = 4) : nxt v T c s = (if acOf v c = 0 then nI (s.1.toNatClampNeg ||| 2 ^ kyOf v c) else if acOf v c = 1 then nI (clr s.1.toNatClampNeg (kyOf v c)) else s.1, []) := by
  unfold nxt
  simp [h]
theorem rpl_5 (h : kdOf v = 5) : rpl v T c s = (if acOf v c = 0 then mpV v c s else if acOf v c = 1 then 0 else if mpV v c s = bOf v c >>> ((16 : Int32) &&& 31) then 1 else 0) := by
  unfold rpl
  simp [h]
theorem nxt_5 (h : kdOf v = 5) : nxt v T c s = (0, if acOf v c = 0 then s.2 else if acOf v c = 1 then s.2.set (kyOf v c) (c + 1) else if mpV v c s = bOf v c >>> ((16 : Int32) &&& 31) then s.2.set (kyOf v c) (c + 1) else s.2) := by
  unfold nxt
  simp [h]
theorem rpl_6 (h : kdOf v = 6) : rpl v T c s = tbA T (4 * s.1.toNatClampNeg + acOf v c) := by
  unfold rpl
  simp [h]
theorem nxt_6 (h : kdOf v = 6) : nxt v T c s = (tbN T (4 * s.1.toNatClampNeg + acOf v c), []) := by
  unfold nxt
  simp [h]
theorem enc_i (h : kdOf v = 0 ∨ kdOf v = 1 ∨ kdOf v = 4 ∨ kdOf v = 6) : enc v s = s.1.toInt64 := by
  unfold enc
  rw [if_neg (by omega)]
theorem enc_l (h : kdOf v = 2 ∨ kdOf v = 3 ∨ kdOf v = 5) : enc v s = lN (encL s.2) := by
  unfold enc
  rw [if_pos h]
end KIND
section CLS
variable {u : St} {v : HVT} {T : TbT} {c p : Nat} {s : Sg}
theorem reply_0 (hc : CR u v) (hw : WF v) (hcn : c < nOf v) (hk : kdOf v = 0) : j_X3_reply T u (nI c) (enc v s) = some (rpl v T c s) := by
  have hn := hw.2.1
  have h0 : u.1 0 = 0 := by rw [hc.1, hk]; rfl
  obtain ⟨z5, z6, z7⟩ := hc.at (show c < 10 by omega)
  rw [rpl_0 hk, enc_i (Or.inl hk)]
  unfold j_X3_reply j_X3_cellReply
  rw [if_pos h0, gd_nI (by omega) (by decide), gd_nI (by omega) (by decide), nI_clamp (by omega), z5, z6, i64_32]
  simp only [ac_0 (hw.ac hcn), ac_1 (hw.ac hcn)]
  split
  · rfl
  · split
    · rfl
    · split <;> rfl
theorem after_0 (hc : CR u v) (hw : WF v) (hcn : c < nOf v) (hk : kdOf v = 0) : j_X3_after T u (nI c) (enc v s) = some (enc v (nxt v T c s)) := by
  have hn := hw.2.1
  have h0 : u.1 0 = 0 := by rw [hc.1, hk]; rfl
  obtain ⟨z5, z6, z7⟩ := hc.at (show c < 10 by omega)
  rw [nxt_0 hk, enc_i (Or.inl hk), enc_i (Or.inl hk)]
  unfold j_X3_after j_X3_cellAfter
  rw [if_pos h0]
  simp only [gd_nI (show c < 10 by omega) (by decide : 10 < 2 ^ 31), nI_clamp (show c < 2 ^ 31 by omega), z5, z6, z7, ac_0 (hw.ac hcn), ac_1 (hw.ac hcn), i64_eq]
  split
  · rfl
  · split
    · rfl
    · split <;> rfl
theorem reply_1 (hc : CR u v) (hw : WF v) (hcn : c < nOf v) (hk : kdOf v = 1) : j_X3_reply T u (nI c) (enc v s) = some (rpl v T c s) := by
  have hn := hw.2.1
  have h0 : u.1 0 = 1 := by rw [hc.1, hk]; rfl
  obtain ⟨z5, z6, z7⟩ := hc.at (show c < 10 by omega)
  rw [rpl_1 hk, enc_i (Or.inr (Or.inl hk))]
  unfold j_X3_reply
  rw [h0, if_neg (show ¬ (1 : Int32) = 0 by decide), if_pos rfl]
  simp only [gd_nI (show c < 10 by omega) (by decide : 10 < 2 ^ 31), nI_clamp (show c < 2 ^ 31 by omega), z5, z6, ac_0 (hw.ac hcn), i64_32]
  split <;> rfl
theorem after_1 (hc : CR u v) (hw : WF v) (hcn : c < nOf v) (hk : kdOf v = 1) : j_X3_after T u (nI c) (enc v s) = some (enc v (nxt v T c s)) := by
  have hn := hw.2.1
  have h0 : u.1 0 = 1 := by rw [hc.1, hk]; rfl
  obtain ⟨z5, z6, z7⟩ := hc.at (show c < 10 by omega)
  rw [nxt_1 hk, enc_i (Or.inr (Or.inl hk)), enc_i (Or.inr (Or.inl hk))]
  unfold j_X3_after
  rw [h0, if_neg (show ¬ (1 : Int32) = 0 by decide), if_pos rfl]
  simp only [gd_nI (show c < 10 by omega) (by decide : 10 < 2 ^ 31), nI_clamp (show c < 2 ^ 31 by omega), z5, z6, ac_0 (hw.ac hcn), i64_32]
  split <;> rfl
/-! a line -/
theorem taken_c (hc : CR u v) (hw : WF v) {L : List Nat} (hL : ∀ w, w ∈ L → 1 ≤ w ∧ w ≤ nOf v) (hl : L.length ≤ 10) : j_X3_taken u (lN (encL L)) = some (tkL v L) := by
  have hn := hw.2.1
  have hb := p40 (fun w hw => by have := hL w hw; omega) hl
  unfold j_X3_taken
  simp only [nm]
  rw [show (15 : Int64) = lN (2 ^ 4 - 1) from rfl, wb_mask (by omega) (by decide), lN_i]
  cases L with
  | nil =>
    rw [show nI (encL [] % 2 ^ 4) - 1 = -1 from rfl, hasCall_N hc.2.1 (Or.inl (by decide))]
    rfl
  | cons w L =>
    have h1 := hL w List.mem_cons_self
    have h2 := (encL_div w L (by omega)).2
    rw [show (2 : Nat) ^ 4 = 16 from rfl, h2, show nI w - 1 = nI (w - 1) by
      have := nI_pred (w - 1)
      rwa [show w - 1 + 1 = w by omega] at this, hasCall_Y hc.2.1 (by omega) hn, b1, gd_nI (by omega) (by decide), nI_clamp (by omega), (hc.at (by omega)).2.1]
    rfl
theorem reply_23 (hc : CR u v) (hw : WF v) (hcn : c < nOf v) (hk : kdOf v = 2 ∨ kdOf v = 3) (hL : ∀ w, w ∈ s.2 → 1 ≤ w ∧ w ≤ nOf v) (hl : s.2.length ≤ 10) : j_X3_reply T u (nI c) (enc v s) = some (rpl v T c s) := by
  have hn := hw.2.1
  obtain ⟨z5, z6, z7⟩ := hc.at (show c < 10 by omega)
  have e1 : rpl v T c s = if acOf v c = 0 then nI (s.2.length + 1) else tkL v s.2 := by
    rcases hk with h | h
    · exact rpl_2 h
    · exact rpl_3 h
  have e2 : enc v s = lN (encL s.2) := enc_l (by omega)
  have e3 : j_X3_reply T u (nI c) (lN (encL s.2)) = if nI (acOf v c) = 0 then (j_X3_lengthOf (lN (encL s.2))).bind (fun r => some (r + 1)) else (j_X3_taken u (lN (encL s.2))).bind (fun r => some r) := by
    unfold j_X3_reply
    rcases hk with h | h
    · have h0 : u.1 0 = 2 := by rw [hc.1, h]; rfl
      rw [h0, if_neg (show ¬ (2 : Int32) = 0 by decide), if_neg (show ¬ (2 : Int32) = 1 by decide), if_pos rfl, gd_nI (by omega) (by decide), nI_clamp (by omega), z5]
    · have h0 : u.1 0 = 3 := by rw [hc.1, h]; rfl
      rw [h0, if_neg (show ¬ (3 : Int32) = 0 by decide), if_neg (show ¬ (3 : Int32) = 1 by decide), if_neg (show ¬ (3 : Int32) = 2 by decide), if_pos rfl, gd_nI (by omega) (by decide), nI_clamp (by omega), z5]
  rw [e1, e2, e3, lenL (fun w hw => by have := hL w hw; omega) hl, taken_c hc hw hL hl]
  simp only [Option.bind_some, ac_0 (hw.ac hcn), nI_1]
  split <;> rfl
theorem after_2 (hc : CR u v) (hw : WF v) (hcn : c < nOf v) (hk : kdOf v = 2) (hL : ∀ w, w ∈ s.2 → 1 ≤ w ∧ w ≤ nOf v) (hl : s.2.length < 10) : j_X3_after T u (nI c) (enc v s) = some (enc v (nxt v T c s)) := by
  have hn := hw.2.1
  obtain ⟨z5, z6, z7⟩ := hc.at (show c < 10 by omega)
  have hb := p40 (fun w hw => by have := hL w hw; omega) (Nat.le_of_lt hl)
  have h0 : u.1 0 = 2 := by rw [hc.1, hk]; rfl
  rw [nxt_2 hk, enc_l (by omega), enc_l (by omega)]
  unfold j_X3_after j_X3_putBehind
  rw [h0, if_neg (show ¬ (2 : Int32) = 0 by decide), if_neg (show ¬ (2 : Int32) = 1 by decide), if_pos rfl, gd_nI (by omega) (by decide), nI_clamp (by omega), z5, lenL (fun w hw => by have := hL w hw; omega) (Nat.le_of_lt hl)]
  simp only [Option.bind_some, ac_0 (hw.ac hcn)]
  by_cases ha : acOf v c = 0
  · rw [if_pos ha, if_pos ha, nI_l (by omega), show (4 : Int32) = nI 4 from rfl, pk_mul, show (1 : Int64) = lN 1 from rfl, lN_add, wb_shl _ (by omega)]
    have h16 : (2 : Nat) ^ (s.2.length * 4) = 16 ^ s.2.length := by
      rw [Nat.mul_comm, Nat.pow_mul]
    have h3 : encL (s.2 ++ [c + 1]) < 2 ^ 40 := p40 (fun w hw => by
      rcases List.mem_append.mp hw with z | z
      · have := hL w z; omega
      · rw [List.mem_singleton.mp z]; omega) (by rw [List.length_append]; exact hl)
    have h1 := encL_app s.2 (c + 1)
    have h2 : encL s.2 < 16 ^ s.2.length := encL_lt s.2 (fun w hw => by have := hL w hw; omega)
    rw [h16, wb_or (by omega) (by omega)]
    show some (lN _) = some (lN (encL (s.2 ++ [c + 1])))
    rw [h1, Nat.or_comm, Nat.mul_comm (c + 1), ← h16, ← Nat.two_pow_add_eq_or_of_lt (by rw [h16]; exact h2), Nat.add_comm]
  · rw [if_neg ha, if_neg ha, show (4 : Int32) = nI 4 from rfl, wb_shr (by omega) (by decide)]
    show some (lN _) = some (lN (encL s.2.tail))
    cases hs : s.2 with
    | nil => rfl
    | cons w L =>
      rw [show (2 : Nat) ^ 4 = 16 from rfl, (encL_div w L (by have := hL w (by rw [hs]; exact List.mem_cons_self); omega)).1]
      rfl
theorem after_3 (hc : CR u v) (hw : WF v) (hcn : c < nOf v) (hk : kdOf v = 3) (hL : ∀ w, w ∈ s.2 → 1 ≤ w ∧ w ≤ nOf v) (hl : s.2.length < 10) : j_X3_after T u (nI c) (enc v s) = some (enc v (nxt v T c s)) := by
  have hn := hw.2.1
  obtain ⟨z5, z6, z7⟩ := hc.at (show c < 10 by omega)
  have hb := p40 (fun w hw => by have := hL w hw; omega) (Nat.le_of_lt hl)
  have h0 : u.1 0 = 3 := by rw [hc.1, hk]; rfl
  rw [nxt_3 hk, enc_l (by omega), enc_l (by omega)]
  unfold j_X3_after
  rw [h0, if_neg (show ¬ (3 : Int32) = 0 by decide), if_neg (show ¬ (3 : Int32) = 1 by decide), if_neg (show ¬ (3 : Int32) = 2 by decide), if_pos rfl, gd_nI (by omega) (by decide), nI_clamp (by omega), z5]
  simp only [ac_0 (hw.ac hcn)]
  by_cases ha : acOf v c = 0
  · rw [if_pos ha, if_pos ha, nI_1, nI_l (by omega), show (4 : Int32) = nI 4 from rfl, wb_shl _ (by decide), wb_or (by omega) (by omega)]
    show some (lN _) = some (lN (c + 1 + 16 * encL s.2))
    rw [Nat.mul_comm, ← Nat.two_pow_add_eq_or_of_lt (i := 4) (by omega), Nat.add_comm]
  · rw [if_neg ha, if_neg ha, show (4 : Int32) = nI 4 from rfl, wb_shr (by omega) (by decide)]
    show some (lN _) = some (lN (encL s.2.tail))
    cases hs : s.2 with
    | nil => rfl
    | cons w L =>
      rw [show (2 : Nat) ^ 4 = 16 from rfl, (encL_div w L (by have := hL w (by rw [hs]; exact List.mem_cons_self); omega)).1]
      rfl
end CLS
