/-! ===== the reference's thing, place by place ===== -/
/-- what the reference's thing at th holds, of state s -/
def TR (v : HVT) (s : Sg) (th : Nat → Int32) : Prop :=
  ((kdOf v = 0 ∨ kdOf v = 1 ∨ kdOf v = 4 ∨ kdOf v = 6) → th 0 = s.1) ∧
  (kdOf v = 2 → th 11 = nI s.2.length ∧ ∀ q, q < s.2.length → th q = aOf v (s.2.getD q 0 - 1)) ∧
  (kdOf v = 3 → th 11 = nI s.2.length ∧ ∀ q, q < s.2.length → th (s.2.length - 1 - q) = aOf v (s.2.getD q 0 - 1)) ∧
  (kdOf v = 5 → ∀ q, q < 4 → th q = vAt v (s.2.getD q 0))
def thU (U : St) (d : Nat) : Nat → Int32 := fun q => U.2.1 17 (12 * d + q)
/-- nothing but places of the thing behind d differ -/
def cfr (d : Nat) (U U' : St) : Prop := U'.1 = U.1 ∧ U'.2.2 = U.2.2 ∧ (∀ k, k ≠ 17 → U'.2.1 k = U.2.1 k) ∧ ∀ q, q < 12 * (d + 1) → U'.2.1 17 q = U.2.1 17 q
theorem cfr_refl (d : Nat) (U : St) : cfr d U U := ⟨rfl, rfl, fun _ _ => rfl, fun _ _ => rfl⟩
theorem cfr_trans {d : Nat} {a b c : St} (h : cfr d a b) (h2 : cfr d b c) : cfr d a c := ⟨h2.1.trans h.1, h2.2.1.trans h.2.1, fun k hk => (h2.2.2.1 k hk).trans (h.2.2.1 k hk), fun q hq => (h2.2.2.2 q hq).trans (h.2.2.2 q hq)⟩
theorem cfr_sA {d i : Nat} (U : St) (x : Int32) (h : 12 * (d + 1) ≤ i) : cfr d U (sA U 17 i x) := ⟨rfl, rfl, fun k hk => by
  funext q
  rw [sA_2, if_neg (fun z => hk z.1)], fun q hq => by rw [sA_2, if_neg (fun z => by omega)]⟩
theorem RR_cfr {d : Nat} {U U' : St} {i : Nat} {v : HVT} (h : RR U i v) (hf : cfr d U U') : RR U' i v := by
  obtain ⟨-, -, h1, -⟩ := hf
  unfold RR at h ⊢
  rw [h1 5 (by decide), h1 7 (by decide), h1 8 (by decide), h1 9 (by decide), h1 10 (by decide), h1 11 (by decide), h1 12 (by decide), h1 13 (by decide), h1 14 (by decide), h1 15 (by decide)]
  exact h
/-- the machine's table, on both sides -/
def TU (v : HVT) (T : TbT) (U : St) (i : Nat) : Prop := kdOf v = 6 → ∃ (j : Nat) (q : (Nat → Int32) × (Nat → Int32)), T = some q ∧ j < 4 ∧ U.2.1 6 i = nI j ∧ ∀ x, x < 32 → q.1 x = U.2.1 1 (32 * j + x) ∧ q.2 x = U.2.1 2 (32 * j + x) ∧ ∃ y, y < 8 ∧ q.2 x = nI y
theorem TU.tq {v : HVT} {T : TbT} {U : St} {i : Nat} (h : TU v T U i) : TQ v T := fun hk => by
  obtain ⟨j, q, h1, h2, h3, h4⟩ := h hk
  exact ⟨q, h1, fun x hx => (h4 x hx).2.2⟩
theorem TU_cfr {d : Nat} {v : HVT} {T : TbT} {U U' : St} {i : Nat} (h : TU v T U i) (hf : cfr d U U') : TU v T U' i := by
  obtain ⟨-, -, h1, -⟩ := hf
  unfold TU at h ⊢
  rw [h1 1 (by decide), h1 2 (by decide), h1 6 (by decide)]
  exact h
theorem comes_42 {d : Nat} (hd : d ≤ 9) (v1 x6 x7 x8 : Int32) : ∀ f q U, 12 - q < f → q ≤ 12 → ∃ (U1 : St) (k : St → Int32 → Int32 → Int32 → Int32 → Int32 → Int32 → Int32 → Option (Int32 × St)), j_X7_comes_42 f U v1 (nI (12 * d)) (nI (12 * (d + 1))) x6 x7 x8 (nI q) = q_X7_comes_42 k U1 v1 (nI (12 * d)) (nI (12 * (d + 1))) x6 x7 x8 12 ∧ cfr d U U1 ∧ (∀ j, q ≤ j → j < 12 → U1.2.1 17 (12 * (d + 1) + j) = U.2.1 17 (12 * d + j)) ∧ (∀ j, j < q → U1.2.1 17 (12 * (d + 1) + j) = U.2.1 17 (12 * (d + 1) + j))
  | 0, _, _, h, _ => absurd h (Nat.not_lt_zero _)
  | f + 1, q, U, h, hq => by
    by_cases e : q = 12
    · subst e
      exact ⟨U, j_X7_comes_42 f, rfl, cfr_refl d U, fun j h1 h2 => by omega, fun _ _ => rfl⟩
    · obtain ⟨U1, k, g1, g2, g3, g4⟩ := comes_42 hd v1 x6 x7 x8 f (q + 1) (sA U 17 (12 * (d + 1) + q) (U.2.1 17 (12 * d + q))) (by omega) (by omega)
      refine ⟨U1, k, ?_, cfr_trans (cfr_sA U _ (by omega)) g2, fun j h1 h2 => ?_, fun j h1 => ?_⟩
      · rw [← g1]
        show q_X7_comes_42 (j_X7_comes_42 f) U v1 (nI (12 * d)) (nI (12 * (d + 1))) x6 x7 x8 (nI q) = _
        unfold q_X7_comes_42
        rw [if_neg (show ¬ (12 : Int32) ≤ nI q from nI_ge (b := 12) (by omega) (by decide)), nI_add, nI_add, gd_nI (by omega) (by decide), gd_nI (by omega) (by decide), nI_clamp (by omega), nI_clamp (by omega), nI_1]
        rfl
      · by_cases e2 : j = q
        · rw [e2, g4 q (by omega), sA_at]
        · rw [g3 j (by omega) h2, sA_2, if_neg (fun z => by omega)]
      · rw [g4 j (by omega), sA_2, if_neg (fun z => by omega)]
theorem cell_r {U : St} {x ac : Nat} {w e b : Int32} (hx : x < 132) (ha : ac < 5) : j_X7_cell U (nI x) (nI ac) w e b = some (if ac = 0 then U.2.1 17 x else if ac = 1 then 0 else if U.2.1 17 x = e then 1 else 0, if ac = 0 then U else if ac = 1 then sA U 17 x w else if U.2.1 17 x = e then sA U 17 x b else U) := by
  unfold j_X7_cell
  simp only [nm, gd_nI hx (by decide : 132 < 2 ^ 31), nI_clamp (show x < 2 ^ 31 by omega), ac_0 ha, ac_1 ha]
  by_cases a0 : ac = 0
  · rw [if_pos a0, if_pos a0, if_pos a0]
  · rw [if_neg a0, if_neg a0, if_neg a0]
    by_cases a1 : ac = 1
    · rw [if_pos a1, if_pos a1, if_pos a1]
    · rw [if_neg a1, if_neg a1, if_neg a1]
      by_cases a2 : U.2.1 17 x = e
      · rw [if_pos a2, if_pos a2, if_pos a2]
      · rw [if_neg a2, if_neg a2, if_neg a2]
section REF
variable {U : St} {v : HVT} {T : TbT} {i c d : Nat} {s : Sg} {k : St → Int32 → Int32 → Int32 → Int32 → Int32 → Int32 → Int32 → Option (Int32 × St)} {v4 : Int32}
/-- one call comes: what the reference answers, and its next thing -/
def CK (v : HVT) (T : TbT) (c d : Nat) (s : Sg) (U : St) (res : Option (Int32 × St)) : Prop := ∃ U' : St, res = some (rpl v T c s, U') ∧ cfr d U U' ∧ TR v (nxt v T c s) (thU U' (d + 1))
theorem RR.at {U : St} {i : Nat} {v : HVT} (h : RR U i v) {c : Nat} (hc : c < nOf v) : U.2.1 10 (10 * i + c) = nI (acOf v c) ∧ U.2.1 11 (10 * i + c) = aOf v c ∧ U.2.1 12 (10 * i + c) = bOf v c :=
  ⟨(h.2.2.2 c hc).2.1, (h.2.2.2 c hc).2.2.1, (h.2.2.2 c hc).2.2.2.1⟩
theorem come_0 (hr : RR U i v) (hw : WF v) (hi : i < 12) (hd : d ≤ 9) (hcn : c < nOf v) (hk : kdOf v = 0) (ht : TR v s (thU U (d + 1))) : CK v T c d s U (q_X7_comes_42 k U (nI i) v4 (nI (12 * (d + 1))) (nI (10 * i + c)) (aOf v c) (bOf v c) 12) := by
  have hn := hw.2.1
  obtain ⟨z10, -, -⟩ := hr.at hcn
  have h5 : U.2.1 5 i = 0 := by rw [hr.1, hk]; rfl
  have t0 : U.2.1 17 (12 * (d + 1)) = s.1 := ht.1 (Or.inl hk)
  unfold CK q_X7_comes_42
  rw [if_pos (show (12 : Int32) ≤ 12 by decide), gd_nI hi (by decide), nI_clamp (show i < 2 ^ 31 by omega), if_pos h5, gd_nI (by omega) (by decide), nI_clamp (by omega), z10, cell_r (by omega) (hw.ac hcn), Option.bind_some, t0, rpl_0 hk, nxt_0 hk]
  refine ⟨_, rfl, ?_, ?_⟩
  · split
    · exact cfr_refl d U
    · split
      · exact cfr_sA U _ (by omega)
      · split
        · exact cfr_sA U _ (by omega)
        · exact cfr_refl d U
  · refine ⟨fun _ => ?_, fun z => by omega, fun z => by omega, fun z => by omega⟩
    show (if acOf v c = 0 then U else if acOf v c = 1 then sA U 17 (12 * (d + 1)) (aOf v c) else if s.1 = aOf v c then sA U 17 (12 * (d + 1)) (bOf v c) else U).2.1 17 (12 * (d + 1)) = _
    split
    · exact t0
    · split
      · exact sA_at _ _ _ _
      · split
        · exact sA_at _ _ _ _
        · exact t0
theorem come_1 (hr : RR U i v) (hw : WF v) (hi : i < 12) (hd : d ≤ 9) (hcn : c < nOf v) (hk : kdOf v = 1) (ht : TR v s (thU U (d + 1))) : CK v T c d s U (q_X7_comes_42 k U (nI i) v4 (nI (12 * (d + 1))) (nI (10 * i + c)) (aOf v c) (bOf v c) 12) := by
  have hn := hw.2.1
  obtain ⟨z10, -, -⟩ := hr.at hcn
  have h5 : U.2.1 5 i = 1 := by rw [hr.1, hk]; rfl
  have t0 : U.2.1 17 (12 * (d + 1)) = s.1 := ht.1 (Or.inr (Or.inl hk))
  have ha := (hw.2.2.2.1 c hcn).2.1
  rw [hk] at ha
  have ha2 : acOf v c < 2 := ha
  unfold CK q_X7_comes_42
  simp only [nm]
  rw [if_pos (show (12 : Int32) ≤ 12 by decide), gd_nI hi (by decide), nI_clamp (show i < 2 ^ 31 by omega), h5, if_neg (show ¬ (1 : Int32) = 0 by decide), if_pos rfl, gd_nI (show 12 * (d + 1) < 132 by omega) (by decide), gd_nI (show 10 * i + c < 120 by omega) (by decide), nI_clamp (show 10 * i + c < 2 ^ 31 by omega), z10, nI_clamp (show 12 * (d + 1) < 2 ^ 31 by omega), t0, rpl_1 hk, nxt_1 hk]
  simp only [ac_1 (hw.ac hcn), gd_nI (show 12 * (d + 1) < 132 by omega) (by decide : 132 < 2 ^ 31), sA_at]
  by_cases a1 : acOf v c = 1
  · rw [if_pos a1, if_neg (by omega)]
    refine ⟨_, rfl, cfr_sA U _ (by omega), fun _ => ?_, fun z => by omega, fun z => by omega, fun z => by omega⟩
    exact sA_at _ _ _ _
  · rw [if_neg a1, if_pos (by omega), show s.1 + 0 = s.1 from Int32.add_zero _]
    refine ⟨_, rfl, cfr_sA U _ (by omega), fun _ => ?_, fun z => by omega, fun z => by omega, fun z => by omega⟩
    exact sA_at _ _ _ _
theorem come_5 (hr : RR U i v) (hw : WF v) (hi : i < 12) (hd : d ≤ 9) (hcn : c < nOf v) (hk : kdOf v = 5) (ht : TR v s (thU U (d + 1))) (hl : s.2.length = 4) : CK v T c d s U (q_X7_comes_42 k U (nI i) v4 (nI (12 * (d + 1))) (nI (10 * i + c)) (aOf v c) (bOf v c) 12) := by
  have hn := hw.2.1
  obtain ⟨z10, -, -⟩ := hr.at hcn
  obtain ⟨e, he⟩ := ky_5 hw hcn hk
  have h5 : U.2.1 5 i = 5 := by rw [hr.1, hk]; rfl
  have tq := ht.2.2.2 hk
  have t0 : U.2.1 17 (12 * (d + 1) + kyOf v c) = mpV v c s := tq _ he
  unfold CK q_X7_comes_42
  rw [if_pos (show (12 : Int32) ≤ 12 by decide), gd_nI hi (by decide), nI_clamp (show i < 2 ^ 31 by omega), h5, if_neg (show ¬ (5 : Int32) = 0 by decide), if_neg (show ¬ (5 : Int32) = 1 by decide), if_neg (show ¬ (5 : Int32) = 2 by decide), if_neg (show ¬ (5 : Int32) = 3 by decide), if_neg (show ¬ (5 : Int32) = 4 by decide), if_pos rfl, gd_nI (show 10 * i + c < 120 by omega) (by decide), nI_clamp (show 10 * i + c < 2 ^ 31 by omega), z10, e, nI_add, cell_r (by omega) (hw.ac hcn), Option.bind_some, t0, rpl_5 hk, nxt_5 hk]
  have keep : ∀ q, q < 4 → thU U (d + 1) q = vAt v (s.2.getD q 0) := tq
  have put : ∀ x, x = vAt v (c + 1) → ∀ q, q < 4 → thU (sA U 17 (12 * (d + 1) + kyOf v c) x) (d + 1) q = vAt v ((s.2.set (kyOf v c) (c + 1)).getD q 0) := by
    intro x hx q hq
    show (sA U 17 (12 * (d + 1) + kyOf v c) x).2.1 17 (12 * (d + 1) + q) = _
    rw [sA_2, List.getD_eq_getElem?_getD]
    by_cases e2 : q = kyOf v c
    · rw [if_pos ⟨rfl, by rw [e2]⟩, e2, List.getElem?_set_self (by omega)]
      exact hx
    · rw [if_neg (fun z => e2 (by omega)), List.getElem?_set_ne (fun z => e2 z.symm), ← List.getD_eq_getElem?_getD]
      exact tq q hq
  by_cases a0 : acOf v c = 0
  · simp only [if_pos a0]
    exact ⟨_, rfl, cfr_refl d U, fun z => by omega, fun z => by omega, fun z => by omega, fun _ => keep⟩
  · simp only [if_neg a0]
    by_cases a1 : acOf v c = 1
    · simp only [if_pos a1]
      refine ⟨_, rfl, cfr_sA U _ (by omega), fun z => by omega, fun z => by omega, fun z => by omega, fun _ => put _ ?_⟩
      unfold vAt
      rw [if_neg (by omega), Nat.add_sub_cancel, if_pos a1]
    · simp only [if_neg a1]
      by_cases a2 : mpV v c s = bOf v c >>> ((16 : Int32) &&& 31)
      · simp only [if_pos a2]
        refine ⟨_, rfl, cfr_sA U _ (by omega), fun z => by omega, fun z => by omega, fun z => by omega, fun _ => put _ ?_⟩
        unfold vAt
        rw [if_neg (by omega), Nat.add_sub_cancel, if_neg a1]
      · simp only [if_neg a2]
        exact ⟨_, rfl, cfr_refl d U, fun z => by omega, fun z => by omega, fun z => by omega, fun _ => keep⟩
theorem come_6 (hr : RR U i v) (hw : WF v) (hi : i < 12) (hd : d ≤ 9) (hcn : c < nOf v) (hk : kdOf v = 6) (hT : TU v T U i) (ht : TR v s (thU U (d + 1))) {m : Nat} (hm : m < 8) (hs : s.1 = nI m) : CK v T c d s U (q_X7_comes_42 k U (nI i) v4 (nI (12 * (d + 1))) (nI (10 * i + c)) (aOf v c) (bOf v c) 12) := by
  have hn := hw.2.1
  obtain ⟨z10, -, -⟩ := hr.at hcn
  have h5 : U.2.1 5 i = 6 := by rw [hr.1, hk]; rfl
  have t0 : U.2.1 17 (12 * (d + 1)) = nI m := (ht.1 (by omega)).trans hs
  obtain ⟨j, q, hTq, hj, h6, hq⟩ := hT hk
  have ha := hw.ac6 hcn hk
  unfold CK q_X7_comes_42
  simp only [nm]
  rw [if_pos (show (12 : Int32) ≤ 12 by decide), gd_nI hi (by decide), nI_clamp (show i < 2 ^ 31 by omega), h5, if_neg (show ¬ (6 : Int32) = 0 by decide), if_neg (show ¬ (6 : Int32) = 1 by decide), if_neg (show ¬ (6 : Int32) = 2 by decide), if_neg (show ¬ (6 : Int32) = 3 by decide), if_neg (show ¬ (6 : Int32) = 4 by decide), if_neg (show ¬ (6 : Int32) = 5 by decide), gd_nI hi (by decide), gd_nI (show 12 * (d + 1) < 132 by omega) (by decide), gd_nI (show 10 * i + c < 120 by omega) (by decide), nI_clamp (show 12 * (d + 1) < 2 ^ 31 by omega), nI_clamp (show 10 * i + c < 2 ^ 31 by omega), z10, t0, h6, show (32 : Int32) = nI 32 from rfl, show (4 : Int32) = nI 4 from rfl, pk_mul, pk_mul, nI_add, nI_add, gd_nI (show 32 * j + 4 * m + acOf v c < 128 by omega) (by decide), gd_nI (show 12 * (d + 1) < 132 by omega) (by decide), gd_nI (show 32 * j + 4 * m + acOf v c < 128 by omega) (by decide), nI_clamp (show 32 * j + 4 * m + acOf v c < 2 ^ 31 by omega), rpl_6 hk, nxt_6 hk, hs, nI_clamp (show m < 2 ^ 31 by omega), hTq]
  obtain ⟨q1, q2, -⟩ := hq (4 * m + acOf v c) (by omega)
  refine ⟨sA U 17 (12 * (d + 1)) (U.2.1 2 (32 * j + 4 * m + acOf v c)), ?_, cfr_sA U _ (by omega), fun _ => ?_, fun z => by omega, fun z => by omega, fun z => by omega⟩
  · rw [sA_2, if_neg (fun z => absurd z.1 (by decide)), show 32 * j + 4 * m + acOf v c = 32 * j + (4 * m + acOf v c) by omega, ← q1]
    rfl
  · show (sA U 17 (12 * (d + 1)) _).2.1 17 (12 * (d + 1)) = _
    rw [sA_at, show 32 * j + 4 * m + acOf v c = 32 * j + (4 * m + acOf v c) by omega, ← q2]
    rfl
end REF
