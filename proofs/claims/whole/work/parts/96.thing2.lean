/-! ===== the reference's thing: a set, lines ===== -/
section REF2
variable {U : St} {v : HVT} {T : TbT} {i c d : Nat} {s : Sg} {k : St → Int32 → Int32 → Int32 → Int32 → Int32 → Int32 → Int32 → Option (Int32 × St)} {v4 : Int32}
theorem come_4 (hr : RR U i v) (hw : WF v) (hi : i < 12) (hd : d ≤ 9) (hcn : c < nOf v) (hk : kdOf v = 4) (ht : TR v s (thU U (d + 1))) {m : Nat} (hm : m < 65536) (hs : s.1 = nI m) : CK v T c d s U (q_X7_comes_42 k U (nI i) v4 (nI (12 * (d + 1))) (nI (10 * i + c)) (aOf v c) (bOf v c) 12) := by
  have hn := hw.2.1
  obtain ⟨z10, -, -⟩ := hr.at hcn
  obtain ⟨e, he⟩ := ky_4 hw hcn hk
  have h5 : U.2.1 5 i = 4 := by rw [hr.1, hk]; rfl
  have t0 : U.2.1 17 (12 * (d + 1)) = nI m := (ht.1 (by omega)).trans hs
  have s10 : ∀ (x : Int32), (sA U 17 (12 * (d + 1)) x).2.1 10 (10 * i + c) = nI (acOf v c) := fun x => by
    rw [sA_2, if_neg (fun z => absurd z.1 (by decide)), z10]
  unfold CK q_X7_comes_42
  simp only [nm]
  rw [if_pos (show (12 : Int32) ≤ 12 by decide), gd_nI hi (by decide), nI_clamp (show i < 2 ^ 31 by omega), h5, if_neg (show ¬ (4 : Int32) = 0 by decide), if_neg (show ¬ (4 : Int32) = 1 by decide), if_neg (show ¬ (4 : Int32) = 2 by decide), if_neg (show ¬ (4 : Int32) = 3 by decide), if_pos rfl]
  simp only [gd_nI (show 12 * (d + 1) < 132 by omega) (by decide : 132 < 2 ^ 31), gd_nI (show 10 * i + c < 120 by omega) (by decide : 120 < 2 ^ 31), nI_clamp (show 12 * (d + 1) < 2 ^ 31 by omega), nI_clamp (show 10 * i + c < 2 ^ 31 by omega), s10, z10, t0, ac_0 (hw.ac hcn), ac_1 (hw.ac hcn)]
  rw [e, bit_at (by omega) (by omega), or_bit m (by omega), one_shl (show kyOf v c < 31 by omega), clr_I hm he, rpl_4 hk, nxt_4 hk, hs, nI_clamp (show m < 2 ^ 31 by omega)]
  by_cases a0 : acOf v c = 0
  · have a1 : ¬ acOf v c = 1 := by omega
    simp only [if_pos a0, if_neg a1]
    refine ⟨sA U 17 (12 * (d + 1)) (nI (m ||| 2 ^ kyOf v c)), ?_, cfr_sA U _ (by omega), fun _ => sA_at _ _ _ _, fun z => by omega, fun z => by omega, fun z => by omega⟩
    cases m.testBit (kyOf v c) <;> rfl
  · simp only [if_neg a0]
    by_cases a1 : acOf v c = 1
    · simp only [if_pos a1]
      refine ⟨sA U 17 (12 * (d + 1)) (nI (clr m (kyOf v c))), ?_, cfr_sA U _ (by omega), fun _ => sA_at _ _ _ _, fun z => by omega, fun z => by omega, fun z => by omega⟩
      cases m.testBit (kyOf v c) <;> rfl
    · simp only [if_neg a1]
      refine ⟨U, ?_, cfr_refl d U, fun _ => t0, fun z => by omega, fun z => by omega, fun z => by omega⟩
      cases m.testBit (kyOf v c) <;> rfl
/-- the first goes: all step forward -/
theorem line_80 {e l : Nat} {x : Int32} (he : e + 12 ≤ 132) (hl : l ≤ 10) (hl1 : 1 ≤ l) : ∀ f j U, l - j ≤ f → 1 ≤ f → j + 1 ≤ l → ∃ U' : St, j_X7_line_80 f U (nI e) 1 (nI l) x (nI j) = some (x, U') ∧ U'.1 = U.1 ∧ U'.2.2 = U.2.2 ∧ (∀ k, k ≠ 17 → U'.2.1 k = U.2.1 k) ∧ (∀ q, q < e → U'.2.1 17 q = U.2.1 17 q) ∧ U'.2.1 17 (e + 11) = nI (l - 1) ∧ (∀ q, j ≤ q → q + 1 < l → U'.2.1 17 (e + q) = U.2.1 17 (e + (q + 1))) ∧ (∀ q, q < j → U'.2.1 17 (e + q) = U.2.1 17 (e + q))
  | 0, _, _, _, h, _ => absurd h (by decide)
  | f + 1, j, U, h, h1, hj => by
    show ∃ U' : St, q_X7_line_80 (j_X7_line_80 f) U (nI e) 1 (nI l) x (nI j) = _ ∧ _
    unfold q_X7_line_80
    simp only [nm]
    rw [nI_1 j]
    by_cases c : j + 1 = l
    · rw [if_pos (nI_le (by omega) (by omega)), nI_add, show (1 : Int32) = nI 1 from rfl, pk_sub (by omega), pk_sub hl1, show (11 : Int32) = nI 11 from rfl, nI_add, gd_nI (by omega) (by decide), gd_nI (by omega) (by decide), nI_clamp (by omega), nI_clamp (by omega)]
      refine ⟨_, rfl, rfl, rfl, fun k hk => ?_, fun q hq => ?_, sA_at _ _ _ _, fun q h2 h3 => by omega, fun q h2 => ?_⟩
      · funext q
        rw [sA_2, if_neg (fun z => hk z.1), sA_2, if_neg (fun z => hk z.1)]
      · rw [sA_2, if_neg (by omega), sA_2, if_neg (by omega)]
      · rw [sA_2, if_neg (by omega), sA_2, if_neg (by omega)]
    · rw [if_neg (nI_ge (by omega) (by omega)), if_neg one_ne, nI_add, nI_1, gd_nI (by omega) (by decide), gd_nI (by omega) (by decide), nI_clamp (by omega), nI_clamp (by omega)]
      obtain ⟨U', g1, g2, g3, g4, g5, g6, g7, g8⟩ := line_80 he hl hl1 f (j + 1) (sA U 17 (e + j) (U.2.1 17 (e + (j + 1)))) (by omega) (by omega) (by omega)
      refine ⟨U', g1, g2, g3, fun k hk => ?_, fun q hq => ?_, g6, fun q h2 h3 => ?_, fun q h2 => ?_⟩
      · rw [g4 k hk]
        funext q
        rw [sA_2, if_neg (fun z => hk z.1)]
      · rw [g5 q hq, sA_2, if_neg (by omega)]
      · by_cases e2 : q = j
        · rw [e2, g8 j (by omega), sA_at]
        · rw [g7 q (by omega) h3, sA_2, if_neg (by omega)]
      · rw [g8 q (by omega), sA_2, if_neg (by omega)]
theorem line_80s {e l : Nat} {x : Int32} (U : St) (he : e + 12 ≤ 132) (hl : l ≤ 10) (hl1 : 1 ≤ l) : j_X7_line_80 100 U (nI e) 0 (nI l) x 0 = some (x, sA (sA U 17 (e + (l - 1)) 0) 17 (e + 11) (nI (l - 1))) := by
  show q_X7_line_80 (j_X7_line_80 99) U (nI e) 0 (nI l) x 0 = _
  unfold q_X7_line_80
  simp only [nm]
  rw [if_pos trivial, ite_self, nI_add, show nI (e + l) - 1 = nI (e + l - 1) from pk_sub (b := 1) (by omega), show nI l - 1 = nI (l - 1) from pk_sub (b := 1) hl1, show (11 : Int32) = nI 11 from rfl, nI_add, gd_nI (by omega) (by decide), gd_nI (by omega) (by decide), nI_clamp (by omega), nI_clamp (by omega), show e + l - 1 = e + (l - 1) by omega]
theorem line_put {e l : Nat} {w y : Int32} (he : e + 12 ≤ 132) (hl : l < 10) (h11 : U.2.1 17 (e + 11) = nI l) : j_X7_line U (nI e) w 0 y = some (nI (l + 1), sA (sA U 17 (e + l) y) 17 (e + 11) (nI (l + 1))) := by
  unfold j_X7_line
  simp only [nm]
  rw [show (11 : Int32) = nI 11 from rfl, nI_add, gd_nI (by omega) (by decide), nI_clamp (by omega), h11, if_pos trivial, nI_add, gd_nI (by omega) (by decide), gd_nI (by omega) (by decide), nI_clamp (by omega), nI_1]
theorem come_23 (hr : RR U i v) (hw : WF v) (hi : i < 12) (hd : d ≤ 9) (hcn : c < nOf v) (hk : kdOf v = 2 ∨ kdOf v = 3) (ht : TR v s (thU U (d + 1))) (hl : s.2.length < 10) : CK v T c d s U (q_X7_comes_42 k U (nI i) v4 (nI (12 * (d + 1))) (nI (10 * i + c)) (aOf v c) (bOf v c) 12) := by
  have hn := hw.2.1
  obtain ⟨z10, -, -⟩ := hr.at hcn
  have t11 : U.2.1 17 (12 * (d + 1) + 11) = nI s.2.length := by
    rcases hk with h | h
    · exact (ht.2.1 h).1
    · exact (ht.2.2.1 h).1
  have e1 : rpl v T c s = if acOf v c = 0 then nI (s.2.length + 1) else tkL v s.2 := by
    rcases hk with h | h
    · exact rpl_2 h
    · exact rpl_3 h
  have eq : q_X7_comes_42 k U (nI i) v4 (nI (12 * (d + 1))) (nI (10 * i + c)) (aOf v c) (bOf v c) 12 = j_X7_line U (nI (12 * (d + 1))) (if kdOf v = 2 then 1 else 0) (nI (acOf v c)) (aOf v c) := by
    unfold q_X7_comes_42
    rw [if_pos (show (12 : Int32) ≤ 12 by decide), gd_nI hi (by decide), nI_clamp (show i < 2 ^ 31 by omega)]
    have bid : ∀ x : Option (Int32 × St), x.bind (fun ⟨r, w⟩ => some (r, w)) = x := fun x => by cases x <;> rfl
    rcases hk with h | h
    · have h5 : U.2.1 5 i = 2 := by rw [hr.1, h]; rfl
      rw [h5, if_neg (show ¬ (2 : Int32) = 0 by decide), if_neg (show ¬ (2 : Int32) = 1 by decide), if_pos rfl, gd_nI hi (by decide), if_pos rfl, gd_nI (show 10 * i + c < 120 by omega) (by decide), nI_clamp (show 10 * i + c < 2 ^ 31 by omega), z10, if_pos h]
      exact bid _
    · have h5 : U.2.1 5 i = 3 := by rw [hr.1, h]; rfl
      rw [h5, if_neg (show ¬ (3 : Int32) = 0 by decide), if_neg (show ¬ (3 : Int32) = 1 by decide), if_neg (show ¬ (3 : Int32) = 2 by decide), if_pos rfl, gd_nI hi (by decide), if_neg (show ¬ (3 : Int32) = 2 by decide), gd_nI (show 10 * i + c < 120 by omega) (by decide), nI_clamp (show 10 * i + c < 2 ^ 31 by omega), z10, if_neg (by omega)]
      exact bid _
  unfold CK
  rw [eq, e1]
  have hac := hw.ac hcn
  by_cases a0 : acOf v c = 0
  · rw [a0, show nI 0 = 0 from rfl, line_put (by omega) hl t11, if_pos rfl]
    refine ⟨_, rfl, cfr_trans (cfr_sA U _ (by omega)) (cfr_sA _ _ (by omega)), fun z => by omega, fun h => ?_, fun h => ?_, fun z => by omega⟩
    · rw [nxt_2 h, if_pos a0]
      have hlen : (s.2 ++ [c + 1]).length = s.2.length + 1 := by rw [List.length_append]; rfl
      refine ⟨by rw [hlen]; exact sA_at _ _ _ _, fun q hq => ?_⟩
      rw [hlen] at hq
      show (sA (sA U 17 (12 * (d + 1) + s.2.length) (aOf v c)) 17 (12 * (d + 1) + 11) _).2.1 17 (12 * (d + 1) + q) = _
      rw [sA_2, if_neg (by omega), sA_2, List.getD_eq_getElem?_getD]
      by_cases e2 : q = s.2.length
      · rw [if_pos ⟨rfl, by rw [e2]⟩, e2, List.getElem?_append_right (Nat.le_refl _), Nat.sub_self]
        rfl
      · rw [if_neg (by omega), List.getElem?_append_left (by omega), ← List.getD_eq_getElem?_getD]
        exact (ht.2.1 h).2 q (by omega)
    · rw [nxt_3 h, if_pos a0]
      refine ⟨sA_at _ _ _ _, fun q hq => ?_⟩
      have hq' : q < s.2.length + 1 := hq
      show (sA (sA U 17 (12 * (d + 1) + s.2.length) (aOf v c)) 17 (12 * (d + 1) + 11) _).2.1 17 (12 * (d + 1) + (s.2.length + 1 - 1 - q)) = _
      rw [sA_2, if_neg (by omega), sA_2]
      cases q with
      | zero =>
        rw [if_pos ⟨rfl, by omega⟩]
        rfl
      | succ q =>
        rw [if_neg (by omega), show s.2.length + 1 - 1 - (q + 1) = s.2.length - 1 - q by omega]
        exact (ht.2.2.1 h).2 q (by omega)
  · rw [if_neg a0]
    unfold j_X7_line
    simp only [nm]
    rw [show (11 : Int32) = nI 11 from rfl, nI_add, gd_nI (by omega) (by decide), nI_clamp (show 12 * (d + 1) + 11 < 2 ^ 31 by omega), t11, if_neg (show ¬ nI (acOf v c) = 0 from nI_ne (b := 0) (by omega) (by decide) a0)]
    by_cases l0 : s.2.length = 0
    · have hs2 : s.2 = [] := List.length_eq_zero_iff.mp l0
      rw [if_pos (by rw [l0]; rfl)]
      refine ⟨U, by rw [hs2]; rfl, cfr_refl d U, fun z => by omega, fun h => ?_, fun h => ?_, fun z => by omega⟩
      · rw [nxt_2 h, if_neg a0, hs2]
        refine ⟨by show U.2.1 17 (12 * (d + 1) + 11) = _; rw [t11, l0]; rfl, fun q hq => absurd hq (Nat.not_lt_zero q)⟩
      · rw [nxt_3 h, if_neg a0, hs2]
        refine ⟨by show U.2.1 17 (12 * (d + 1) + 11) = _; rw [t11, l0]; rfl, fun q hq => absurd hq (Nat.not_lt_zero q)⟩
    · rw [if_neg (show ¬ nI s.2.length = 0 from nI_ne (b := 0) (by omega) (by decide) l0)]
      have tk : ∀ w L, s.2 = w :: L → tkL v s.2 = aOf v (s.2.getD 0 0 - 1) := by
        intro w L h
        rw [h]
        rfl
      have tk0 : tkL v s.2 = aOf v (s.2.getD 0 0 - 1) := by
        cases hs : s.2 with
        | nil =>
          rw [hs] at l0
          exact absurd rfl l0
        | cons w L => rfl
      have htail : ∀ q, s.2.tail.getD q 0 = s.2.getD (q + 1) 0 := by
        intro q
        cases s.2 <;> rfl
      have hlt : s.2.tail.length = s.2.length - 1 := List.length_tail
      rcases hk with h | h
      · rw [if_pos h, if_neg one_ne, gd_nI (by omega) (by decide), nI_clamp (show 12 * (d + 1) < 2 ^ 31 by omega)]
        have hfirst : U.2.1 17 (12 * (d + 1)) = tkL v s.2 := ((ht.2.1 h).2 0 (by omega)).trans tk0.symm
        rw [hfirst]
        obtain ⟨U', g1, g2, g3, g4, g5, g6, g7, g8⟩ := line_80 (e := 12 * (d + 1)) (l := s.2.length) (x := tkL v s.2) (by omega) (by omega) (by omega) 100 0 U (by omega) (by omega) (by omega)
        refine ⟨U', g1, ⟨g2, g3, g4, g5⟩, fun z => by omega, fun _ => ?_, fun z => by omega, fun z => by omega⟩
        rw [nxt_2 h, if_neg a0]
        refine ⟨by show U'.2.1 17 (12 * (d + 1) + 11) = _; rw [g6, ← hlt], fun q hq => ?_⟩
        have hq' : q < s.2.tail.length := hq
        show U'.2.1 17 (12 * (d + 1) + q) = aOf v (s.2.tail.getD q 0 - 1)
        rw [g7 q (Nat.zero_le q) (by omega), htail]
        exact (ht.2.1 h).2 (q + 1) (by omega)
      · rw [if_neg (show ¬ kdOf v = 2 by omega), if_pos rfl, nI_add, show (1 : Int32) = nI 1 from rfl, pk_sub (by omega), gd_nI (by omega) (by decide), nI_clamp (by omega), show 12 * (d + 1) + s.2.length - 1 = 12 * (d + 1) + (s.2.length - 1 - 0) by omega]
        have hlast : U.2.1 17 (12 * (d + 1) + (s.2.length - 1 - 0)) = tkL v s.2 := ((ht.2.2.1 h).2 0 (by omega)).trans tk0.symm
        rw [hlast, line_80s U (by omega) (by omega) (by omega)]
        refine ⟨_, rfl, cfr_trans (cfr_sA U _ (by omega)) (cfr_sA _ _ (by omega)), fun z => by omega, fun z => by omega, fun _ => ?_, fun z => by omega⟩
        rw [nxt_3 h, if_neg a0]
        refine ⟨by rw [← hlt]; exact sA_at _ _ _ _, fun q hq => ?_⟩
        have hq' : q < s.2.tail.length := hq
        show (sA (sA U 17 (12 * (d + 1) + (s.2.length - 1)) 0) 17 (12 * (d + 1) + 11) _).2.1 17 (12 * (d + 1) + (s.2.tail.length - 1 - q)) = aOf v (s.2.tail.getD q 0 - 1)
        rw [sA_2, if_neg (by omega), sA_2, if_neg (by omega), htail, show s.2.tail.length - 1 - q = s.2.length - 1 - (q + 1) by omega]
        exact (ht.2.2.1 h).2 (q + 1) (by omega)
end REF2
