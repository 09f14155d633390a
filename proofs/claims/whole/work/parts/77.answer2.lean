def ansC (u : St) (c tk : Nat) (x : Int32) : St := sA (sA (sI u 3 (nI (tk + 1))) 9 c (nI (tk + 1))) 10 c x
theorem end_c {u : St} {n c tk : Nat} {x : Int32} (hu : u.1 2 = nI n) (h3 : u.1 3 = nI tk) (hc : c < n) (hn : n ≤ 10) : j_X1_end u (nI c) x = some (nI (tk + 1), ansC u c tk x) := by
  unfold j_X1_end nm
  rw [hasCall_Y hu hc hn]
  simp only [Option.bind_some]
  rw [if_neg one_ne, nI_clamp (show c < 2 ^ 31 by omega)]
  simp only [gd_nI (show c < 10 by omega) (by decide : 10 < 2 ^ 31)]
  rw [h3, nI_1]
  rfl
theorem answer_c {T : TbT} {a6 sh n c tk : Nat} {t : Nat → Int32} {u : St} {y x : Int32} (hu : u.1 2 = nI n) (h3 : u.1 3 = nI tk) (hc : c < n) (hn : n ≤ 10) : j_X6_answer_Y T a6 t u sh y (nI c) x = if u.2.1 9 c = 0 then some (nI (tk + 1), t, ansC u c tk x, sh) else some (-3, t, u, sh) := by
  unfold j_X6_answer_Y
  rw [hasCall_Y hu hc hn, isOpen_c hu hc hn, end_c hu h3 hc hn]
  simp only [Option.bind_some]
  rw [if_neg one_ne]
  by_cases e : u.2.1 9 c = 0
  · rw [if_pos e, if_pos e, if_neg one_ne]
  · rw [if_neg e, if_neg e, if_pos rfl]
theorem CR_ans {u : St} {v : HVT} {c : Nat} {x : Int32} (h : CR u v) : CR (ansC u c (tkOf v) x) (ansV v c x) := by
  obtain ⟨h1, h2, h3, h4⟩ := h
  refine ⟨h1, h2, rfl, fun q hq => ?_⟩
  obtain ⟨z1, z2, z3, z4, z5, z6, z7⟩ := h4 q hq
  refine ⟨z1, z2, z3, z4, z5, ?_, ?_⟩
  · show (sA (sA (sI u 3 (nI (tkOf v + 1))) 9 c (nI (tkOf v + 1))) 10 c x).2.1 9 q = nI (if q = c then tkOf v + 1 else enOf v q)
    rw [sA_2, if_neg (fun z => absurd z.1 (by decide)), sA_2]
    by_cases e : q = c
    · rw [if_pos ⟨rfl, e⟩, if_pos e]
    · rw [if_neg (fun z => e z.2), if_neg e]
      exact z6
  · show (sA (sA (sI u 3 (nI (tkOf v + 1))) 9 c (nI (tkOf v + 1))) 10 c x).2.1 10 q = if q = c then x else vOf v q
    rw [sA_2]
    by_cases e : q = c
    · rw [if_pos ⟨rfl, e⟩, if_pos e]
    · rw [if_neg (fun z => e z.2), if_neg e]
      exact z7
theorem RR_ans {U : St} {v : HVT} {i c : Nat} {x : Int32} (h : RR U i v) : RR (ansU U i c (tkOf v) x) i (ansV v c x) := by
  obtain ⟨h1, h2, h3, h4⟩ := h
  refine ⟨h1, h2, ?_, fun q hq => ?_⟩
  · show (sA (sA (sA U 8 i (nI (tkOf v + 1))) 14 (10 * i + c) (nI (tkOf v + 1))) 15 (10 * i + c) x).2.1 8 i = nI (tkOf v + 1)
    rw [sA_2, if_neg (fun z => absurd z.1 (by decide)), sA_2, if_neg (fun z => absurd z.1 (by decide)), sA_2, if_pos ⟨rfl, rfl⟩]
  · obtain ⟨z1, z2, z3, z4, z5, z6, z7⟩ := h4 q hq
    refine ⟨z1, z2, z3, z4, z5, ?_, ?_⟩
    · show (sA (sA (sA U 8 i (nI (tkOf v + 1))) 14 (10 * i + c) (nI (tkOf v + 1))) 15 (10 * i + c) x).2.1 14 (10 * i + q) = nI (if q = c then tkOf v + 1 else enOf v q)
      rw [sA_2, if_neg (fun z => absurd z.1 (by decide)), sA_2]
      by_cases e : q = c
      · rw [if_pos ⟨rfl, by rw [e]⟩, if_pos e]
      · rw [if_neg (fun z => e (by omega)), if_neg e]
        exact z6
    · show (sA (sA (sA U 8 i (nI (tkOf v + 1))) 14 (10 * i + c) (nI (tkOf v + 1))) 15 (10 * i + c) x).2.1 15 (10 * i + q) = if q = c then x else vOf v q
      rw [sA_2]
      by_cases e : q = c
      · rw [if_pos ⟨rfl, by rw [e]⟩, if_pos e]
      · rw [if_neg (fun z => e (by omega)), if_neg e]
        exact z7
theorem fc_answer : Fc_answer Iv := by
  intro a1 a2 a3 k0 hk0 t gs hs kt tu tq nT nH U h
  have h' := fc_M k0 hk0 _ _ _ _ _ _ _ _ _ h
  obtain ⟨c1, c2, c3, c4, c5, c6⟩ := h.1
  refine ⟨fun i hi hh a6 sh => ?_, fun hn => ?_⟩
  · subst hh
    obtain ⟨v, v1, v2, v3, v4⟩ := h.2.2.2.2.1 i hi
    have hn10 := v3.2.1
    have hcr : CR (mrg gs (hs i)) v := v1
    have hm := Iv_mrg i h'
    rcases FN_or (nOf v) (by omega) a2 with hx | ⟨c, hc, rfl⟩
    · refine ⟨-1, t, mrg gs (hs i), sh, U, ?_, ?_, hm⟩
      · show j_X6_answer_Y _ _ _ _ _ _ _ _ = _
        unfold j_X6_answer_Y
        rw [hasCall_N hcr.2.1 hx]
        rfl
      · show j_X7_answer _ _ _ _ = _
        unfold j_X7_answer
        rw [isCall_N c4 hi c2 v2.2.1 hx hn10]
        rfl
    · obtain ⟨-, -, -, -, -, z6, -⟩ := hcr.2.2.2 c (by omega)
      obtain ⟨-, -, -, -, -, w6, -⟩ := v2.2.2.2 c hc
      have e1 := answer_c (T := Tq tq (kt i)) (a6 := a6) (sh := sh) (t := t) (y := nI i) (x := a3) hcr.2.1 hcr.2.2.1 hc hn10
      have e2 := answer_r (x := a3) c4 hi c2 v2.2.1 v2.2.2.1 hc hn10
      rw [z6] at e1
      rw [w6] at e2
      by_cases e : nI (enOf v c) = 0
      · rw [if_pos e] at e1 e2
        have e0 : enOf v c = 0 := by
          rcases (v3.2.2.2.1 c hc).2.2.2.2.2.2 with z | z
          · exact z
          · exact absurd e (nI_ne0 (by omega) (by have := v3.tk; omega))
        refine ⟨_, t, _, sh, _, e1, e2, Iv_hist (v' := ansV v c a3) h' i v4 rfl rfl rfl rfl rfl rfl rfl rfl rfl rfl rfl rfl (fun j w hj hne hw hr => RR_other hne hw hr (fun q _ => rfl) (fun q _ => rfl) (fun q hq => ?_) (fun k q h9 h15 hq => ?_)) (CR_ans hcr) (RR_ans v2) (WF_ans v3 hc e0)⟩
        · unfold ansU
          rw [sA_2, if_neg (fun z => absurd z.1 (by decide)), sA_2, if_neg (fun z => absurd z.1 (by decide)), sA_2, if_neg (fun z => hq z.2)]
        · have hn10' := hn10
          unfold ansU
          rw [sA_2, if_neg (fun z => by omega), sA_2, if_neg (fun z => by omega), sA_2, if_neg (fun z => by omega)]
      · rw [if_neg e] at e1 e2
        exact ⟨-3, t, _, sh, U, e1, e2, hm⟩
  · exact ⟨-1, t, U, rfl, by
      show j_X7_answer _ _ _ _ = _
      unfold j_X7_answer
      rw [isCall_NN c4 hn c2]
      rfl, h'⟩
