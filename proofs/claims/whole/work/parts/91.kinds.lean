/-! ===== every kind: what is answered, what it becomes, that it stays good ===== -/
section ALLK
variable {u : St} {v : HVT} {T : TbT} {c p : Nat} {s : Sg}
theorem reply_c (hc : CR u v) (hw : WF v) (hcn : c < nOf v) (hT : TQ v T) (hG : Gd v p s) : j_X3_reply T u (nI c) (enc v s) = some (rpl v T c s) := by
  have hn := hw.2.1
  rcases hG with ⟨h | h, -⟩ | ⟨h, -, h2, h3⟩ | ⟨h, -, m, h2, h3⟩ | ⟨h, -, h2, h3⟩ | ⟨h, -, m, h2, h3⟩
  · exact reply_0 hc hw hcn h
  · exact reply_1 hc hw hcn h
  · exact reply_23 hc hw hcn h h3 (by omega)
  · exact reply_4 hc hw hcn h h2 h3
  · exact reply_5 hc hw hcn h h3 h2
  · exact reply_6 hc hw hcn h hT h2 h3
theorem after_c (hc : CR u v) (hw : WF v) (hcn : c < nOf v) (hT : TQ v T) (hp : p.testBit c = false) (hG : Gd v p s) : j_X3_after T u (nI c) (enc v s) = some (enc v (nxt v T c s)) := by
  have hn := hw.2.1
  have hf := fr_in hp (nOf v) hcn
  rcases hG with ⟨h | h, -⟩ | ⟨h | h, -, h2, h3⟩ | ⟨h, -, m, h2, h3⟩ | ⟨h, -, h2, h3⟩ | ⟨h, -, m, h2, h3⟩
  · exact after_0 hc hw hcn h
  · exact after_1 hc hw hcn h
  · exact after_2 hc hw hcn h h3 (by omega)
  · exact after_3 hc hw hcn h h3 (by omega)
  · exact after_4 hc hw hcn h h2 h3
  · exact after_5 hc hw hcn h h3 h2
  · exact after_6 hc hw hcn h hT h2 h3
theorem tail_mem {L : List Nat} {w : Nat} (h : w ∈ L.tail) : w ∈ L := List.mem_of_mem_tail h
theorem Gd_nxt (hw : WF v) (hcn : c < nOf v) (hT : TQ v T) (hp : p.testBit c = false) (hG : Gd v p s) : Gd v (p ||| 2 ^ c) (nxt v T c s) := by
  have hn := hw.2.1
  have hf := fr_in hp (nOf v) hcn
  rcases hG with ⟨h, h2⟩ | ⟨h, h1, h2, h3⟩ | ⟨h, h1, m, h2, h3⟩ | ⟨h, h1, h2, h3⟩ | ⟨h, h1, m, h2, h3⟩
  · refine Or.inl ⟨h, ?_⟩
    rcases h with h | h
    · rw [nxt_0 h]
    · rw [nxt_1 h]
  · refine Or.inr (Or.inl ⟨h, ?_⟩)
    have key : ∀ L : List Nat, (L = s.2 ++ [c + 1] ∨ L = (c + 1) :: s.2 ∨ L = s.2.tail) → L.length + fr (nOf v) (p ||| 2 ^ c) ≤ nOf v ∧ ∀ w, w ∈ L → 1 ≤ w ∧ w ≤ nOf v := by
      rintro L (rfl | rfl | rfl)
      · refine ⟨by rw [List.length_append]; show s.2.length + 1 + _ ≤ _; omega, fun w hw => ?_⟩
        rcases List.mem_append.mp hw with z | z
        · exact h3 w z
        · rw [List.mem_singleton.mp z]
          omega
      · refine ⟨by show s.2.length + 1 + _ ≤ _; omega, fun w hw => ?_⟩
        rcases List.mem_cons.mp hw with z | z
        · omega
        · exact h3 w z
      · refine ⟨by rw [List.length_tail]; omega, fun w hw => h3 w (tail_mem hw)⟩
    rcases h with h | h
    · rw [nxt_2 h]
      refine ⟨rfl, ?_⟩
      by_cases a0 : acOf v c = 0
      · rw [if_pos a0]
        exact key _ (Or.inl rfl)
      · rw [if_neg a0]
        exact key _ (Or.inr (Or.inr rfl))
    · rw [nxt_3 h]
      refine ⟨rfl, ?_⟩
      by_cases a0 : acOf v c = 0
      · rw [if_pos a0]
        exact key _ (Or.inr (Or.inl rfl))
      · rw [if_neg a0]
        exact key _ (Or.inr (Or.inr rfl))
  · refine Or.inr (Or.inr (Or.inl ⟨h, ?_⟩))
    obtain ⟨e, he⟩ := ky_4 hw hcn h
    rw [nxt_4 h, h3, nI_clamp (by omega)]
    refine ⟨rfl, ?_⟩
    by_cases a0 : acOf v c = 0
    · rw [if_pos a0]
      exact ⟨_, or_lt (k := 16) h2 he, rfl⟩
    · rw [if_neg a0]
      by_cases a1 : acOf v c = 1
      · rw [if_pos a1]
        exact ⟨_, clr_lt m _ h2, rfl⟩
      · rw [if_neg a1]
        exact ⟨m, h2, rfl⟩
  · refine Or.inr (Or.inr (Or.inr (Or.inl ⟨h, ?_⟩)))
    have key : (s.2.set (kyOf v c) (c + 1)).length = 4 ∧ ∀ w, w ∈ s.2.set (kyOf v c) (c + 1) → w ≤ nOf v := by
      refine ⟨by rw [List.length_set]; exact h2, fun w hw => ?_⟩
      rcases List.mem_or_eq_of_mem_set hw with z | z
      · exact h3 w z
      · omega
    rw [nxt_5 h]
    refine ⟨rfl, ?_⟩
    by_cases a0 : acOf v c = 0
    · rw [if_pos a0]
      exact ⟨h2, h3⟩
    · rw [if_neg a0]
      by_cases a1 : acOf v c = 1
      · rw [if_pos a1]
        exact key
      · rw [if_neg a1]
        by_cases a2 : mpV v c s = bOf v c >>> ((16 : Int32) &&& 31)
        · rw [if_pos a2]
          exact key
        · rw [if_neg a2]
          exact ⟨h2, h3⟩
  · refine Or.inr (Or.inr (Or.inr (Or.inr ⟨h, ?_⟩)))
    obtain ⟨q, rfl, hq⟩ := hT h
    have ha := hw.ac6 hcn h
    rw [nxt_6 h, h3, nI_clamp (by omega)]
    exact ⟨rfl, hq _ (by omega)⟩
end ALLK
