/-! ===== a search opens: both sides ===== -/
theorem ahB_lt {v : HVT} (hw : WF v) {rule part x y : Nat} (hx : x < nOf v) (hy : y < nOf v) (h : ahB v rule part x y = true) : x < y := by
  unfold ahB at h
  rw [Bool.and_eq_true, Bool.and_eq_true] at h
  have h1 := of_decide_eq_true h.1
  have h2 := of_decide_eq_true h.2.1
  rcases (hw.2.2.2.1 x hx).2.2.2.2.2.2 with z | z
  · exact absurd z h1
  · rcases Nat.lt_trichotomy x y with w | w | w
    · exact w
    · subst w
      omega
    · have := (hw.2.2.2.2.1 y x w hx).1
      omega
def bhF (v : HVT) (rule part y x : Nat) : Bool := part.testBit x && ahB v rule part x y
/-- those of the part that are ahead of y -/
def bhd (v : HVT) (rule part y : Nat) : Nat := mk (bhF v rule part y) (nOf v)
def due (v : HVT) (part : Nat) : Nat := part &&& mk (enB v) (nOf v)
theorem mk_ext {g : Nat → Bool} {y : Nat} : ∀ n, y ≤ n → (∀ i, y ≤ i → i < n → g i = false) → mk g n = mk g y
  | 0, h, _ => by rw [Nat.le_zero.mp h]
  | n + 1, h, hg => by
    by_cases e : y = n + 1
    · rw [e]
    · rw [mk_f (hg n (by omega) (by omega))]
      exact mk_ext n (by omega) (fun i h1 h2 => hg i h1 (by omega))
theorem bhd_y {v : HVT} (hw : WF v) {rule part y : Nat} (hy : y < nOf v) : bhd v rule part y = mk (bhF v rule part y) y := by
  refine mk_ext _ (by omega) (fun i h1 h2 => ?_)
  cases hb : bhF v rule part y i with
  | false => rfl
  | true =>
    unfold bhF at hb
    rw [Bool.and_eq_true] at hb
    have := ahB_lt hw h2 hy hb.2
    omega
theorem sA_self {u : St} {k i : Nat} {x : Int32} (h : u.2.1 k i = x) : sA u k i x = u := by
  rw [sA_eq]
  refine Prod.ext rfl (Prod.ext ?_ rfl)
  funext j q
  show (if j = k ∧ q = i then x else u.2.1 j q) = u.2.1 j q
  by_cases e : j = k ∧ q = i
  · rw [if_pos e, e.1, e.2, h]
  · rw [if_neg e]
theorem sA_sA (u : St) (k i : Nat) (x y : Int32) : sA (sA u k i x) k i y = sA u k i y := by
  rw [sA_eq, sA_eq, sA_eq]
  refine Prod.ext rfl (Prod.ext ?_ rfl)
  funext j q
  show (if j = k ∧ q = i then y else if j = k ∧ q = i then x else u.2.1 j q) = if j = k ∧ q = i then y else u.2.1 j q
  by_cases e : j = k ∧ q = i
  · rw [if_pos e, if_pos e]
  · rw [if_neg e, if_neg e, if_neg e]
theorem sA_at (u : St) (k i : Nat) (x : Int32) : (sA u k i x).2.1 k i = x := by rw [sA_2, if_pos ⟨rfl, rfl⟩]
theorem CR_13 {u : St} {v : HVT} (h : CR u v) (i : Nat) (x : Int32) : CR (sA u 13 i x) v := h
theorem open_72 {v : HVT} {rule part qq y : Nat} (hw : WF v) (hru : rule < 3) (hp : part < 1024) (hq : rule = 1 → qq = qm v part) (hy : y < nOf v) (k52 : St → Int32 → Int32 → Int32 → Int32 → Option St) : ∀ f x u, y - x < f → x ≤ y → CR u v → u.2.1 13 y = nI (mk (bhF v rule part y) x) → j_X4_open_72 k52 f u (nI rule) (nI part) (nI qq) (nI y) (nI x) = k52 (sA u 13 y (nI (bhd v rule part y))) (nI rule) (nI part) (nI qq) (nI (y + 1))
  | 0, _, _, h, _, _, _ => absurd h (Nat.not_lt_zero _)
  | f + 1, x, u, h, hx, hc, h13 => by
    have hn := hw.2.1
    show q_X4_open_72 k52 (j_X4_open_72 k52 f) u _ _ _ _ _ = _
    unfold q_X4_open_72
    simp only [nm]
    by_cases e : x = y
    · subst e
      rw [if_pos (nI_le (Nat.le_refl _) (by omega)), nI_1, sA_self (by rw [h13, bhd_y hw hy])]
    · rw [if_neg (nI_ge (by omega) (by omega)), holds_b (show part < 2 ^ 31 by omega) (by omega), bB, ahead_c hc hw hru (by omega) hy hq, bB, gd_nI (by omega) (by decide), gd_nI (by omega) (by decide), nI_clamp (by omega), h13, nI_1, or_bit _ (by omega)]
      have hnext : ∀ u' : St, CR u' v → u'.2.1 13 y = nI (mk (bhF v rule part y) (x + 1)) → j_X4_open_72 k52 f u' (nI rule) (nI part) (nI qq) (nI y) (nI (x + 1)) = _ := fun u' hc' h' => open_72 hw hru hp hq hy k52 f (x + 1) u' (by omega) (by omega) hc' h'
      cases hb : part.testBit x with
      | false =>
        rw [if_neg Bool.false_ne_true]
        exact hnext u hc (by rw [h13, mk_f (by unfold bhF; rw [hb]; rfl)])
      | true =>
        rw [if_pos rfl]
        cases ha : ahB v rule part x y with
        | false =>
          rw [if_neg Bool.false_ne_true]
          exact hnext u hc (by rw [h13, mk_f (by unfold bhF; rw [hb, ha]; rfl)])
        | true =>
          rw [if_pos rfl, hnext _ (CR_13 hc _ _) (by rw [sA_at, mk_t (by unfold bhF; rw [hb, ha]; rfl)]), sA_sA]
theorem open_52 {v : HVT} {rule part qq : Nat} (hw : WF v) (hru : rule < 3) (hp : part < 1024) (hq : rule = 1 → qq = qm v part) : ∀ f y u, nOf v - y < f → y ≤ nOf v → CR u v → ∃ u' : St, j_X4_open_52 f u (nI rule) (nI part) (nI qq) (nI y) = some u' ∧ u'.1 = u.1 ∧ (∀ k, k ≠ 13 → u'.2.1 k = u.2.1 k) ∧ u'.2.2 = u.2.2 ∧ (∀ c, y ≤ c → c < nOf v → u'.2.1 13 c = nI (bhd v rule part c)) ∧ (∀ c, c < y → u'.2.1 13 c = u.2.1 13 c)
  | 0, _, _, h, _, _ => absurd h (Nat.not_lt_zero _)
  | f + 1, y, u, h, hy, hc => by
    have hn := hw.2.1
    show ∃ u' : St, q_X4_open_52 (j_X4_open_52 f) u _ _ _ _ = _ ∧ _
    unfold q_X4_open_52
    simp only [nm]
    rw [hc.2.1]
    by_cases e : y = nOf v
    · subst e
      rw [if_pos (nI_le (Nat.le_refl _) (by omega))]
      exact ⟨u, rfl, rfl, fun _ _ => rfl, rfl, fun c h1 h2 => by omega, fun _ _ => rfl⟩
    · rw [if_neg (nI_ge (by omega) (by omega)), gd_nI (by omega) (by decide), nI_clamp (by omega)]
      have h0 : (sA u 13 y 0).2.1 13 y = nI (mk (bhF v rule part y) 0) := sA_at _ _ _ _
      rw [show (0 : Int32) = nI 0 from rfl, show sA u 13 y (nI 0) = sA u 13 y 0 from rfl, open_72 hw hru hp hq (by omega) (j_X4_open_52 f) 100 0 (sA u 13 y 0) (by omega) (by omega) (CR_13 hc _ _) h0, sA_sA]
      obtain ⟨u', g1, g2, g3, g4, g5, g6⟩ := open_52 hw hru hp hq f (y + 1) (sA u 13 y (nI (bhd v rule part y))) (by omega) (by omega) (CR_13 hc _ _)
      refine ⟨u', g1, g2, fun k hk => ?_, g4, fun c h1 h2 => ?_, fun c h1 => ?_⟩
      · rw [g3 k hk]
        funext q
        rw [sA_2, if_neg (fun z => hk z.1)]
      · by_cases e2 : c = y
        · rw [e2, g6 y (by omega), sA_at]
        · exact g5 c (by omega) h2
      · rw [g6 c (by omega), sA_2, if_neg (by omega)]
/-- the search stands open, over the calls of part, by a rule -/
def SO (v : HVT) (rule part : Nat) (one : Bool) (u : St) : Prop := CR u v ∧ u.1 11 = nI part ∧ u.1 12 = nI (due v part) ∧ u.1 14 = (if one then 1 else 0) ∧ ∀ c, c < nOf v → u.2.1 13 c = nI (bhd v rule part c)
theorem openC {u : St} {v : HVT} {rule part ag : Nat} {one : Bool} (hc : CR u v) (hw : WF v) (hru : rule < 3) (hp : part < 1024) (hag : u.1 23 = nI ag) : ∃ u' : St, j_X4_open u (nI rule) (nI part) (if one then 1 else 0) = some u' ∧ SO v rule part one u' ∧ u'.1 23 = nI (ag + 1) ∧ (∀ k, k ≠ 11 → k ≠ 12 → k ≠ 14 → k ≠ 23 → u'.1 k = u.1 k) ∧ (∀ k, k ≠ 13 → u'.2.1 k = u.2.1 k) ∧ u'.2.2 = u.2.2 := by
  have hn := hw.2.1
  have hzg : ∀ {α : Type} (k : Option α), zg (if one then 1 else 0) k = k := by
    intro α k
    unfold zg
    cases one with
    | true => exact if_pos (Or.inr rfl)
    | false => exact if_pos (Or.inl rfl)
  unfold j_X4_open j_X2_forget
  simp only [nm]
  have hc1 : CR (sI u 11 (nI part)) v := hc
  rw [endedC hc1 hw]
  simp only [Option.bind_some]
  rw [hzg, fa_and]
  have hc2 : CR (sI (sI (sI (sI u 11 (nI part)) 12 (nI (due v part))) 14 (if one then 1 else 0)) 23 ((sI (sI (sI u 11 (nI part)) 12 (nI (due v part))) 14 (if one then 1 else 0)).1 23 + 1)) v := hc
  have fin : ∀ qq : Nat, (rule = 1 → qq = qm v part) → ∃ u' : St, j_X4_open_52 100 (sI (sI (sI (sI u 11 (nI part)) 12 (nI (due v part))) 14 (if one then 1 else 0)) 23 ((sI (sI (sI u 11 (nI part)) 12 (nI (due v part))) 14 (if one then 1 else 0)).1 23 + 1)) (nI rule) (nI part) (nI qq) 0 = some u' ∧ SO v rule part one u' ∧ u'.1 23 = nI (ag + 1) ∧ (∀ k, k ≠ 11 → k ≠ 12 → k ≠ 14 → k ≠ 23 → u'.1 k = u.1 k) ∧ (∀ k, k ≠ 13 → u'.2.1 k = u.2.1 k) ∧ u'.2.2 = u.2.2 := by
    intro qq hq
    obtain ⟨u', g1, g2, g3, g4, g5, g6⟩ := open_52 hw hru hp hq 100 0 _ (by omega) (by omega) hc2
    refine ⟨u', g1, ⟨?_, ?_, ?_, ?_, fun c hc => g5 c (Nat.zero_le c) hc⟩, ?_, fun k h1 h2 h3 h4 => ?_, g3, g4⟩
    · unfold CR
      rw [g2, g3 4 (by decide), g3 5 (by decide), g3 6 (by decide), g3 7 (by decide), g3 8 (by decide), g3 9 (by decide), g3 10 (by decide)]
      exact hc2
    · rw [g2]
      rfl
    · rw [g2]
      rfl
    · rw [g2]
      rfl
    · rw [g2]
      show u.1 23 + 1 = _
      rw [hag, nI_1]
    · rw [g2, sI_1, if_neg h4, sI_1, if_neg h3, sI_1, if_neg h2, sI_1, if_neg h1]
  have hdue : part &&& mk (enB v) (nOf v) = due v part := rfl
  rw [hdue]
  by_cases r1 : rule = 1
  · rw [if_pos (show nI rule = 1 by rw [r1]; rfl), ticksC hc2 hw hp]
    exact fin _ (fun _ => rfl)
  · rw [if_neg (show ¬ nI rule = 1 from nI_ne (b := 1) (by omega) (by decide) r1)]
    exact fin 0 (fun z => absurd z r1)
theorem RR_20 {U : St} {i : Nat} {v : HVT} (h : RR U i v) (q : Nat) (x : Int32) : RR (sA U 20 q x) i v := h
theorem prep_25 {v : HVT} {i rule part y : Nat} (hw : WF v) (hi : i < 12) (hru : rule < 3) (hp : part < 1024) (hy : y < nOf v) (k3 : St → Int32 → Int32 → Int32 → Int32 → Option St) : ∀ f x U, nOf v - x < f → x ≤ nOf v → RR U i v → U.2.1 20 y = nI (mk (bhF v rule part y) x) → j_X7_prepare_25 k3 f U (nI i) (nI rule) (nI part) (nI y) (nI x) = k3 (sA U 20 y (nI (bhd v rule part y))) (nI i) (nI rule) (nI part) (nI (y + 1))
  | 0, _, _, h, _, _, _ => absurd h (Nat.not_lt_zero _)
  | f + 1, x, U, h, hx, hr, h20 => by
    have hn := hw.2.1
    show q_X7_prepare_25 k3 (j_X7_prepare_25 k3 f) U _ _ _ _ _ = _
    unfold q_X7_prepare_25
    simp only [nm]
    rw [gd_nI hi (by decide), nI_clamp (show i < 2 ^ 31 by omega), hr.2.1]
    by_cases e : x = nOf v
    · subst e
      rw [if_pos (nI_le (Nat.le_refl _) (by omega)), nI_1, sA_self (show U.2.1 20 y = nI (bhd v rule part y) from h20)]
    · rw [if_neg (nI_ge (by omega) (by omega)), bit_at (show part < 2 ^ 31 by omega) (by omega), ahead_r hr hw hi hp hru (by omega) hy, bB, gd_nI (by omega) (by decide), gd_nI (by omega) (by decide), nI_clamp (by omega), h20, nI_1, or_bit _ (by omega)]
      have hnext : ∀ U' : St, RR U' i v → U'.2.1 20 y = nI (mk (bhF v rule part y) (x + 1)) → j_X7_prepare_25 k3 f U' (nI i) (nI rule) (nI part) (nI y) (nI (x + 1)) = _ := fun U' hr' h' => prep_25 hw hi hru hp hy k3 f (x + 1) U' (by omega) (by omega) hr' h'
      cases hb : part.testBit x with
      | false =>
        rw [if_neg (show ¬ (if false = true then (1 : Int32) else 0) = 1 by decide)]
        exact hnext U hr (by rw [h20, mk_f (by unfold bhF; rw [hb]; rfl)])
      | true =>
        rw [if_pos (show (if true = true then (1 : Int32) else 0) = 1 from rfl)]
        cases ha : ahB v rule part x y with
        | false =>
          rw [if_neg Bool.false_ne_true]
          exact hnext U hr (by rw [h20, mk_f (by unfold bhF; rw [hb, ha]; rfl)])
        | true =>
          rw [if_pos rfl, hnext _ (RR_20 hr _ _) (by rw [sA_at, mk_t (by unfold bhF; rw [hb, ha]; rfl)]), sA_sA]
theorem begins_2 : ∀ f q U, 12 - q < f → q ≤ 12 → ∃ U' : St, j_X7_begins_2 f U (nI q) = some U' ∧ U'.1 = U.1 ∧ U'.2.2 = U.2.2 ∧ (∀ k, k ≠ 17 → U'.2.1 k = U.2.1 k) ∧ (∀ j, q ≤ j → j < 12 → U'.2.1 17 j = 0) ∧ (∀ j, j < q → U'.2.1 17 j = U.2.1 17 j)
  | 0, _, _, h, _ => absurd h (Nat.not_lt_zero _)
  | f + 1, q, U, h, hq => by
    show ∃ U' : St, q_X7_begins_2 (j_X7_begins_2 f) U _ = _ ∧ _
    unfold q_X7_begins_2
    simp only [nm]
    by_cases e : q = 12
    · subst e
      rw [if_pos (show (12 : Int32) ≤ nI 12 by decide)]
      exact ⟨U, rfl, rfl, rfl, fun _ _ => rfl, fun j h1 h2 => by omega, fun _ _ => rfl⟩
    · rw [if_neg (show ¬ (12 : Int32) ≤ nI q from nI_ge (b := 12) (by omega) (by decide)), gd_nI (by omega) (by decide), nI_clamp (by omega), nI_1]
      obtain ⟨U', g1, g2, g3, g4, g5, g6⟩ := begins_2 f (q + 1) (sA U 17 q 0) (by omega) (by omega)
      refine ⟨U', g1, g2, g3, fun k hk => ?_, fun j h1 h2 => ?_, fun j h1 => ?_⟩
      · rw [g4 k hk]
        funext j
        rw [sA_2, if_neg (fun z => hk z.1)]
      · by_cases e2 : j = q
        · rw [e2, g6 q (by omega), sA_at]
        · exact g5 j (by omega) h2
      · rw [g6 j (by omega), sA_2, if_neg (by omega)]
theorem prep_3 {v : HVT} {i rule part : Nat} (hw : WF v) (hi : i < 12) (hru : rule < 3) (hp : part < 1024) : ∀ f y U, nOf v - y < f → y ≤ nOf v → RR U i v → ∃ U' : St, j_X7_prepare_3 f U (nI i) (nI rule) (nI part) (nI y) = some U' ∧ U'.1 = U.1 ∧ U'.2.2 = U.2.2 ∧ (∀ k, k ≠ 17 → k ≠ 20 → U'.2.1 k = U.2.1 k) ∧ (∀ c, y ≤ c → c < nOf v → U'.2.1 20 c = nI (bhd v rule part c)) ∧ (∀ c, c < y → U'.2.1 20 c = U.2.1 20 c) ∧ (∀ q, q < 12 → U'.2.1 17 q = 0)
  | 0, _, _, h, _, _ => absurd h (Nat.not_lt_zero _)
  | f + 1, y, U, h, hy, hr => by
    have hn := hw.2.1
    show ∃ U' : St, q_X7_prepare_3 (j_X7_prepare_3 f) U _ _ _ _ = _ ∧ _
    unfold q_X7_prepare_3
    simp only [nm]
    rw [gd_nI hi (by decide), nI_clamp (show i < 2 ^ 31 by omega), hr.2.1]
    by_cases e : y = nOf v
    · subst e
      rw [if_pos (nI_le (Nat.le_refl _) (by omega))]
      obtain ⟨U', g1, g2, g3, g4, g5, g6⟩ := begins_2 100 0 U (by omega) (by omega)
      refine ⟨U', ?_, g2, g3, fun k h1 _ => g4 k h1, fun c h1 h2 => by omega, fun c _ => by rw [g4 20 (by decide)], fun q hq => g5 q (Nat.zero_le q) hq⟩
      unfold j_X7_begins
      rw [show (0 : Int32) = nI 0 from rfl, g1]
      rfl
    · rw [if_neg (nI_ge (by omega) (by omega)), gd_nI (by omega) (by decide), nI_clamp (by omega)]
      have h0 : (sA U 20 y 0).2.1 20 y = nI (mk (bhF v rule part y) 0) := sA_at _ _ _ _
      rw [show (0 : Int32) = nI 0 from rfl, show sA U 20 y (nI 0) = sA U 20 y 0 from rfl, prep_25 hw hi hru hp (by omega) (j_X7_prepare_3 f) 100 0 (sA U 20 y 0) (by omega) (by omega) (RR_20 hr _ _) h0, sA_sA]
      obtain ⟨U', g1, g2, g3, g4, g5, g6, g7⟩ := prep_3 hw hi hru hp f (y + 1) (sA U 20 y (nI (bhd v rule part y))) (by omega) (by omega) (RR_20 hr _ _)
      refine ⟨U', g1, g2, g3, fun k h1 h2 => ?_, fun c h1 h2 => ?_, fun c h1 => ?_, g7⟩
      · rw [g4 k h1 h2]
        funext q
        rw [sA_2, if_neg (fun z => h2 z.1)]
      · by_cases e2 : c = y
        · rw [e2, g6 y (by omega), sA_at]
        · exact g5 c (by omega) h2
      · rw [g6 c (by omega), sA_2, if_neg (by omega)]
theorem prepR {U : St} {v : HVT} {i rule part : Nat} (hr : RR U i v) (hw : WF v) (hi : i < 12) (hru : rule < 3) (hp : part < 1024) : ∃ U' : St, j_X7_prepare U (nI i) (nI rule) (nI part) = some U' ∧ U'.1 = U.1 ∧ U'.2.2 = U.2.2 ∧ (∀ k, k ≠ 17 → k ≠ 20 → U'.2.1 k = U.2.1 k) ∧ (∀ c, c < nOf v → U'.2.1 20 c = nI (bhd v rule part c)) ∧ (∀ q, q < 12 → U'.2.1 17 q = 0) := by
  obtain ⟨U', g1, g2, g3, g4, g5, g6, g7⟩ := prep_3 hw hi hru hp 100 0 U (by have := hw.2.1; omega) (by omega) hr
  exact ⟨U', g1, g2, g3, g4, fun c hc => g5 c (Nat.zero_le c) hc, g7⟩
/-- those that are due, as the reference counts them -/
theorem dueR {U : St} {v : HVT} {i part : Nat} (hr : RR U i v) (hw : WF v) (hi : i < 12) (hp : part < 1024) : ∀ f c, nOf v - c < f → c ≤ nOf v → j_X7_answeredOf_5 U f (nI i) (nI part) (nI (mk (fun q => part.testBit q && enB v q) c)) (nI c) = some (nI (mk (fun q => part.testBit q && enB v q) (nOf v)))
  | 0, _, h, _ => absurd h (Nat.not_lt_zero _)
  | f + 1, c, h, hc => by
    have hn := hw.2.1
    show q_X7_answeredOf_5 U (j_X7_answeredOf_5 U f) _ _ _ _ = _
    unfold q_X7_answeredOf_5
    simp only [nm]
    rw [gd_nI hi (by decide), nI_clamp (show i < 2 ^ 31 by omega), hr.2.1]
    by_cases e : c = nOf v
    · subst e
      rw [if_pos (nI_le (Nat.le_refl _) (by omega))]
    · have ih := dueR hr hw hi hp f (c + 1) (by omega) (by omega)
      have e0 := en_0 hw c
      rw [if_neg (nI_ge (by omega) (by omega)), bit_at (show part < 2 ^ 31 by omega) (by omega), isOpen_r hi (by omega), (hr.2.2.2 c (by omega)).2.2.2.2.2.1, nI_1, or_bit _ (by omega), show nI (mk (fun q => part.testBit q && enB v q) c) ||| (0 : Int32) = nI (mk (fun q => part.testBit q && enB v q) c) from by rw [show (0 : Int32) = nI 0 from rfl, fa_or, Nat.or_zero]]
      cases hb : part.testBit c with
      | false =>
        rw [if_neg (show ¬ (if false = true then (1 : Int32) else 0) = 1 by decide)]
        rw [mk_f (by rw [hb]; rfl)] at ih
        exact ih
      | true =>
        rw [if_pos (show (if true = true then (1 : Int32) else 0) = 1 from rfl)]
        cases he : enB v c with
        | false =>
          rw [if_pos (e0.mpr he)]
          rw [mk_f (by rw [hb, he]; rfl)] at ih
          exact b1.trans ih
        | true =>
          rw [if_neg (fun z => by rw [e0.mp z] at he; cases he)]
          rw [mk_t (by rw [hb, he]; rfl)] at ih
          exact b0.trans ih
theorem due_eq (v : HVT) (part : Nat) : mk (fun q => part.testBit q && enB v q) (nOf v) = due v part := by
  apply Nat.eq_of_testBit_eq
  intro i
  unfold due
  rw [Nat.testBit_and, mk_tb, mk_tb]
  cases part.testBit i <;> cases decide (i < nOf v) <;> rfl
theorem due_r {U : St} {v : HVT} {i part : Nat} (hr : RR U i v) (hw : WF v) (hi : i < 12) (hp : part < 1024) : j_X7_answeredOf U (nI i) (nI part) = some (nI (due v part)) := by
  have := dueR hr hw hi hp 100 0 (by have := hw.2.1; omega) (by omega)
  rw [due_eq] at this
  exact this
theorem due_lt {v : HVT} {part : Nat} (hp : part < 1024) : due v part < 1024 := Nat.lt_of_le_of_lt Nat.and_le_left hp
