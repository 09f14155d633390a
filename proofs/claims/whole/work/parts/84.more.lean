/-! ===== history, copy: one history more ===== -/
theorem Iv_add {k : Nat} {t : Nat → Int32} {gs : St} {hs : Nat → St} {kt : Nat → Option Nat} {tu : Nat → Int32} {tq : Nat → (Nat → Int32) × (Nat → Int32)} {nT nH : Nat} {U : St} (h : Iv k t gs hs kt tu tq nT nH U) (hn : nH < 12) (x : St) (kq : Option Nat) (tu' : Nat → Int32) (U' : St) (v : HVT)
    (e1 : ∀ q, q ≠ 4 → U'.1 q = U.1 q) (e4 : U'.1 4 = nI (nH + 1)) (r1 : U'.2.1 1 = U.2.1 1) (r2 : U'.2.1 2 = U.2.1 2) (r25 : U'.2.1 25 = U.2.1 25) (r28 : U'.2.1 28 = U.2.1 28)
    (ho : ∀ j w, j < nH → nOf w ≤ 10 → RR U j w → RR U' j w) (h6 : ∀ j, j < nH → U'.2.1 6 j = U.2.1 6 j) (hc : CR x v) (hr : RR U' nH v) (hw : WF v)
    (hk : (kdOf v = 6 ∧ ∃ j, j < nT ∧ kq = some j ∧ U'.2.1 6 nH = nI j) ∨ (kdOf v ≠ 6 ∧ kq = none)) (htu : ∀ j, j < nT → tu' j = if kq = some j then 1 else tu j) :
    Iv k t gs (fun i => if i = nH then x else hs i) (fun i => if i = nH then kq else kt i) tu' tq nT (nH + 1) U' := by
  obtain ⟨⟨c1, c2, c3, c4, c5, lp, c6, c7, c8⟩, ⟨ns, s1, s2, s3, s4⟩, ⟨nf, f1, f2, f3, f4⟩, ⟨t1, t2, t3⟩, hH, hM⟩ := h
  refine ⟨⟨c1, hn, by rw [e1 3 (by decide)]; exact c3, e4, by rw [e1 16 (by decide)]; exact c5, lp, c6, c7, by rw [e1 27 (by decide)]; exact c8⟩, ⟨ns, s1, s2, by rw [e1 29 (by decide)]; exact s3, by rw [r28]; exact s4⟩, ⟨nf, f1, f2, by rw [e1 26 (by decide)]; exact f3, by rw [r25]; exact f4⟩, ⟨by rw [r1, r2]; exact t1, by rw [r1, r2]; exact t2, fun j hj => ?_⟩, fun i hi => ?_, hM⟩
  · rw [htu j hj]
    by_cases e : kq = some j
    · rw [if_pos e]
      exact Or.inl ⟨rfl, nH, by omega, by dsimp only; rw [if_pos rfl]; exact e⟩
    · rw [if_neg e]
      rcases t3 j hj with ⟨z1, i, z2, z3⟩ | ⟨z1, z2⟩
      · exact Or.inl ⟨z1, i, by omega, by dsimp only; rw [if_neg (by omega)]; exact z3⟩
      · refine Or.inr ⟨z1, fun i hi => ?_⟩
        dsimp only
        by_cases e2 : i = nH
        · rw [if_pos e2]
          exact e
        · rw [if_neg e2]
          exact z2 i (by omega)
  · dsimp only
    by_cases e : i = nH
    · rw [if_pos e, if_pos e, e]
      exact ⟨v, hc, hr, hw, hk⟩
    · rw [if_neg e, if_neg e, h6 i (by omega)]
      obtain ⟨w, w1, w2, w3, w4⟩ := hH i (by omega)
      exact ⟨w, w1, ho i w (by omega) w3.2.1 w2, w3, w4⟩
def newV (kd : Nat) : HVT := ((kd, 0, 0), fun _ => 0, fun _ => 0, fun _ => 0, fun _ => 0, fun _ => 0, fun _ => 0, fun _ => 0)
theorem WF_new {kd : Nat} (h : kd < 7) : WF (newV kd) := ⟨h, Nat.zero_le _, rfl, fun c hc => absurd hc (Nat.not_lt_zero c), fun c d _ hd => absurd hd (Nat.not_lt_zero d), fun _ _ => ⟨rfl, rfl⟩⟩
theorem CR_new (kd : Nat) : CR (sI St0 0 (nI kd)) (newV kd) := ⟨rfl, rfl, rfl, fun _ _ => ⟨rfl, rfl, rfl, rfl, rfl, rfl, rfl⟩⟩
def hisU (U : St) (n : Nat) (a1 a2 : Int32) : St := sI (sA (sA (sA (sA U 5 n a1) 6 n a2) 7 n 0) 8 n 0) 4 (nI (n + 1))
theorem hisU_2 (U : St) (n : Nat) (a1 a2 : Int32) (k q : Nat) : (hisU U n a1 a2).2.1 k q = if k = 5 ∧ q = n then a1 else if k = 6 ∧ q = n then a2 else if k = 7 ∧ q = n then 0 else if k = 8 ∧ q = n then 0 else U.2.1 k q := by
  unfold hisU
  rw [sI_2]
  simp only [sA_2]
  by_cases e : q = n
  · subst e
    by_cases k5 : k = 5
    · subst k5; simp
    by_cases k6 : k = 6
    · subst k6; simp
    by_cases k7 : k = 7
    · subst k7; simp
    by_cases k8 : k = 8
    · subst k8; simp
    simp [k5, k6, k7, k8]
  · simp [e]
theorem history_r {U : St} {nH kd : Nat} {a2 : Int32} (hU : U.1 4 = nI nH) (hn : nH ≤ 12) (hk : kd < 7) : j_X7_history U (nI kd) a2 = if nI kd = 6 then (if j_X7_in a2 0 (U.1 3 - 1) = some 0 then some (-1, U) else if j_X7_in a2 0 (U.1 3 - 1) = none then none else if nH = 12 then some (-4, U) else some (nI nH, hisU U nH (nI kd) a2)) else if a2 = 0 then (if nH = 12 then some (-4, U) else some (nI nH, hisU U nH (nI kd) a2)) else some (-2, U) := by
  unfold j_X7_history
  rw [show j_X7_in (nI kd) 0 6 = some 1 from in_Y (n := 7) hk (by decide)]
  simp only [Option.bind_some, nm]
  rw [if_neg one_ne]
  have hE : ∀ A : Option (Int32 × St), (if U.1 4 = 12 then some ((-4 : Int32), U) else A) = if nH = 12 then some (-4, U) else A := by
    intro A
    by_cases e : nH = 12
    · rw [if_pos e, if_pos (by rw [hU, e]; rfl)]
    · rw [if_neg e, if_neg (fun z => e ((nI_eq (b := 12) (by omega) (by decide)).mp (by rw [← hU, z]; rfl)))]
  rw [hE]
  have hG : ¬ nH = 12 → gd (U.1 4) 12 (gd ((sA U 5 (U.1 4).toNatClampNeg (nI kd)).1 4) 12 (gd ((sA (sA U 5 (U.1 4).toNatClampNeg (nI kd)) 6 ((sA U 5 (U.1 4).toNatClampNeg (nI kd)).1 4).toNatClampNeg a2).1 4) 12 (gd ((sA (sA (sA U 5 (U.1 4).toNatClampNeg (nI kd)) 6 ((sA U 5 (U.1 4).toNatClampNeg (nI kd)).1 4).toNatClampNeg a2) 7 ((sA (sA U 5 (U.1 4).toNatClampNeg (nI kd)) 6 ((sA U 5 (U.1 4).toNatClampNeg (nI kd)).1 4).toNatClampNeg a2).1 4).toNatClampNeg 0).1 4) 12 (some ((sI (sA (sA (sA (sA U 5 (U.1 4).toNatClampNeg (nI kd)) 6 ((sA U 5 (U.1 4).toNatClampNeg (nI kd)).1 4).toNatClampNeg a2) 7 ((sA (sA U 5 (U.1 4).toNatClampNeg (nI kd)) 6 ((sA U 5 (U.1 4).toNatClampNeg (nI kd)).1 4).toNatClampNeg a2).1 4).toNatClampNeg 0) 8 ((sA (sA (sA U 5 (U.1 4).toNatClampNeg (nI kd)) 6 ((sA U 5 (U.1 4).toNatClampNeg (nI kd)).1 4).toNatClampNeg a2) 7 ((sA (sA U 5 (U.1 4).toNatClampNeg (nI kd)) 6 ((sA U 5 (U.1 4).toNatClampNeg (nI kd)).1 4).toNatClampNeg a2).1 4).toNatClampNeg 0).1 4).toNatClampNeg 0) 4 ((sA (sA (sA (sA U 5 (U.1 4).toNatClampNeg (nI kd)) 6 ((sA U 5 (U.1 4).toNatClampNeg (nI kd)).1 4).toNatClampNeg a2) 7 ((sA (sA U 5 (U.1 4).toNatClampNeg (nI kd)) 6 ((sA U 5 (U.1 4).toNatClampNeg (nI kd)).1 4).toNatClampNeg a2).1 4).toNatClampNeg 0) 8 ((sA (sA (sA U 5 (U.1 4).toNatClampNeg (nI kd)) 6 ((sA U 5 (U.1 4).toNatClampNeg (nI kd)).1 4).toNatClampNeg a2) 7 ((sA (sA U 5 (U.1 4).toNatClampNeg (nI kd)) 6 ((sA U 5 (U.1 4).toNatClampNeg (nI kd)).1 4).toNatClampNeg a2).1 4).toNatClampNeg 0).1 4).toNatClampNeg 0).1 4 + 1)).1 4 - 1, sI (sA (sA (sA (sA U 5 (U.1 4).toNatClampNeg (nI kd)) 6 ((sA U 5 (U.1 4).toNatClampNeg (nI kd)).1 4).toNatClampNeg a2) 7 ((sA (sA U 5 (U.1 4).toNatClampNeg (nI kd)) 6 ((sA U 5 (U.1 4).toNatClampNeg (nI kd)).1 4).toNatClampNeg a2).1 4).toNatClampNeg 0) 8 ((sA (sA (sA U 5 (U.1 4).toNatClampNeg (nI kd)) 6 ((sA U 5 (U.1 4).toNatClampNeg (nI kd)).1 4).toNatClampNeg a2) 7 ((sA (sA U 5 (U.1 4).toNatClampNeg (nI kd)) 6 ((sA U 5 (U.1 4).toNatClampNeg (nI kd)).1 4).toNatClampNeg a2).1 4).toNatClampNeg 0).1 4).toNatClampNeg 0) 4 ((sA (sA (sA (sA U 5 (U.1 4).toNatClampNeg (nI kd)) 6 ((sA U 5 (U.1 4).toNatClampNeg (nI kd)).1 4).toNatClampNeg a2) 7 ((sA (sA U 5 (U.1 4).toNatClampNeg (nI kd)) 6 ((sA U 5 (U.1 4).toNatClampNeg (nI kd)).1 4).toNatClampNeg a2).1 4).toNatClampNeg 0) 8 ((sA (sA (sA U 5 (U.1 4).toNatClampNeg (nI kd)) 6 ((sA U 5 (U.1 4).toNatClampNeg (nI kd)).1 4).toNatClampNeg a2) 7 ((sA (sA U 5 (U.1 4).toNatClampNeg (nI kd)) 6 ((sA U 5 (U.1 4).toNatClampNeg (nI kd)).1 4).toNatClampNeg a2).1 4).toNatClampNeg 0).1 4).toNatClampNeg 0).1 4 + 1)))))) = some (nI nH, hisU U nH (nI kd) a2) := by
    intro hne
    simp only [sA_1, hU, nI_clamp (show nH < 2 ^ 31 by omega), gd_nI (show nH < 12 by omega) (by decide : 12 < 2 ^ 31), nI_1, sI_1, if_true, nI_pred]
    rfl
  have hE2 : (if nH = 12 then some ((-4 : Int32), U) else some (nI nH, hisU U nH (nI kd) a2)) = _ := rfl
  by_cases e6 : nI kd = 6
  · rw [if_pos e6, if_pos e6, if_pos e6]
    by_cases e : nH = 12
    · rw [if_pos e]
      cases hj : j_X7_in a2 0 (U.1 3 - 1) with
      | none => rfl
      | some r =>
        simp only [Option.bind_some]
        by_cases e0 : r = 0
        · simp [e0]
        · simp [e0, e]
    · rw [if_neg e, hG e]
      cases hj : j_X7_in a2 0 (U.1 3 - 1) with
      | none => rfl
      | some r =>
        simp only [Option.bind_some]
        by_cases e0 : r = 0
        · simp [e0]
        · simp [e0, e]
  · rw [if_neg e6, if_neg e6, if_neg e6]
    by_cases e0 : a2 = 0
    · rw [if_pos e0, if_pos e0]
      by_cases e : nH = 12
      · rw [if_pos e, if_pos e]
      · rw [if_neg e, if_neg e]
        exact hG e
    · rw [if_neg e0, if_neg e0]
theorem RR_his {U : St} {n kd : Nat} {a2 : Int32} : RR (hisU U n (nI kd) a2) n (newV kd) := by
  refine ⟨?_, ?_, ?_, fun c hc => absurd hc (Nat.not_lt_zero c)⟩
  · rw [hisU_2, if_pos ⟨rfl, rfl⟩]
    rfl
  · simp [hisU_2]
    rfl
  · simp [hisU_2]
    rfl
theorem isKind_or (x : Int32) : (FN (nI 7) x ∧ j_X3_isKind x = some 0) ∨ ∃ kd, kd < 7 ∧ x = nI kd ∧ j_X3_isKind x = some 1 := by
  rcases FN_or 7 (by decide) x with h | ⟨j, hj, rfl⟩
  · refine Or.inl ⟨h, ?_⟩
    unfold j_X3_isKind
    by_cases c : x < 0
    · rw [if_pos c]
    · rw [if_neg c]
      rcases h with z | ⟨-, z⟩
      · exact absurd z c
      · rw [if_pos (show (7 : Int32) ≤ x from z)]
  · exact Or.inr ⟨j, hj, rfl, isKind_c j hj⟩
theorem Iv_his {k : Nat} {t : Nat → Int32} {gs : St} {hs : Nat → St} {kt : Nat → Option Nat} {tu : Nat → Int32} {tq : Nat → (Nat → Int32) × (Nat → Int32)} {nT nH : Nat} {U : St} (h : Iv k t gs hs kt tu tq nT nH U) (hn : nH < 12) {kd : Nat} (hk : kd < 7) (a2 : Int32) (kq : Option Nat) (tu' : Nat → Int32)
    (hq : (kd = 6 ∧ ∃ j, j < nT ∧ kq = some j ∧ a2 = nI j) ∨ (kd ≠ 6 ∧ kq = none)) (htu : ∀ j, j < nT → tu' j = if kq = some j then 1 else tu j) :
    Iv k t gs (fun i => if i = nH then sI St0 0 (nI kd) else hs i) (fun i => if i = nH then kq else kt i) tu' tq nT (nH + 1) (hisU U nH (nI kd) a2) := by
  refine Iv_add h hn _ kq tu' _ (newV kd) (fun q hq => ?_) rfl rfl rfl rfl rfl (fun j w hj hw hr => RR_other (i := nH) (by omega) hw hr (fun q hq => ?_) (fun q hq => ?_) (fun q hq => ?_) (fun k q h9 h15 hq => ?_)) (fun j hj => ?_) (CR_new kd) RR_his (WF_new hk) ?_ htu
  · unfold hisU
    rw [sI_1, if_neg hq]
    rfl
  · simp [hisU_2, hq]
  · simp [hisU_2, hq]
  · simp [hisU_2, hq]
  · rw [hisU_2, if_neg (by omega), if_neg (by omega), if_neg (by omega), if_neg (by omega)]
  · have : ¬ j = nH := by omega
    simp [hisU_2, this]
  · rcases hq with ⟨z1, j, z2, z3, z4⟩ | z
    · refine Or.inl ⟨z1, j, z2, z3, ?_⟩
      simp [hisU_2, z4]
    · exact Or.inr z
theorem fc_history : Fc_history Iv := by
  intro a1 a2 k0 hk0 t gs hs kt tu tq nT nH U h
  have h' := fc_M k0 hk0 _ _ _ _ _ _ _ _ _ h
  obtain ⟨c1, c2, c3, c4, c5, c6⟩ := h.1
  refine ⟨fun r hr => ⟨U, ?_, h'⟩, fun n6 hk1 e0 hn => ?_, fun j hj e2 e6 hn => ?_⟩
  · rcases hr with ⟨n6, z, rfl⟩ | ⟨n6, z, z2, rfl⟩ | ⟨n6, z, z2, z3, rfl⟩ | ⟨rfl, z, rfl⟩ | ⟨rfl, ⟨j, hj, rfl⟩, z3, rfl⟩
    · rcases isKind_or a1 with ⟨hf, -⟩ | ⟨kd, hkd, rfl, w⟩
      · unfold j_X7_history
        rw [show j_X7_in a1 0 6 = some 0 from in_N (n := 7) (by decide) hf]
        rfl
      · rw [w] at z
        cases z
    · rcases isKind_or a1 with ⟨-, w⟩ | ⟨kd, hkd, rfl, w⟩
      · rw [w] at z
        cases z
      · rw [history_r c4 c2 hkd, if_neg n6, if_neg z2]
    · rcases isKind_or a1 with ⟨-, w⟩ | ⟨kd, hkd, rfl, w⟩
      · rw [w] at z
        cases z
      · rw [history_r c4 c2 hkd, if_neg n6, if_pos z2, if_pos z3]
    · rw [show (6 : Int32) = nI 6 from rfl, history_r c4 c2 (by decide), if_pos (show nI 6 = 6 from rfl), c3, in_N (by omega) z, if_pos rfl]
    · rw [show (6 : Int32) = nI 6 from rfl, history_r c4 c2 (by decide), if_pos (show nI 6 = 6 from rfl), c3, in_Y hj (by omega), if_neg (by decide), if_neg (by decide), if_pos z3]
  · rcases isKind_or a1 with ⟨-, w⟩ | ⟨kd, hkd, rfl, w⟩
    · rw [w] at hk1
      cases hk1
    · refine ⟨hisU U nH (nI kd) a2, ?_, Iv_his h' hn hkd a2 none tu (Or.inr ⟨fun z => n6 (by rw [z]; rfl), rfl⟩) (fun j _ => by rw [if_neg (by simp)])⟩
      rw [history_r c4 c2 hkd, if_neg n6, if_pos e0, if_neg (by omega)]
  · subst e6
    subst e2
    refine ⟨hisU U nH (nI 6) (nI j), ?_, Iv_his h' hn (by decide) (nI j) (some j) _ (Or.inl ⟨rfl, j, hj, rfl, rfl⟩) (fun q _ => ?_)⟩
    · rw [show (6 : Int32) = nI 6 from rfl, history_r c4 c2 (by decide), if_pos (show nI 6 = 6 from rfl), c3, in_Y hj (by omega), if_neg (by decide), if_neg (by decide), if_neg (by omega)]
    · by_cases e : q = j
      · rw [if_pos e, if_pos (by rw [e])]
      · rw [if_neg e, if_neg (fun z => e (by cases z; rfl))]

/-- call c of history m as that of history i is -/
def cpU (U : St) (i m c : Nat) : St := (U.1, fun k q => if 9 ≤ k ∧ k ≤ 15 ∧ q = 10 * m + c then U.2.1 k (10 * i + c) else U.2.1 k q, U.2.2)
theorem sA_eq (U : St) (k i : Nat) (x : Int32) : sA U k i x = (U.1, fun j q => if j = k ∧ q = i then x else U.2.1 j q, U.2.2) := by
  unfold sA
  congr 2
  funext j q
  exact sA_2 U k i x j q
theorem cp_step {U : St} {i m c : Nat} (h : 10 * i + c ≠ 10 * m + c) : sA (sA (sA (sA (sA (sA (sA U 9 (10 * m + c) (U.2.1 9 (10 * i + c))) 10 (10 * m + c) (U.2.1 10 (10 * i + c))) 11 (10 * m + c) (U.2.1 11 (10 * i + c))) 12 (10 * m + c) (U.2.1 12 (10 * i + c))) 13 (10 * m + c) (U.2.1 13 (10 * i + c))) 14 (10 * m + c) (U.2.1 14 (10 * i + c))) 15 (10 * m + c) (U.2.1 15 (10 * i + c)) = cpU U i m c := by
  simp only [sA_eq]
  unfold cpU
  congr 2
  funext k q
  by_cases e : q = 10 * m + c
  · subst e
    by_cases k9 : k = 9
    · subst k9; simp
    by_cases k10 : k = 10
    · subst k10; simp
    by_cases k11 : k = 11
    · subst k11; simp
    by_cases k12 : k = 12
    · subst k12; simp
    by_cases k13 : k = 13
    · subst k13; simp
    by_cases k14 : k = 14
    · subst k14; simp
    by_cases k15 : k = 15
    · subst k15; simp
    simp only [k9, k10, k11, k12, k13, k14, k15, false_and, if_false]
    rw [if_neg (by omega)]
  · simp [e]
theorem copy_77 {i m : Nat} (hi : i < 12) (hm : m < 12) (hne : i ≠ m) : ∀ f c U, 10 - c < f → c ≤ 10 → ∃ U' : St, j_X7_copy_77 f U (nI i) (nI m) (nI c) = some (nI m, U') ∧ (∀ q, U'.1 q = if q = 4 then U.1 4 + 1 else U.1 q) ∧ (∀ k q, U'.2.1 k q = if 9 ≤ k ∧ k ≤ 15 ∧ 10 * m + c ≤ q ∧ q < 10 * m + 10 then U.2.1 k (10 * i + (q - 10 * m)) else U.2.1 k q)
  | 0, _, _, h, _ => absurd h (Nat.not_lt_zero _)
  | f + 1, c, U, h, hc => by
    show ∃ U' : St, q_X7_copy_77 (j_X7_copy_77 f) U _ _ _ = _ ∧ _
    unfold q_X7_copy_77
    simp only [nm]
    by_cases e : c = 10
    · subst e
      rw [if_pos (show (10 : Int32) ≤ nI 10 by decide)]
      refine ⟨_, rfl, fun q => rfl, fun k q => ?_⟩
      rw [if_neg (by omega)]
      rfl
    · rw [if_neg (show ¬ (10 : Int32) ≤ nI c from nI_ge (b := 10) (by omega) (by decide))]
      simp only [ix10, nI_clamp (show 10 * i + c < 2 ^ 31 by omega), nI_clamp (show 10 * m + c < 2 ^ 31 by omega), gd_nI (show 10 * i + c < 120 by omega) (by decide : 120 < 2 ^ 31), gd_nI (show 10 * m + c < 120 by omega) (by decide : 120 < 2 ^ 31), nI_1]
      have h10 : ∀ (W : St) (k k' : Nat) (x : Int32), k' ≠ k → (sA W k (10 * m + c) x).2.1 k' (10 * i + c) = W.2.1 k' (10 * i + c) := fun W k k' x hk => by rw [sA_2, if_neg (fun z => hk z.1)]
      simp only [h10 _ _ _ _ (show (10 : Nat) ≠ 9 by decide), h10 _ _ _ _ (show (11 : Nat) ≠ 9 by decide), h10 _ _ _ _ (show (11 : Nat) ≠ 10 by decide), h10 _ _ _ _ (show (12 : Nat) ≠ 9 by decide), h10 _ _ _ _ (show (12 : Nat) ≠ 10 by decide), h10 _ _ _ _ (show (12 : Nat) ≠ 11 by decide), h10 _ _ _ _ (show (13 : Nat) ≠ 9 by decide), h10 _ _ _ _ (show (13 : Nat) ≠ 10 by decide), h10 _ _ _ _ (show (13 : Nat) ≠ 11 by decide), h10 _ _ _ _ (show (13 : Nat) ≠ 12 by decide), h10 _ _ _ _ (show (14 : Nat) ≠ 9 by decide), h10 _ _ _ _ (show (14 : Nat) ≠ 10 by decide), h10 _ _ _ _ (show (14 : Nat) ≠ 11 by decide), h10 _ _ _ _ (show (14 : Nat) ≠ 12 by decide), h10 _ _ _ _ (show (14 : Nat) ≠ 13 by decide), h10 _ _ _ _ (show (15 : Nat) ≠ 9 by decide), h10 _ _ _ _ (show (15 : Nat) ≠ 10 by decide), h10 _ _ _ _ (show (15 : Nat) ≠ 11 by decide), h10 _ _ _ _ (show (15 : Nat) ≠ 12 by decide), h10 _ _ _ _ (show (15 : Nat) ≠ 13 by decide), h10 _ _ _ _ (show (15 : Nat) ≠ 14 by decide)]
      rw [cp_step (by omega)]
      obtain ⟨U', g1, g2, g3⟩ := copy_77 hi hm hne f (c + 1) (cpU U i m c) (by omega) (by omega)
      refine ⟨U', g1, g2, fun k q => ?_⟩
      rw [g3]
      have gc : ∀ k q, (cpU U i m c).2.1 k q = if 9 ≤ k ∧ k ≤ 15 ∧ q = 10 * m + c then U.2.1 k (10 * i + c) else U.2.1 k q := fun _ _ => rfl
      rw [gc, gc]
      by_cases hk : 9 ≤ k ∧ k ≤ 15
      · by_cases e1 : q = 10 * m + c
        · subst e1
          rw [if_neg (by omega), if_pos ⟨hk.1, hk.2, rfl⟩, if_pos ⟨hk.1, hk.2, by omega, by omega⟩, show 10 * m + c - 10 * m = c by omega]
        · by_cases e2 : 10 * m + (c + 1) ≤ q ∧ q < 10 * m + 10
          · rw [if_pos ⟨hk.1, hk.2, e2.1, e2.2⟩, if_neg (by omega), if_pos ⟨hk.1, hk.2, by omega, by omega⟩]
          · rw [if_neg (by omega), if_neg (by omega), if_neg (by omega)]
      · rw [if_neg (by omega), if_neg (by omega), if_neg (by omega)]
theorem copy_r {U : St} {i nH : Nat} (hU : U.1 4 = nI nH) (hi : i < nH) (hn : nH < 12) : ∃ U' : St, j_X7_copy U (nI i) = some (nI nH, U') ∧ (∀ q, U'.1 q = if q = 4 then nI (nH + 1) else U.1 q) ∧ (∀ k q, U'.2.1 k q = if 9 ≤ k ∧ k ≤ 15 ∧ 10 * nH ≤ q ∧ q < 10 * nH + 10 then U.2.1 k (10 * i + (q - 10 * nH)) else if 5 ≤ k ∧ k ≤ 8 ∧ q = nH then U.2.1 k i else U.2.1 k q) := by
  unfold j_X7_copy
  rw [isHist_Y hU hi (by omega)]
  simp only [Option.bind_some, nm]
  rw [if_neg one_ne, if_neg (fun z => by
    have := (nI_eq (a := nH) (b := 12) (by omega) (by decide)).mp (by rw [← hU, z]; rfl)
    omega), hU]
  simp only [nI_clamp (show i < 2 ^ 31 by omega), nI_clamp (show nH < 2 ^ 31 by omega), gd_nI (show i < 12 by omega) (by decide : 12 < 2 ^ 31), gd_nI (show nH < 12 by omega) (by decide : 12 < 2 ^ 31)]
  obtain ⟨U', g1, g2, g3⟩ := copy_77 (show i < 12 by omega) hn (by omega) 100 0 (sA (sA (sA (sA U 5 nH (U.2.1 5 i)) 6 nH ((sA U 5 nH (U.2.1 5 i)).2.1 6 i)) 7 nH ((sA (sA U 5 nH (U.2.1 5 i)) 6 nH ((sA U 5 nH (U.2.1 5 i)).2.1 6 i)).2.1 7 i)) 8 nH ((sA (sA (sA U 5 nH (U.2.1 5 i)) 6 nH ((sA U 5 nH (U.2.1 5 i)).2.1 6 i)) 7 nH ((sA (sA U 5 nH (U.2.1 5 i)) 6 nH ((sA U 5 nH (U.2.1 5 i)).2.1 6 i)).2.1 7 i)).2.1 8 i)) (by omega) (by omega)
  refine ⟨U', g1, fun q => ?_, fun k q => ?_⟩
  · rw [g2]
    by_cases e : q = 4
    · rw [if_pos e, if_pos e]
      show U.1 4 + 1 = _
      rw [hU, nI_1]
    · rw [if_neg e, if_neg e]
      rfl
  · rw [g3]
    have hni : ¬ i = nH := by omega
    by_cases hk : 9 ≤ k ∧ k ≤ 15
    · have k5 : ¬ k = 5 := by omega
      have k6 : ¬ k = 6 := by omega
      have k7 : ¬ k = 7 := by omega
      have k8 : ¬ k = 8 := by omega
      have k58 : ¬ (5 ≤ k ∧ k ≤ 8 ∧ q = nH) := by omega
      simp only [sA_2, k5, k6, k7, k8, false_and, if_false, if_neg k58, Nat.add_zero]
    · rw [if_neg (by omega), if_neg (by omega)]
      simp only [sA_2]
      by_cases e : q = nH
      · by_cases k5 : k = 5
        · subst k5; simp [e, hni]
        by_cases k6 : k = 6
        · subst k6; simp [e, hni]
        by_cases k7 : k = 7
        · subst k7; simp [e, hni]
        by_cases k8 : k = 8
        · subst k8; simp [e, hni]
        simp only [k5, k6, k7, k8, false_and, if_false]
        rw [if_neg (by omega)]
      · simp [e]
theorem CR_tw {h : St} {v : HVT} (hc : CR h v) : CR (twS h) v := by
  obtain ⟨h1, h2, h3, h4⟩ := hc
  refine ⟨h1, h2, h3, fun c hc => ?_⟩
  have e : ∀ k, (twS h).2.1 k c = h.2.1 k c := fun k => by
    show va_cpy (h.2.1 k) (fun _ => 0) 0 0 10 c = _
    rw [pk_cpy_in (Nat.zero_le c) (by omega), Nat.zero_add, Nat.sub_zero]
  simp only [e]
  exact h4 c hc
theorem fc_copy : Fc_copy Iv := by
  intro a1 k0 hk0 t gs hs kt tu tq nT nH U h
  have h' := fc_M k0 hk0 _ _ _ _ _ _ _ _ _ h
  obtain ⟨c1, c2, c3, c4, c5, c6⟩ := h.1
  refine ⟨fun r hr => ⟨U, ?_, h'⟩, fun i hi e hn => ?_⟩
  · rcases hr with ⟨z, rfl⟩ | ⟨⟨i, hi, rfl⟩, z, rfl⟩
    · unfold j_X7_copy
      rw [isHist_N c4 z c2]
      rfl
    · unfold j_X7_copy
      rw [isHist_Y c4 hi c2]
      simp only [Option.bind_some]
      rw [if_neg one_ne, if_pos (by rw [c4, z]; rfl)]
  · subst e
    obtain ⟨v, v1, v2, v3, v4⟩ := h.2.2.2.2.1 i hi
    obtain ⟨U', g1, g2, g3⟩ := copy_r c4 hi hn
    have grow : ∀ k, k < 5 ∨ 15 < k → U'.2.1 k = U.2.1 k := fun k hk => by
      funext q
      rw [g3, if_neg (by omega), if_neg (by omega)]
    refine ⟨U', g1, Iv_add h' hn (twS (hs i)) (kt i) tu U' v (fun q hq => by rw [g2, if_neg hq]) (by rw [g2, if_pos rfl]) (grow 1 (by omega)) (grow 2 (by omega)) (grow 25 (by omega)) (grow 28 (by omega)) (fun j w hj hw hr => RR_other (i := nH) (by omega) hw hr (fun q hq => ?_) (fun q hq => ?_) (fun q hq => ?_) (fun k q h9 h15 hq => ?_)) (fun j hj => ?_) (CR_tw v1) ?_ v3 ?_ (fun j hj => ?_)⟩
    · rw [g3, if_neg (by omega), if_neg (by omega)]
    · rw [g3, if_neg (by omega), if_neg (by omega)]
    · rw [g3, if_neg (by omega), if_neg (by omega)]
    · rw [g3, if_neg (by omega), if_neg (by omega)]
    · rw [g3, if_neg (by omega), if_neg (by omega)]
    · have hn10 := v3.2.1
      obtain ⟨r1, r2, r3, r4⟩ := v2
      have e58 : ∀ k, 5 ≤ k → k ≤ 8 → U'.2.1 k nH = U.2.1 k i := fun k z1 z2 => by rw [g3, if_neg (by omega), if_pos ⟨z1, z2, rfl⟩]
      refine ⟨by rw [e58 5 (by omega) (by omega)]; exact r1, by rw [e58 7 (by omega) (by omega)]; exact r2, by rw [e58 8 (by omega) (by omega)]; exact r3, fun c hc => ?_⟩
      have e9 : ∀ k, 9 ≤ k → k ≤ 15 → U'.2.1 k (10 * nH + c) = U.2.1 k (10 * i + c) := fun k z1 z2 => by
        rw [g3, if_pos ⟨z1, z2, by omega, by omega⟩, show 10 * nH + c - 10 * nH = c by omega]
      rw [e9 9 (by omega) (by omega), e9 10 (by omega) (by omega), e9 11 (by omega) (by omega), e9 12 (by omega) (by omega), e9 13 (by omega) (by omega), e9 14 (by omega) (by omega), e9 15 (by omega) (by omega)]
      exact r4 c hc
    · rcases v4 with ⟨z1, j, z2, z3, z4⟩ | z
      · refine Or.inl ⟨z1, j, z2, z3, ?_⟩
        rw [g3, if_neg (by omega), if_pos ⟨by omega, by omega, rfl⟩]
        exact z4
      · exact Or.inr z
    · by_cases e : kt i = some j
      · rw [if_pos e]
        rcases h.2.2.2.1.2.2 j hj with z | z
        · exact z.1
        · exact absurd e (z.2 i hi)
      · rw [if_neg e]
