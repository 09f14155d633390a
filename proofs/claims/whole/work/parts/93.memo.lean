/-! ===== the memo ===== -/
def plX (x : Int64) : Nat := x.toBitVec.toNat / 2 ^ 54
theorem plX_lt (x : Int64) : plX x < 1024 := by
  unfold plX
  have := x.toBitVec.isLt
  omega
theorem plX_eq (x : Int64) : (x.toUInt64 >>> ((54 : Int32).toInt64.toUInt64 &&& Int64.toUInt64 63)).toInt64.toInt32 = nI (plX x) := by
  have e : x = lN x.toBitVec.toNat := wb_inj (by rw [wb_tb, BitVec.ofNat_toNat, BitVec.setWidth_eq])
  have h2 := wb_shr (n := x.toBitVec.toNat) (k := 54) x.toBitVec.isLt (by decide)
  rw [← e] at h2
  unfold plX
  rw [← lN_i, ← h2]
  rfl
def plN (k : Int64) : Nat := plX (k * (-7046029254386353131 : Int64))
theorem plN_lt (k : Int64) : plN k < 1024 := plX_lt _
theorem place_m (k : Int64) : j_X2_placeOf k = some (nI (plN k)) := congrArg some (plX_eq _)
theorem value_q (u : St) (k : Int64) (q : Nat) (h : j_X2_placeOf k = some (nI q)) (hl : q < 1024) : j_X2_valueOf u k = some (if u.2.1 22 q = u.1 23 ∧ u.2.2 20 q = k then u.2.2 21 q else -1) := by
  have h5 : q < 2 ^ 31 := Nat.lt_trans hl (by decide)
  unfold j_X2_valueOf
  rw [h]
  simp only [Option.bind_some]
  rw [gd_nI hl (by decide), gd_nI hl (by decide), gd_nI hl (by decide), nI_clamp h5]
  by_cases h1 : u.2.1 22 q = u.1 23
  · rw [if_pos h1]
    by_cases h2 : u.2.2 20 q = k
    · rw [if_pos ((lg_cmp_eq _ _).mpr h2), if_pos ⟨h1, h2⟩]
    · rw [if_neg (fun z => h2 ((lg_cmp_eq _ _).mp z)), if_neg (fun z => h2 z.2)]
  · rw [if_neg h1, if_neg (fun z => h1 z.1)]
theorem valueOf_m (u : St) (k : Int64) : j_X2_valueOf u k = some (if u.2.1 22 (plN k) = u.1 23 ∧ u.2.2 20 (plN k) = k then u.2.2 21 (plN k) else -1) := value_q u k (plN k) (place_m k) (plN_lt k)
def putU (u : St) (k x : Int64) : St := sL (sL (sA u 22 (plN k) (u.1 23)) 20 (plN k) k) 21 (plN k) x
theorem put_q (u : St) (k x : Int64) (q : Nat) (h : j_X2_placeOf k = some (nI q)) (hl : q < 1024) : j_X2_put u k x = some (sL (sL (sA u 22 q (u.1 23)) 20 q k) 21 q x) := by
  have h5 : q < 2 ^ 31 := Nat.lt_trans hl (by decide)
  unfold j_X2_put
  rw [h]
  simp only [Option.bind_some, nm]
  rw [gd_nI hl (by decide), gd_nI hl (by decide), gd_nI hl (by decide), nI_clamp h5]
theorem put_m (u : St) (k x : Int64) : j_X2_put u k x = some (putU u k x) := put_q u k x (plN k) (place_m k) (plN_lt k)
theorem sL_3 (u : St) (k i : Nat) (x : Int64) (j q : Nat) : (sL u k i x).2.2 j q = if j = k ∧ q = i then x else u.2.2 j q := by
  show (if j = k then vp_updL (u.2.2 k) i x else u.2.2 j) q = _
  by_cases c : j = k
  · rw [if_pos c]
    unfold vp_updL
    by_cases c2 : q = i
    · rw [if_pos c2, if_pos ⟨c, c2⟩]
    · rw [if_neg c2, if_neg (fun z => c2 z.2), c]
  · rw [if_neg c, if_neg (fun z => c z.1)]
theorem put_1 (u : St) (k x : Int64) : (putU u k x).1 = u.1 := rfl
theorem put_2 (u : St) (k x : Int64) (j q : Nat) : (putU u k x).2.1 j q = if j = 22 ∧ q = plN k then u.1 23 else u.2.1 j q := sA_2 u 22 _ _ j q
theorem put_20 (u : St) (k x : Int64) (q : Nat) : (putU u k x).2.2 20 q = if q = plN k then k else u.2.2 20 q := by
  unfold putU
  rw [sL_3, if_neg (fun z => absurd z.1 (by decide)), sL_3]
  simp
  rfl
theorem put_21 (u : St) (k x : Int64) (q : Nat) : (putU u k x).2.2 21 q = if q = plN k then x else u.2.2 21 q := by
  unfold putU
  rw [sL_3]
  simp
  by_cases e : q = plN k
  · rw [if_pos e, if_pos e]
  · rw [if_neg e, if_neg e, sL_3, if_neg (fun z => absurd z.1 (by decide))]
    rfl
/-- what stands in the memo, of this age -/
def MI (v : HVT) (P : Nat → Sg → Int64 → Prop) (u : St) : Prop := ∀ q, q < 1024 → u.2.1 22 q = u.1 23 → ∃ p s, p < 1024 ∧ Gd v p s ∧ u.2.2 20 q = keyN v p s ∧ P p s (u.2.2 21 q)
theorem MI_get {v : HVT} {P : Nat → Sg → Int64 → Prop} {u : St} (hw : WF v) (h : MI v P u) {p : Nat} {s : Sg} (hp : p < 1024) (hG : Gd v p s) : j_X2_valueOf u (keyN v p s) = some (-1) ∨ ∃ x, j_X2_valueOf u (keyN v p s) = some x ∧ P p s x := by
  rw [valueOf_m]
  by_cases e : u.2.1 22 (plN (keyN v p s)) = u.1 23 ∧ u.2.2 20 (plN (keyN v p s)) = keyN v p s
  · rw [if_pos e]
    obtain ⟨p', s', h1, h2, h3, h4⟩ := h _ (plN_lt _) e.1
    obtain ⟨rfl, rfl⟩ := key_inj hw hp h1 hG h2 (e.2.symm.trans h3)
    exact Or.inr ⟨_, rfl, h4⟩
  · rw [if_neg e]
    exact Or.inl rfl
theorem MI_put {v : HVT} {P : Nat → Sg → Int64 → Prop} {u : St} (h : MI v P u) {p : Nat} {s : Sg} {x : Int64} (hp : p < 1024) (hG : Gd v p s) (hx : P p s x) : MI v P (putU u (keyN v p s) x) := by
  intro q hq ha
  rw [put_1, put_2] at ha
  rw [put_20, put_21]
  by_cases e : q = plN (keyN v p s)
  · rw [if_pos e, if_pos e]
    exact ⟨p, s, hp, hG, rfl, hx⟩
  · rw [if_neg (fun z => e z.2)] at ha
    rw [if_neg e, if_neg e]
    exact h q hq ha
theorem MI_mono {v : HVT} {P P' : Nat → Sg → Int64 → Prop} {u : St} (h : MI v P u) (hP : ∀ p s x, P p s x → P' p s x) : MI v P' u := by
  intro q hq ha
  obtain ⟨p, s, h1, h2, h3, h4⟩ := h q hq ha
  exact ⟨p, s, h1, h2, h3, hP _ _ _ h4⟩
/-- the ages -/
def AG (ag : Nat) (u : St) : Prop := u.1 23 = nI ag ∧ ∀ q, q < 1024 → ∃ x, x ≤ ag ∧ u.2.1 22 q = nI x
theorem AG_put {ag : Nat} {u : St} (h : AG ag u) (k x : Int64) : AG ag (putU u k x) := by
  refine ⟨h.1, fun q hq => ?_⟩
  rw [put_2]
  by_cases e : 22 = 22 ∧ q = plN k
  · rw [if_pos e]
    exact ⟨ag, Nat.le_refl _, h.1⟩
  · rw [if_neg e]
    exact h.2 q hq
/-- nothing but the memo differs -/
def fm (u u' : St) : Prop := u'.1 = u.1 ∧ ∀ k, k ≠ 22 → u'.2.1 k = u.2.1 k
theorem fm_refl (u : St) : fm u u := ⟨rfl, fun _ _ => rfl⟩
theorem fm_trans {a b c : St} (h : fm a b) (h2 : fm b c) : fm a c := ⟨h2.1.trans h.1, fun k hk => (h2.2 k hk).trans (h.2 k hk)⟩
theorem fm_put (u : St) (k x : Int64) : fm u (putU u k x) := ⟨rfl, fun j hj => by
  funext q
  rw [put_2, if_neg (fun z => hj z.1)]⟩
theorem SO_fm {v : HVT} {rule part : Nat} {one : Bool} {u u' : St} (h : SO v rule part one u) (hf : fm u u') : SO v rule part one u' := by
  obtain ⟨h1, h2⟩ := hf
  unfold SO CR at h ⊢
  rw [h1, h2 4 (by decide), h2 5 (by decide), h2 6 (by decide), h2 7 (by decide), h2 8 (by decide), h2 9 (by decide), h2 10 (by decide), h2 13 (by decide)]
  exact h
