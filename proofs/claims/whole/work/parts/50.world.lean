/-! ===== the whole court: its object, the search, all tables, all histories ===== -/
/-- ints 0, 2, 3 and rows 4 .. 10 are a history's, all else is the search's -/
def mrg (g h : St) : St := (fun k => if k = 0 ∨ k = 2 ∨ k = 3 then h.1 k else g.1 k, fun k => if 4 ≤ k ∧ k ≤ 10 then h.2.1 k else g.2.1 k, g.2.2)
def tvo (ta : Nat → Nat → Nat) (k : Option Nat) : Value := match k with
  | none => .null
  | some j => .ref (ta j 0)
def Tt (ta : Nat → Nat → Nat) (k : Option Nat) : Nat → Nat := match k with
  | none => ta 0
  | some j => ta j
def Tu (tu : Nat → Int32) (k : Option Nat) : Int32 := match k with
  | none => 0
  | some j => tu j
def Tq (tq : Nat → (Nat → Int32) × (Nat → Int32)) (k : Option Nat) : TbT := match k with
  | none => none
  | some j => some (tq j)
def adi (ad : Nat → Nat) (ha : Nat → Nat) : Nat → Nat := fun p => if 6 ≤ p ∧ p ≤ 13 then ha p else ad p
def rowT (ta : Nat → Nat → Nat) (nT : Nat) : Nat → Option Nat := fun j => if j < nT then some (ta j 0) else none
def rowH (ha : Nat → Nat → Nat) (nH : Nat) : Nat → Option Nat := fun j => if j < nH then some (ha j 6) else none
def Tabs (tc : Nat → ClassId) (ta : Nat → Nat → Nat) (tu : Nat → Int32) (tq : Nat → (Nat → Int32) × (Nat → Int32)) (nT : Nat) : va_W := (List.range nT).flatMap (fun j => Tb tc (ta j) (tu j) (some (tq j)))
def Hists (tc : Nat → ClassId) (ta ha : Nat → Nat → Nat) (kt : Nat → Option Nat) (hs : Nat → St) (nH : Nat) : va_W := (List.range nH).flatMap (fun i => Hw tc (ha i) (tvo ta (kt i)) (hs i))
def Xw (tc : Nat → ClassId) (xo : Nat) (xa ad : Nat → Nat) (ta ha : Nat → Nat → Nat) (sh : Nat) (t : Nat → Int32) (gs : St) (hs : Nat → St) (kt : Nat → Option Nat) (tu : Nat → Int32) (tq : Nat → (Nat → Int32) × (Nat → Int32)) (nT nH : Nat) : va_W :=
  Bw tc xo xa ad (rowT ta nT) (rowH ha nH) (nI nT) (nI nH) t ++ (Gw tc ad sh gs ++ (Tabs tc ta tu tq nT ++ Hists tc ta ha kt hs nH))
/-- one of a row of lists, ahead of the others -/
theorem flat_out {α : Type} (f : Nat → List α) : ∀ (n i : Nat), i < n → ((List.range n).flatMap f).Perm (f i ++ (List.range n).flatMap (fun k => if k = i then [] else f k))
  | 0, i, h => absurd h (Nat.not_lt_zero i)
  | n + 1, i, h => by
    rw [List.range_succ, List.flatMap_append, List.flatMap_append]
    rcases Nat.lt_or_ge i n with c | c
    · have ih := flat_out f n i c
      have e : (fun k => if k = i then [] else f k) n = f n := if_neg (by omega)
      simp only [List.flatMap_cons, List.flatMap_nil, List.append_nil]
      rw [if_neg (show ¬ n = i by omega), ← List.append_assoc]
      exact ih.append_right (f n)
    · have e : i = n := by omega
      subst e
      simp only [List.flatMap_cons, List.flatMap_nil, List.append_nil, if_true]
      have e2 : (List.range i).flatMap (fun k => if k = i then [] else f k) = (List.range i).flatMap f := by
        simp only [List.flatMap_def]
        congr 1
        apply List.map_congr_left
        intro k hk
        exact if_neg (by have := List.mem_range.mp hk; omega)
      rw [e2]
      exact List.perm_append_comm
theorem flat_same {α : Type} {f g : Nat → List α} (n i : Nat) (h : ∀ k, k ≠ i → f k = g k) : (List.range n).flatMap (fun k => if k = i then [] else f k) = (List.range n).flatMap (fun k => if k = i then [] else g k) := by
  simp only [List.flatMap_def]
  congr 1
  apply List.map_congr_left
  intro k _
  by_cases c : k = i
  · rw [if_pos c, if_pos c]
  · rw [if_neg c, if_neg c, h k c]
/-- the other tables and histories -/
def Oth (tc : Nat → ClassId) (ta ha : Nat → Nat → Nat) (hs : Nat → St) (kt : Nat → Option Nat) (tu : Nat → Int32) (tq : Nat → (Nat → Int32) × (Nat → Int32)) (nT nH i : Nat) : va_W :=
  (match kt i with
  | none => Tabs tc ta tu tq nT
  | some j => (List.range nT).flatMap (fun k => if k = j then [] else Tb tc (ta k) (tu k) (some (tq k)))) ++ (List.range nH).flatMap (fun k => if k = i then [] else Hw tc (ha k) (tvo ta (kt k)) (hs k))
theorem Fw_perm (tc : Nat → ClassId) (ad : Nat → Nat) (ha : Nat → Nat) (ta : Nat → Nat → Nat) (tu : Nat → Int32) (tq : Nat → (Nat → Int32) × (Nat → Int32)) (k : Option Nat) (sh : Nat) (g h : St) :
    (Fw tc (adi ad ha) (Tt ta k) (Tu tu k) (Tq tq k) sh (mrg g h)).Perm (Gw tc ad sh g ++ (Hw tc ha (tvo ta k) h ++ Tb tc (Tt ta k) (Tu tu k) (Tq tq k))) := by
  have e1 : Fw tc (adi ad ha) (Tt ta k) (Tu tu k) (Tq tq k) sh (mrg g h) = (Gw tc ad sh g).take 6 ++ (Hw tc ha (tvo ta k) h ++ ((Gw tc ad sh g).drop 6 ++ Tb tc (Tt ta k) (Tu tu k) (Tq tq k))) := by
    cases k <;> rfl
  rw [e1]
  have e2 : Gw tc ad sh g ++ (Hw tc ha (tvo ta k) h ++ Tb tc (Tt ta k) (Tu tu k) (Tq tq k)) = (Gw tc ad sh g).take 6 ++ ((Gw tc ad sh g).drop 6 ++ (Hw tc ha (tvo ta k) h ++ Tb tc (Tt ta k) (Tu tu k) (Tq tq k))) := by
    rw [← List.append_assoc ((Gw tc ad sh g).take 6), List.take_append_drop]
  rw [e2]
  refine List.Perm.append_left _ ?_
  rw [← List.append_assoc, ← List.append_assoc]
  exact List.Perm.append_right _ List.perm_append_comm
/-- the court, with history i and its table ahead -/
theorem Xw_focus {tc : Nat → ClassId} {xo : Nat} {xa ad : Nat → Nat} {ta ha : Nat → Nat → Nat} {sh : Nat} {t : Nat → Int32} {gs : St} {hs : Nat → St} {kt : Nat → Option Nat} {tu : Nat → Int32} {tq : Nat → (Nat → Int32) × (Nat → Int32)} {nT nH : Nat} (i : Nat) (hi : i < nH) (hk : ∀ j, kt i = some j → j < nT) :
    (Xw tc xo xa ad ta ha sh t gs hs kt tu tq nT nH).Perm (Bw tc xo xa (adi ad (ha i)) (rowT ta nT) (rowH ha nH) (nI nT) (nI nH) t ++ (Fw tc (adi ad (ha i)) (Tt ta (kt i)) (Tu tu (kt i)) (Tq tq (kt i)) sh (mrg gs (hs i)) ++ Oth tc ta ha hs kt tu tq nT nH i)) := by
  have eB : Bw tc xo xa (adi ad (ha i)) (rowT ta nT) (rowH ha nH) (nI nT) (nI nH) t = Bw tc xo xa ad (rowT ta nT) (rowH ha nH) (nI nT) (nI nH) t := rfl
  rw [eB]
  unfold Xw
  refine List.Perm.append_left _ ?_
  have p1 : (Hists tc ta ha kt hs nH).Perm (Hw tc (ha i) (tvo ta (kt i)) (hs i) ++ (List.range nH).flatMap (fun k => if k = i then [] else Hw tc (ha k) (tvo ta (kt k)) (hs k))) := flat_out _ nH i hi
  have p2 := Fw_perm tc ad (ha i) ta tu tq (kt i) sh gs (hs i)
  have p3 : (Tabs tc ta tu tq nT).Perm (Tb tc (Tt ta (kt i)) (Tu tu (kt i)) (Tq tq (kt i)) ++ (match kt i with
    | none => Tabs tc ta tu tq nT
    | some j => (List.range nT).flatMap (fun k => if k = j then [] else Tb tc (ta k) (tu k) (some (tq k))))) := by
    cases e : kt i with
    | none => exact List.Perm.refl _
    | some j => exact flat_out (fun j => Tb tc (ta j) (tu j) (some (tq j))) nT j (hk j e)
  refine List.Perm.trans ?_ (p2.symm.append_right _)
  rw [List.append_assoc]
  refine List.Perm.append_left _ ?_
  refine (p3.append p1).trans ?_
  unfold Oth
  generalize Tb tc (Tt ta (kt i)) (Tu tu (kt i)) (Tq tq (kt i)) = a
  generalize (match kt i with
    | none => Tabs tc ta tu tq nT
    | some j => (List.range nT).flatMap (fun k => if k = j then [] else Tb tc (ta k) (tu k) (some (tq k)))) = b
  generalize Hw tc (ha i) (tvo ta (kt i)) (hs i) = c
  generalize (List.range nH).flatMap (fun k => if k = i then [] else Hw tc (ha k) (tvo ta (kt k)) (hs k)) = d
  rw [List.append_assoc, List.append_assoc]
  have q1 : (a ++ (b ++ (c ++ d))).Perm (a ++ (c ++ (b ++ d))) := List.Perm.append_left _ (by
    rw [← List.append_assoc, ← List.append_assoc]
    exact List.Perm.append_right _ List.perm_append_comm)
  refine q1.trans ?_
  rw [← List.append_assoc, ← List.append_assoc c a]
  exact List.Perm.append_right _ List.perm_append_comm
/-- and back, with what has become of it -/
theorem Xw_back {tc : Nat → ClassId} {xo : Nat} {xa ad : Nat → Nat} {ta ha : Nat → Nat → Nat} {sh : Nat} {t : Nat → Int32} {u : St} {hs : Nat → St} {kt : Nat → Option Nat} {tu : Nat → Int32} {tq : Nat → (Nat → Int32) × (Nat → Int32)} {nT nH : Nat} (i : Nat) (hi : i < nH) (hk : ∀ j, kt i = some j → j < nT) :
    (Bw tc xo xa (adi ad (ha i)) (rowT ta nT) (rowH ha nH) (nI nT) (nI nH) t ++ (Fw tc (adi ad (ha i)) (Tt ta (kt i)) (Tu tu (kt i)) (Tq tq (kt i)) sh u ++ Oth tc ta ha hs kt tu tq nT nH i)).Perm (Xw tc xo xa ad ta ha sh t u (fun k => if k = i then u else hs k) kt tu tq nT nH) := by
  have h := (Xw_focus (tc := tc) (xo := xo) (xa := xa) (ad := ad) (ta := ta) (ha := ha) (sh := sh) (t := t) (gs := u) (hs := fun k => if k = i then u else hs k) (kt := kt) (tu := tu) (tq := tq) (nT := nT) (nH := nH) i hi hk).symm
  have e1 : Oth tc ta ha (fun k => if k = i then u else hs k) kt tu tq nT nH i = Oth tc ta ha hs kt tu tq nT nH i := by
    unfold Oth
    congr 1
    apply flat_same
    intro k hk
    show Hw tc (ha k) (tvo ta (kt k)) (if k = i then u else hs k) = _
    rw [if_neg hk]
  have e2 : mrg u u = u := by
    obtain ⟨a, b, c⟩ := u
    unfold mrg
    simp
  rw [e1] at h
  simp only [if_true] at h
  rw [e2] at h
  exact h
