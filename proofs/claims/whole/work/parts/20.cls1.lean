abbrev TbT : Type := Option ((Nat → Int32) × (Nat → Int32))
def Tv (ta : Nat → Nat) (T : TbT) : Value := match T with
  | none => .null
  | some _ => .ref (ta 0)
def Tb (tc : Nat → ClassId) (ta : Nat → Nat) (us : Int32) (T : TbT) : va_W := match T with
  | none => []
  | some q => [(ta 0, .inr (4, [.ref (ta 1), .ref (ta 2), .int us])), (ta 1, .inl (tc 0, 32, .inl q.1)), (ta 2, .inl (tc 0, 32, .inl q.2))]
def Fw (tc : Nat → ClassId) (ad ta : Nat → Nat) (us : Int32) (T : TbT) (sh : Nat) (u : St) : va_W := [(ad 0, .inr (3, [.ref sh, .int (u.1 11), .int (u.1 12), .ref (ad 1), .int (u.1 14), .ref (ad 2)])), (ad 1, .inl (tc 0, 10, .inl (u.2.1 13))), (ad 2, .inr (2, [.ref (ad 3), .ref (ad 4), .ref (ad 5), .int (u.1 23)])), (ad 3, .inl (tc 1, 1024, .inr (.inl (u.2.2 20)))), (ad 4, .inl (tc 1, 1024, .inr (.inl (u.2.2 21)))), (ad 5, .inl (tc 0, 1024, .inl (u.2.1 22))), (ad 6, .inr (1, [.int (u.1 0), Tv ta T, .int (u.1 2), .int (u.1 3), .ref (ad 7), .ref (ad 8), .ref (ad 9), .ref (ad 10), .ref (ad 11), .ref (ad 12), .ref (ad 13)])), (ad 7, .inl (tc 0, 10, .inl (u.2.1 4))), (ad 8, .inl (tc 0, 10, .inl (u.2.1 5))), (ad 9, .inl (tc 0, 10, .inl (u.2.1 6))), (ad 10, .inl (tc 0, 10, .inl (u.2.1 7))), (ad 11, .inl (tc 0, 10, .inl (u.2.1 8))), (ad 12, .inl (tc 0, 10, .inl (u.2.1 9))), (ad 13, .inl (tc 0, 10, .inl (u.2.1 10))), (ad 14, .inr (0, [.ref (ad 15), .int (u.1 30)])), (ad 15, .inl (tc 0, 64, .inl (u.2.1 31))), (ad 16, .inl (tc 0, 10, .inl (u.2.1 32)))] ++ Tb tc ta us T
/-- by the table, if there is one -/
def tcase {α : Type} (T : TbT) (a : Option α) (b : (Nat → Int32) × (Nat → Int32) → Option α) : Option α := match T with
  | none => a
  | some q => b q
theorem tc_none {α : Type} {a : Option α} {b : (Nat → Int32) × (Nat → Int32) → Option α} {r : Option α} (h : tcase none a b = r) : a = r := h
theorem tc_some {α : Type} {a : Option α} {b : (Nat → Int32) × (Nat → Int32) → Option α} {q : (Nat → Int32) × (Nat → Int32)} {r : Option α} (h : tcase (some q) a b = r) : b q = r := h
theorem zg_some2 {α : Type} {x : Int32} {k : Option α} {r : α} (h : zg x k = some r) : narrow .boolean (.int x) = .int x ∧ fits .boolean (.int x) = true ∧ k = some r := by
  unfold zg at h
  by_cases c : x = 0 ∨ x = 1
  · rw [if_pos c] at h
    refine ⟨?_, ?_, h⟩
    · rcases c with rfl | rfl <;> rfl
    · rcases c with rfl | rfl <;> rfl
  · rw [if_neg c] at h; cases h
def j_J6_numberOfLeadingZeros_0f7a4 (v0 : Int32) : Option (Int32) :=
  if (0 : Int32) < v0 then if v0 < (65536 : Int32) then if v0 < (256 : Int32) then if v0 < (16 : Int32) then if v0 < (4 : Int32) then some ((31 : Int32) - ((v0.toUInt32 >>> ((1 : Int32).toUInt32 &&& Int32.toUInt32 31)).toInt32)) else nm ((31 : Int32) + (-2)) (fun x6 => nm ((v0.toUInt32 >>> ((2 : Int32).toUInt32 &&& Int32.toUInt32 31)).toInt32) (fun x7 => some (x6 - ((x7.toUInt32 >>> ((1 : Int32).toUInt32 &&& Int32.toUInt32 31)).toInt32)))) else nm ((31 : Int32) + (-4)) (fun x8 => nm ((v0.toUInt32 >>> ((4 : Int32).toUInt32 &&& Int32.toUInt32 31)).toInt32) (fun x9 => if x9 < (4 : Int32) then some (x8 - ((x9.toUInt32 >>> ((1 : Int32).toUInt32 &&& Int32.toUInt32 31)).toInt32)) else nm (x8 + (-2)) (fun x11 => nm ((x9.toUInt32 >>> ((2 : Int32).toUInt32 &&& Int32.toUInt32 31)).toInt32) (fun x12 => some (x11 - ((x12.toUInt32 >>> ((1 : Int32).toUInt32 &&& Int32.toUInt32 31)).toInt32)))))) else nm ((31 : Int32) + (-8)) (fun x13 => nm ((v0.toUInt32 >>> ((8 : Int32).toUInt32 &&& Int32.toUInt32 31)).toInt32) (fun x14 => if x14 < (16 : Int32) then if x14 < (4 : Int32) then some (x13 - ((x14.toUInt32 >>> ((1 : Int32).toUInt32 &&& Int32.toUInt32 31)).toInt32)) else nm (x13 + (-2)) (fun x17 => nm ((x14.toUInt32 >>> ((2 : Int32).toUInt32 &&& Int32.toUInt32 31)).toInt32) (fun x18 => some (x17 - ((x18.toUInt32 >>> ((1 : Int32).toUInt32 &&& Int32.toUInt32 31)).toInt32)))) else nm (x13 + (-4)) (fun x19 => nm ((x14.toUInt32 >>> ((4 : Int32).toUInt32 &&& Int32.toUInt32 31)).toInt32) (fun x20 => if x20 < (4 : Int32) then some (x19 - ((x20.toUInt32 >>> ((1 : Int32).toUInt32 &&& Int32.toUInt32 31)).toInt32)) else nm (x19 + (-2)) (fun x22 => nm ((x20.toUInt32 >>> ((2 : Int32).toUInt32 &&& Int32.toUInt32 31)).toInt32) (fun x23 => some (x22 - ((x23.toUInt32 >>> ((1 : Int32).toUInt32 &&& Int32.toUInt32 31)).toInt32)))))))) else nm ((31 : Int32) + (-16)) (fun x24 => nm ((v0.toUInt32 >>> ((16 : Int32).toUInt32 &&& Int32.toUInt32 31)).toInt32) (fun x25 => if x25 < (256 : Int32) then if x25 < (16 : Int32) then if x25 < (4 : Int32) then some (x24 - ((x25.toUInt32 >>> ((1 : Int32).toUInt32 &&& Int32.toUInt32 31)).toInt32)) else nm (x24 + (-2)) (fun x29 => nm ((x25.toUInt32 >>> ((2 : Int32).toUInt32 &&& Int32.toUInt32 31)).toInt32) (fun x30 => some (x29 - ((x30.toUInt32 >>> ((1 : Int32).toUInt32 &&& Int32.toUInt32 31)).toInt32)))) else nm (x24 + (-4)) (fun x31 => nm ((x25.toUInt32 >>> ((4 : Int32).toUInt32 &&& Int32.toUInt32 31)).toInt32) (fun x32 => if x32 < (4 : Int32) then some (x31 - ((x32.toUInt32 >>> ((1 : Int32).toUInt32 &&& Int32.toUInt32 31)).toInt32)) else nm (x31 + (-2)) (fun x34 => nm ((x32.toUInt32 >>> ((2 : Int32).toUInt32 &&& Int32.toUInt32 31)).toInt32) (fun x35 => some (x34 - ((x35.toUInt32 >>> ((1 : Int32).toUInt32 &&& Int32.toUInt32 31)).toInt32)))))) else nm (x24 + (-8)) (fun x36 => nm ((x25.toUInt32 >>> ((8 : Int32).toUInt32 &&& Int32.toUInt32 31)).toInt32) (fun x37 => if x37 < (16 : Int32) then if x37 < (4 : Int32) then some (x36 - ((x37.toUInt32 >>> ((1 : Int32).toUInt32 &&& Int32.toUInt32 31)).toInt32)) else nm (x36 + (-2)) (fun x40 => nm ((x37.toUInt32 >>> ((2 : Int32).toUInt32 &&& Int32.toUInt32 31)).toInt32) (fun x41 => some (x40 - ((x41.toUInt32 >>> ((1 : Int32).toUInt32 &&& Int32.toUInt32 31)).toInt32)))) else nm (x36 + (-4)) (fun x42 => nm ((x37.toUInt32 >>> ((4 : Int32).toUInt32 &&& Int32.toUInt32 31)).toInt32) (fun x43 => if x43 < (4 : Int32) then some (x42 - ((x43.toUInt32 >>> ((1 : Int32).toUInt32 &&& Int32.toUInt32 31)).toInt32)) else nm (x42 + (-2)) (fun x45 => nm ((x43.toUInt32 >>> ((2 : Int32).toUInt32 &&& Int32.toUInt32 31)).toInt32) (fun x46 => some (x45 - ((x46.toUInt32 >>> ((1 : Int32).toUInt32 &&& Int32.toUInt32 31)).toInt32)))))))))) else if v0 = (0 : Int32) then some (32 : Int32) else some (0 : Int32)
set_option maxHeartbeats 4000000 in
set_option maxRecDepth 100000 in
theorem k_J6_numberOfLeadingZeros_0f7a4 (l : Launch) (D : va_G) (tc : Nat → ClassId) (ws : va_W) (v0 : Int32) {x0 : Int32} (hj : j_J6_numberOfLeadingZeros_0f7a4 v0 = some x0) : MetD l D tc yJ6_numberOfLeadingZeros_0f7a4 cJ6_numberOfLeadingZeros_0f7a4 2 (some .int) 0 0 [.int v0] (ws) (some (.int x0)) (ws) :=
  x_entI (fun x : Int32 => x) (fun _ : Int32 => ws) (by decide) (own := RJ6) rfl (Nat.le_of_ble_eq_true rfl) (fun p e s m args below meth c A Q ls C V hl hret => by
  obtain ⟨hx, hb, hr, hml, hown, hts, hlk, hN⟩ := id C
  have hRf : 0 ≤ (rmz 0 0 0 0).frames := Nat.le_refl _
  have hRl : 0 ≤ (rmz 0 0 0 0).locals := Nat.le_refl _
  generalize (rmz 0 0 0 0) = R at hret hRf hRl ⊢
  generalize s.heap = H at V ⊢
  generalize ([] : List Loc) = locs at V ⊢
  have hl : lv_has ls 2 [(0, .int v0)] := hl
  unfold j_J6_numberOfLeadingZeros_0f7a4 at hj
  refine lv_iload_n hx hb dJ6_numberOfLeadingZeros_0f7a4_0 rfl (lv_at hl 0 rfl) ?_
  refine lv_if_gt (tgt := 15) hx hb dJ6_numberOfLeadingZeros_0f7a4_1 (by decide) (fun c1 => ?_) (fun c1 => ?_)
  · replace hj := ip _ c1 hj
    refine lv_bipush (v := 31) hx hb dJ6_numberOfLeadingZeros_0f7a4_15 (by decide) ?_
    refine lv_istore_n (lv' := [(1, .int (31 : Int32)), (0, .int v0)]) hx hb dJ6_numberOfLeadingZeros_0f7a4_17 rfl hl (by decide) rfl (fun ls hl => ?_)
    refine lv_iload_n hx hb dJ6_numberOfLeadingZeros_0f7a4_18 rfl (lv_at hl 1 rfl) ?_
    refine lv_ldcw (v := (65536)) hx hb hown (hts _ tw_395) dJ6_numberOfLeadingZeros_0f7a4_19 ?_
    refine lv_icmp_lt (tgt := 33) hx hb dJ6_numberOfLeadingZeros_0f7a4_22 (by decide) (fun c2 => ?_) (fun c2 => ?_)
    · replace hj := ip _ c2 hj
      refine lv_iload_n hx hb dJ6_numberOfLeadingZeros_0f7a4_33 rfl (lv_at hl 1 rfl) ?_
      refine lv_sipush (v := 256) hx hb dJ6_numberOfLeadingZeros_0f7a4_34 (by decide) ?_
      refine lv_icmp_lt (tgt := 48) hx hb dJ6_numberOfLeadingZeros_0f7a4_37 (by decide) (fun c3 => ?_) (fun c3 => ?_)
      · replace hj := ip _ c3 hj
        refine lv_iload_n hx hb dJ6_numberOfLeadingZeros_0f7a4_48 rfl (lv_at hl 1 rfl) ?_
        refine lv_bipush (v := 16) hx hb dJ6_numberOfLeadingZeros_0f7a4_49 (by decide) ?_
        refine lv_icmp_lt (tgt := 61) hx hb dJ6_numberOfLeadingZeros_0f7a4_51 (by decide) (fun c4 => ?_) (fun c4 => ?_)
        · replace hj := ip _ c4 hj
          refine lv_iload_n hx hb dJ6_numberOfLeadingZeros_0f7a4_61 rfl (lv_at hl 1 rfl) ?_
          refine lv_iconst (v := 4) hx hb dJ6_numberOfLeadingZeros_0f7a4_62 (by decide) ?_
          refine lv_icmp_lt (tgt := 73) hx hb dJ6_numberOfLeadingZeros_0f7a4_63 (by decide) (fun c5 => ?_) (fun c5 => ?_)
          · replace hj := ip _ c5 hj
            refine lv_iload_n hx hb dJ6_numberOfLeadingZeros_0f7a4_73 rfl (lv_at hl 0 rfl) ?_
            refine lv_iload_n hx hb dJ6_numberOfLeadingZeros_0f7a4_74 rfl (lv_at hl 1 rfl) ?_
            refine lv_iconst (v := 1) hx hb dJ6_numberOfLeadingZeros_0f7a4_75 (by decide) ?_
            refine lv_iushr hx hb dJ6_numberOfLeadingZeros_0f7a4_76 rfl ?_
            refine lv_isub hx hb dJ6_numberOfLeadingZeros_0f7a4_77 ?_
            exact hret ((31 : Int32) - ((v0.toUInt32 >>> ((1 : Int32).toUInt32 &&& Int32.toUInt32 31)).toInt32)) hj rfl V dJ6_numberOfLeadingZeros_0f7a4_78
          · replace hj := iq _ c5 hj
            obtain ⟨x6, ex6, hj⟩ := nm_some hj
            refine lv_iinc (v := x6) (lv' := [(1, .int x6), (0, .int v0)]) hx hb dJ6_numberOfLeadingZeros_0f7a4_66 hl (k := 0) rfl (by rw [ex6]; rfl) (by decide) rfl (fun ls hl => ?_)
            refine lv_iload_n hx hb dJ6_numberOfLeadingZeros_0f7a4_69 rfl (lv_at hl 1 rfl) ?_
            refine lv_iconst (v := 2) hx hb dJ6_numberOfLeadingZeros_0f7a4_70 (by decide) ?_
            refine lv_iushr hx hb dJ6_numberOfLeadingZeros_0f7a4_71 rfl ?_
            obtain ⟨x7, ex7, hj⟩ := nm_some hj
            refine x_topi ex7 ?_
            refine lv_istore_n (lv' := [(0, .int x7), (1, .int x6)]) hx hb dJ6_numberOfLeadingZeros_0f7a4_72 rfl hl (by decide) rfl (fun ls hl => ?_)
            refine lv_iload_n hx hb dJ6_numberOfLeadingZeros_0f7a4_73 rfl (lv_at hl 1 rfl) ?_
            refine lv_iload_n hx hb dJ6_numberOfLeadingZeros_0f7a4_74 rfl (lv_at hl 0 rfl) ?_
            refine lv_iconst (v := 1) hx hb dJ6_numberOfLeadingZeros_0f7a4_75 (by decide) ?_
            refine lv_iushr hx hb dJ6_numberOfLeadingZeros_0f7a4_76 rfl ?_
            refine lv_isub hx hb dJ6_numberOfLeadingZeros_0f7a4_77 ?_
            exact hret (x6 - ((x7.toUInt32 >>> ((1 : Int32).toUInt32 &&& Int32.toUInt32 31)).toInt32)) hj rfl V dJ6_numberOfLeadingZeros_0f7a4_78
        · replace hj := iq _ c4 hj
          obtain ⟨x8, ex8, hj⟩ := nm_some hj
          refine lv_iinc (v := x8) (lv' := [(1, .int x8), (0, .int v0)]) hx hb dJ6_numberOfLeadingZeros_0f7a4_54 hl (k := 0) rfl (by rw [ex8]; rfl) (by decide) rfl (fun ls hl => ?_)
          refine lv_iload_n hx hb dJ6_numberOfLeadingZeros_0f7a4_57 rfl (lv_at hl 1 rfl) ?_
          refine lv_iconst (v := 4) hx hb dJ6_numberOfLeadingZeros_0f7a4_58 (by decide) ?_
          refine lv_iushr hx hb dJ6_numberOfLeadingZeros_0f7a4_59 rfl ?_
          obtain ⟨x9, ex9, hj⟩ := nm_some hj
          refine x_topi ex9 ?_
          refine lv_istore_n (lv' := [(0, .int x9), (1, .int x8)]) hx hb dJ6_numberOfLeadingZeros_0f7a4_60 rfl hl (by decide) rfl (fun ls hl => ?_)
          refine lv_iload_n hx hb dJ6_numberOfLeadingZeros_0f7a4_61 rfl (lv_at hl 0 rfl) ?_
          refine lv_iconst (v := 4) hx hb dJ6_numberOfLeadingZeros_0f7a4_62 (by decide) ?_
          refine lv_icmp_lt (tgt := 73) hx hb dJ6_numberOfLeadingZeros_0f7a4_63 (by decide) (fun c10 => ?_) (fun c10 => ?_)
          · replace hj := ip _ c10 hj
            refine lv_iload_n hx hb dJ6_numberOfLeadingZeros_0f7a4_73 rfl (lv_at hl 1 rfl) ?_
            refine lv_iload_n hx hb dJ6_numberOfLeadingZeros_0f7a4_74 rfl (lv_at hl 0 rfl) ?_
            refine lv_iconst (v := 1) hx hb dJ6_numberOfLeadingZeros_0f7a4_75 (by decide) ?_
            refine lv_iushr hx hb dJ6_numberOfLeadingZeros_0f7a4_76 rfl ?_
            refine lv_isub hx hb dJ6_numberOfLeadingZeros_0f7a4_77 ?_
            exact hret (x8 - ((x9.toUInt32 >>> ((1 : Int32).toUInt32 &&& Int32.toUInt32 31)).toInt32)) hj rfl V dJ6_numberOfLeadingZeros_0f7a4_78
          · replace hj := iq _ c10 hj
            obtain ⟨x11, ex11, hj⟩ := nm_some hj
            refine lv_iinc (v := x11) (lv' := [(1, .int x11), (0, .int x9)]) hx hb dJ6_numberOfLeadingZeros_0f7a4_66 hl (k := 1) rfl (by rw [ex11]; rfl) (by decide) rfl (fun ls hl => ?_)
            refine lv_iload_n hx hb dJ6_numberOfLeadingZeros_0f7a4_69 rfl (lv_at hl 1 rfl) ?_
            refine lv_iconst (v := 2) hx hb dJ6_numberOfLeadingZeros_0f7a4_70 (by decide) ?_
            refine lv_iushr hx hb dJ6_numberOfLeadingZeros_0f7a4_71 rfl ?_
            obtain ⟨x12, ex12, hj⟩ := nm_some hj
            refine x_topi ex12 ?_
            refine lv_istore_n (lv' := [(0, .int x12), (1, .int x11)]) hx hb dJ6_numberOfLeadingZeros_0f7a4_72 rfl hl (by decide) rfl (fun ls hl => ?_)
            refine lv_iload_n hx hb dJ6_numberOfLeadingZeros_0f7a4_73 rfl (lv_at hl 1 rfl) ?_
            refine lv_iload_n hx hb dJ6_numberOfLeadingZeros_0f7a4_74 rfl (lv_at hl 0 rfl) ?_
            refine lv_iconst (v := 1) hx hb dJ6_numberOfLeadingZeros_0f7a4_75 (by decide) ?_
            refine lv_iushr hx hb dJ6_numberOfLeadingZeros_0f7a4_76 rfl ?_
            refine lv_isub hx hb dJ6_numberOfLeadingZeros_0f7a4_77 ?_
            exact hret (x11 - ((x12.toUInt32 >>> ((1 : Int32).toUInt32 &&& Int32.toUInt32 31)).toInt32)) hj rfl V dJ6_numberOfLeadingZeros_0f7a4_78
      · replace hj := iq _ c3 hj
        obtain ⟨x13, ex13, hj⟩ := nm_some hj
        refine lv_iinc (v := x13) (lv' := [(1, .int x13), (0, .int v0)]) hx hb dJ6_numberOfLeadingZeros_0f7a4_40 hl (k := 0) rfl (by rw [ex13]; rfl) (by decide) rfl (fun ls hl => ?_)
        refine lv_iload_n hx hb dJ6_numberOfLeadingZeros_0f7a4_43 rfl (lv_at hl 1 rfl) ?_
        refine lv_bipush (v := 8) hx hb dJ6_numberOfLeadingZeros_0f7a4_44 (by decide) ?_
        refine lv_iushr hx hb dJ6_numberOfLeadingZeros_0f7a4_46 rfl ?_
        obtain ⟨x14, ex14, hj⟩ := nm_some hj
        refine x_topi ex14 ?_
        refine lv_istore_n (lv' := [(0, .int x14), (1, .int x13)]) hx hb dJ6_numberOfLeadingZeros_0f7a4_47 rfl hl (by decide) rfl (fun ls hl => ?_)
        refine lv_iload_n hx hb dJ6_numberOfLeadingZeros_0f7a4_48 rfl (lv_at hl 0 rfl) ?_
        refine lv_bipush (v := 16) hx hb dJ6_numberOfLeadingZeros_0f7a4_49 (by decide) ?_
        refine lv_icmp_lt (tgt := 61) hx hb dJ6_numberOfLeadingZeros_0f7a4_51 (by decide) (fun c15 => ?_) (fun c15 => ?_)
        · replace hj := ip _ c15 hj
          refine lv_iload_n hx hb dJ6_numberOfLeadingZeros_0f7a4_61 rfl (lv_at hl 0 rfl) ?_
          refine lv_iconst (v := 4) hx hb dJ6_numberOfLeadingZeros_0f7a4_62 (by decide) ?_
          refine lv_icmp_lt (tgt := 73) hx hb dJ6_numberOfLeadingZeros_0f7a4_63 (by decide) (fun c16 => ?_) (fun c16 => ?_)
          · replace hj := ip _ c16 hj
            refine lv_iload_n hx hb dJ6_numberOfLeadingZeros_0f7a4_73 rfl (lv_at hl 1 rfl) ?_
            refine lv_iload_n hx hb dJ6_numberOfLeadingZeros_0f7a4_74 rfl (lv_at hl 0 rfl) ?_
            refine lv_iconst (v := 1) hx hb dJ6_numberOfLeadingZeros_0f7a4_75 (by decide) ?_
            refine lv_iushr hx hb dJ6_numberOfLeadingZeros_0f7a4_76 rfl ?_
            refine lv_isub hx hb dJ6_numberOfLeadingZeros_0f7a4_77 ?_
            exact hret (x13 - ((x14.toUInt32 >>> ((1 : Int32).toUInt32 &&& Int32.toUInt32 31)).toInt32)) hj rfl V dJ6_numberOfLeadingZeros_0f7a4_78
          · replace hj := iq _ c16 hj
            obtain ⟨x17, ex17, hj⟩ := nm_some hj
            refine lv_iinc (v := x17) (lv' := [(1, .int x17), (0, .int x14)]) hx hb dJ6_numberOfLeadingZeros_0f7a4_66 hl (k := 1) rfl (by rw [ex17]; rfl) (by decide) rfl (fun ls hl => ?_)
            refine lv_iload_n hx hb dJ6_numberOfLeadingZeros_0f7a4_69 rfl (lv_at hl 1 rfl) ?_
            refine lv_iconst (v := 2) hx hb dJ6_numberOfLeadingZeros_0f7a4_70 (by decide) ?_
            refine lv_iushr hx hb dJ6_numberOfLeadingZeros_0f7a4_71 rfl ?_
            obtain ⟨x18, ex18, hj⟩ := nm_some hj
            refine x_topi ex18 ?_
            refine lv_istore_n (lv' := [(0, .int x18), (1, .int x17)]) hx hb dJ6_numberOfLeadingZeros_0f7a4_72 rfl hl (by decide) rfl (fun ls hl => ?_)
            refine lv_iload_n hx hb dJ6_numberOfLeadingZeros_0f7a4_73 rfl (lv_at hl 1 rfl) ?_
            refine lv_iload_n hx hb dJ6_numberOfLeadingZeros_0f7a4_74 rfl (lv_at hl 0 rfl) ?_
            refine lv_iconst (v := 1) hx hb dJ6_numberOfLeadingZeros_0f7a4_75 (by decide) ?_
            refine lv_iushr hx hb dJ6_numberOfLeadingZeros_0f7a4_76 rfl ?_
            refine lv_isub hx hb dJ6_numberOfLeadingZeros_0f7a4_77 ?_
            exact hret (x17 - ((x18.toUInt32 >>> ((1 : Int32).toUInt32 &&& Int32.toUInt32 31)).toInt32)) hj rfl V dJ6_numberOfLeadingZeros_0f7a4_78
        · replace hj := iq _ c15 hj
          obtain ⟨x19, ex19, hj⟩ := nm_some hj
          refine lv_iinc (v := x19) (lv' := [(1, .int x19), (0, .int x14)]) hx hb dJ6_numberOfLeadingZeros_0f7a4_54 hl (k := 1) rfl (by rw [ex19]; rfl) (by decide) rfl (fun ls hl => ?_)
          refine lv_iload_n hx hb dJ6_numberOfLeadingZeros_0f7a4_57 rfl (lv_at hl 1 rfl) ?_
          refine lv_iconst (v := 4) hx hb dJ6_numberOfLeadingZeros_0f7a4_58 (by decide) ?_
          refine lv_iushr hx hb dJ6_numberOfLeadingZeros_0f7a4_59 rfl ?_
          obtain ⟨x20, ex20, hj⟩ := nm_some hj
          refine x_topi ex20 ?_
          refine lv_istore_n (lv' := [(0, .int x20), (1, .int x19)]) hx hb dJ6_numberOfLeadingZeros_0f7a4_60 rfl hl (by decide) rfl (fun ls hl => ?_)
          refine lv_iload_n hx hb dJ6_numberOfLeadingZeros_0f7a4_61 rfl (lv_at hl 0 rfl) ?_
          refine lv_iconst (v := 4) hx hb dJ6_numberOfLeadingZeros_0f7a4_62 (by decide) ?_
          refine lv_icmp_lt (tgt := 73) hx hb dJ6_numberOfLeadingZeros_0f7a4_63 (by decide) (fun c21 => ?_) (fun c21 => ?_)
          · replace hj := ip _ c21 hj
            refine lv_iload_n hx hb dJ6_numberOfLeadingZeros_0f7a4_73 rfl (lv_at hl 1 rfl) ?_
            refine lv_iload_n hx hb dJ6_numberOfLeadingZeros_0f7a4_74 rfl (lv_at hl 0 rfl) ?_
            refine lv_iconst (v := 1) hx hb dJ6_numberOfLeadingZeros_0f7a4_75 (by decide) ?_
            refine lv_iushr hx hb dJ6_numberOfLeadingZeros_0f7a4_76 rfl ?_
            refine lv_isub hx hb dJ6_numberOfLeadingZeros_0f7a4_77 ?_
            exact hret (x19 - ((x20.toUInt32 >>> ((1 : Int32).toUInt32 &&& Int32.toUInt32 31)).toInt32)) hj rfl V dJ6_numberOfLeadingZeros_0f7a4_78
          · replace hj := iq _ c21 hj
            obtain ⟨x22, ex22, hj⟩ := nm_some hj
            refine lv_iinc (v := x22) (lv' := [(1, .int x22), (0, .int x20)]) hx hb dJ6_numberOfLeadingZeros_0f7a4_66 hl (k := 1) rfl (by rw [ex22]; rfl) (by decide) rfl (fun ls hl => ?_)
            refine lv_iload_n hx hb dJ6_numberOfLeadingZeros_0f7a4_69 rfl (lv_at hl 1 rfl) ?_
            refine lv_iconst (v := 2) hx hb dJ6_numberOfLeadingZeros_0f7a4_70 (by decide) ?_
            refine lv_iushr hx hb dJ6_numberOfLeadingZeros_0f7a4_71 rfl ?_
            obtain ⟨x23, ex23, hj⟩ := nm_some hj
            refine x_topi ex23 ?_
            refine lv_istore_n (lv' := [(0, .int x23), (1, .int x22)]) hx hb dJ6_numberOfLeadingZeros_0f7a4_72 rfl hl (by decide) rfl (fun ls hl => ?_)
            refine lv_iload_n hx hb dJ6_numberOfLeadingZeros_0f7a4_73 rfl (lv_at hl 1 rfl) ?_
            refine lv_iload_n hx hb dJ6_numberOfLeadingZeros_0f7a4_74 rfl (lv_at hl 0 rfl) ?_
            refine lv_iconst (v := 1) hx hb dJ6_numberOfLeadingZeros_0f7a4_75 (by decide) ?_
            refine lv_iushr hx hb dJ6_numberOfLeadingZeros_0f7a4_76 rfl ?_
            refine lv_isub hx hb dJ6_numberOfLeadingZeros_0f7a4_77 ?_
            exact hret (x22 - ((x23.toUInt32 >>> ((1 : Int32).toUInt32 &&& Int32.toUInt32 31)).toInt32)) hj rfl V dJ6_numberOfLeadingZeros_0f7a4_78
    · replace hj := iq _ c2 hj
      obtain ⟨x24, ex24, hj⟩ := nm_some hj
      refine lv_iinc (v := x24) (lv' := [(1, .int x24), (0, .int v0)]) hx hb dJ6_numberOfLeadingZeros_0f7a4_25 hl (k := 0) rfl (by rw [ex24]; rfl) (by decide) rfl (fun ls hl => ?_)
      refine lv_iload_n hx hb dJ6_numberOfLeadingZeros_0f7a4_28 rfl (lv_at hl 1 rfl) ?_
      refine lv_bipush (v := 16) hx hb dJ6_numberOfLeadingZeros_0f7a4_29 (by decide) ?_
      refine lv_iushr hx hb dJ6_numberOfLeadingZeros_0f7a4_31 rfl ?_
      obtain ⟨x25, ex25, hj⟩ := nm_some hj
      refine x_topi ex25 ?_
      refine lv_istore_n (lv' := [(0, .int x25), (1, .int x24)]) hx hb dJ6_numberOfLeadingZeros_0f7a4_32 rfl hl (by decide) rfl (fun ls hl => ?_)
      refine lv_iload_n hx hb dJ6_numberOfLeadingZeros_0f7a4_33 rfl (lv_at hl 0 rfl) ?_
      refine lv_sipush (v := 256) hx hb dJ6_numberOfLeadingZeros_0f7a4_34 (by decide) ?_
      refine lv_icmp_lt (tgt := 48) hx hb dJ6_numberOfLeadingZeros_0f7a4_37 (by decide) (fun c26 => ?_) (fun c26 => ?_)
      · replace hj := ip _ c26 hj
        refine lv_iload_n hx hb dJ6_numberOfLeadingZeros_0f7a4_48 rfl (lv_at hl 0 rfl) ?_
        refine lv_bipush (v := 16) hx hb dJ6_numberOfLeadingZeros_0f7a4_49 (by decide) ?_
        refine lv_icmp_lt (tgt := 61) hx hb dJ6_numberOfLeadingZeros_0f7a4_51 (by decide) (fun c27 => ?_) (fun c27 => ?_)
        · replace hj := ip _ c27 hj
          refine lv_iload_n hx hb dJ6_numberOfLeadingZeros_0f7a4_61 rfl (lv_at hl 0 rfl) ?_
          refine lv_iconst (v := 4) hx hb dJ6_numberOfLeadingZeros_0f7a4_62 (by decide) ?_
          refine lv_icmp_lt (tgt := 73) hx hb dJ6_numberOfLeadingZeros_0f7a4_63 (by decide) (fun c28 => ?_) (fun c28 => ?_)
          · replace hj := ip _ c28 hj
            refine lv_iload_n hx hb dJ6_numberOfLeadingZeros_0f7a4_73 rfl (lv_at hl 1 rfl) ?_
            refine lv_iload_n hx hb dJ6_numberOfLeadingZeros_0f7a4_74 rfl (lv_at hl 0 rfl) ?_
            refine lv_iconst (v := 1) hx hb dJ6_numberOfLeadingZeros_0f7a4_75 (by decide) ?_
            refine lv_iushr hx hb dJ6_numberOfLeadingZeros_0f7a4_76 rfl ?_
            refine lv_isub hx hb dJ6_numberOfLeadingZeros_0f7a4_77 ?_
            exact hret (x24 - ((x25.toUInt32 >>> ((1 : Int32).toUInt32 &&& Int32.toUInt32 31)).toInt32)) hj rfl V dJ6_numberOfLeadingZeros_0f7a4_78
          · replace hj := iq _ c28 hj
            obtain ⟨x29, ex29, hj⟩ := nm_some hj
            refine lv_iinc (v := x29) (lv' := [(1, .int x29), (0, .int x25)]) hx hb dJ6_numberOfLeadingZeros_0f7a4_66 hl (k := 1) rfl (by rw [ex29]; rfl) (by decide) rfl (fun ls hl => ?_)
            refine lv_iload_n hx hb dJ6_numberOfLeadingZeros_0f7a4_69 rfl (lv_at hl 1 rfl) ?_
            refine lv_iconst (v := 2) hx hb dJ6_numberOfLeadingZeros_0f7a4_70 (by decide) ?_
            refine lv_iushr hx hb dJ6_numberOfLeadingZeros_0f7a4_71 rfl ?_
            obtain ⟨x30, ex30, hj⟩ := nm_some hj
            refine x_topi ex30 ?_
            refine lv_istore_n (lv' := [(0, .int x30), (1, .int x29)]) hx hb dJ6_numberOfLeadingZeros_0f7a4_72 rfl hl (by decide) rfl (fun ls hl => ?_)
            refine lv_iload_n hx hb dJ6_numberOfLeadingZeros_0f7a4_73 rfl (lv_at hl 1 rfl) ?_
            refine lv_iload_n hx hb dJ6_numberOfLeadingZeros_0f7a4_74 rfl (lv_at hl 0 rfl) ?_
            refine lv_iconst (v := 1) hx hb dJ6_numberOfLeadingZeros_0f7a4_75 (by decide) ?_
            refine lv_iushr hx hb dJ6_numberOfLeadingZeros_0f7a4_76 rfl ?_
            refine lv_isub hx hb dJ6_numberOfLeadingZeros_0f7a4_77 ?_
            exact hret (x29 - ((x30.toUInt32 >>> ((1 : Int32).toUInt32 &&& Int32.toUInt32 31)).toInt32)) hj rfl V dJ6_numberOfLeadingZeros_0f7a4_78
        · replace hj := iq _ c27 hj
          obtain ⟨x31, ex31, hj⟩ := nm_some hj
          refine lv_iinc (v := x31) (lv' := [(1, .int x31), (0, .int x25)]) hx hb dJ6_numberOfLeadingZeros_0f7a4_54 hl (k := 1) rfl (by rw [ex31]; rfl) (by decide) rfl (fun ls hl => ?_)
          refine lv_iload_n hx hb dJ6_numberOfLeadingZeros_0f7a4_57 rfl (lv_at hl 1 rfl) ?_
          refine lv_iconst (v := 4) hx hb dJ6_numberOfLeadingZeros_0f7a4_58 (by decide) ?_
          refine lv_iushr hx hb dJ6_numberOfLeadingZeros_0f7a4_59 rfl ?_
          obtain ⟨x32, ex32, hj⟩ := nm_some hj
          refine x_topi ex32 ?_
          refine lv_istore_n (lv' := [(0, .int x32), (1, .int x31)]) hx hb dJ6_numberOfLeadingZeros_0f7a4_60 rfl hl (by decide) rfl (fun ls hl => ?_)
          refine lv_iload_n hx hb dJ6_numberOfLeadingZeros_0f7a4_61 rfl (lv_at hl 0 rfl) ?_
          refine lv_iconst (v := 4) hx hb dJ6_numberOfLeadingZeros_0f7a4_62 (by decide) ?_
          refine lv_icmp_lt (tgt := 73) hx hb dJ6_numberOfLeadingZeros_0f7a4_63 (by decide) (fun c33 => ?_) (fun c33 => ?_)
          · replace hj := ip _ c33 hj
            refine lv_iload_n hx hb dJ6_numberOfLeadingZeros_0f7a4_73 rfl (lv_at hl 1 rfl) ?_
            refine lv_iload_n hx hb dJ6_numberOfLeadingZeros_0f7a4_74 rfl (lv_at hl 0 rfl) ?_
            refine lv_iconst (v := 1) hx hb dJ6_numberOfLeadingZeros_0f7a4_75 (by decide) ?_
            refine lv_iushr hx hb dJ6_numberOfLeadingZeros_0f7a4_76 rfl ?_
            refine lv_isub hx hb dJ6_numberOfLeadingZeros_0f7a4_77 ?_
            exact hret (x31 - ((x32.toUInt32 >>> ((1 : Int32).toUInt32 &&& Int32.toUInt32 31)).toInt32)) hj rfl V dJ6_numberOfLeadingZeros_0f7a4_78
          · replace hj := iq _ c33 hj
            obtain ⟨x34, ex34, hj⟩ := nm_some hj
            refine lv_iinc (v := x34) (lv' := [(1, .int x34), (0, .int x32)]) hx hb dJ6_numberOfLeadingZeros_0f7a4_66 hl (k := 1) rfl (by rw [ex34]; rfl) (by decide) rfl (fun ls hl => ?_)
            refine lv_iload_n hx hb dJ6_numberOfLeadingZeros_0f7a4_69 rfl (lv_at hl 1 rfl) ?_
            refine lv_iconst (v := 2) hx hb dJ6_numberOfLeadingZeros_0f7a4_70 (by decide) ?_
            refine lv_iushr hx hb dJ6_numberOfLeadingZeros_0f7a4_71 rfl ?_
            obtain ⟨x35, ex35, hj⟩ := nm_some hj
            refine x_topi ex35 ?_
            refine lv_istore_n (lv' := [(0, .int x35), (1, .int x34)]) hx hb dJ6_numberOfLeadingZeros_0f7a4_72 rfl hl (by decide) rfl (fun ls hl => ?_)
            refine lv_iload_n hx hb dJ6_numberOfLeadingZeros_0f7a4_73 rfl (lv_at hl 1 rfl) ?_
            refine lv_iload_n hx hb dJ6_numberOfLeadingZeros_0f7a4_74 rfl (lv_at hl 0 rfl) ?_
            refine lv_iconst (v := 1) hx hb dJ6_numberOfLeadingZeros_0f7a4_75 (by decide) ?_
            refine lv_iushr hx hb dJ6_numberOfLeadingZeros_0f7a4_76 rfl ?_
            refine lv_isub hx hb dJ6_numberOfLeadingZeros_0f7a4_77 ?_
            exact hret (x34 - ((x35.toUInt32 >>> ((1 : Int32).toUInt32 &&& Int32.toUInt32 31)).toInt32)) hj rfl V dJ6_numberOfLeadingZeros_0f7a4_78
      · replace hj := iq _ c26 hj
        obtain ⟨x36, ex36, hj⟩ := nm_some hj
        refine lv_iinc (v := x36) (lv' := [(1, .int x36), (0, .int x25)]) hx hb dJ6_numberOfLeadingZeros_0f7a4_40 hl (k := 1) rfl (by rw [ex36]; rfl) (by decide) rfl (fun ls hl => ?_)
        refine lv_iload_n hx hb dJ6_numberOfLeadingZeros_0f7a4_43 rfl (lv_at hl 1 rfl) ?_
        refine lv_bipush (v := 8) hx hb dJ6_numberOfLeadingZeros_0f7a4_44 (by decide) ?_
        refine lv_iushr hx hb dJ6_numberOfLeadingZeros_0f7a4_46 rfl ?_
        obtain ⟨x37, ex37, hj⟩ := nm_some hj
        refine x_topi ex37 ?_
        refine lv_istore_n (lv' := [(0, .int x37), (1, .int x36)]) hx hb dJ6_numberOfLeadingZeros_0f7a4_47 rfl hl (by decide) rfl (fun ls hl => ?_)
        refine lv_iload_n hx hb dJ6_numberOfLeadingZeros_0f7a4_48 rfl (lv_at hl 0 rfl) ?_
        refine lv_bipush (v := 16) hx hb dJ6_numberOfLeadingZeros_0f7a4_49 (by decide) ?_
        refine lv_icmp_lt (tgt := 61) hx hb dJ6_numberOfLeadingZeros_0f7a4_51 (by decide) (fun c38 => ?_) (fun c38 => ?_)
        · replace hj := ip _ c38 hj
          refine lv_iload_n hx hb dJ6_numberOfLeadingZeros_0f7a4_61 rfl (lv_at hl 0 rfl) ?_
          refine lv_iconst (v := 4) hx hb dJ6_numberOfLeadingZeros_0f7a4_62 (by decide) ?_
          refine lv_icmp_lt (tgt := 73) hx hb dJ6_numberOfLeadingZeros_0f7a4_63 (by decide) (fun c39 => ?_) (fun c39 => ?_)
          · replace hj := ip _ c39 hj
            refine lv_iload_n hx hb dJ6_numberOfLeadingZeros_0f7a4_73 rfl (lv_at hl 1 rfl) ?_
            refine lv_iload_n hx hb dJ6_numberOfLeadingZeros_0f7a4_74 rfl (lv_at hl 0 rfl) ?_
            refine lv_iconst (v := 1) hx hb dJ6_numberOfLeadingZeros_0f7a4_75 (by decide) ?_
            refine lv_iushr hx hb dJ6_numberOfLeadingZeros_0f7a4_76 rfl ?_
            refine lv_isub hx hb dJ6_numberOfLeadingZeros_0f7a4_77 ?_
            exact hret (x36 - ((x37.toUInt32 >>> ((1 : Int32).toUInt32 &&& Int32.toUInt32 31)).toInt32)) hj rfl V dJ6_numberOfLeadingZeros_0f7a4_78
          · replace hj := iq _ c39 hj
            obtain ⟨x40, ex40, hj⟩ := nm_some hj
            refine lv_iinc (v := x40) (lv' := [(1, .int x40), (0, .int x37)]) hx hb dJ6_numberOfLeadingZeros_0f7a4_66 hl (k := 1) rfl (by rw [ex40]; rfl) (by decide) rfl (fun ls hl => ?_)
            refine lv_iload_n hx hb dJ6_numberOfLeadingZeros_0f7a4_69 rfl (lv_at hl 1 rfl) ?_
            refine lv_iconst (v := 2) hx hb dJ6_numberOfLeadingZeros_0f7a4_70 (by decide) ?_
            refine lv_iushr hx hb dJ6_numberOfLeadingZeros_0f7a4_71 rfl ?_
            obtain ⟨x41, ex41, hj⟩ := nm_some hj
            refine x_topi ex41 ?_
            refine lv_istore_n (lv' := [(0, .int x41), (1, .int x40)]) hx hb dJ6_numberOfLeadingZeros_0f7a4_72 rfl hl (by decide) rfl (fun ls hl => ?_)
            refine lv_iload_n hx hb dJ6_numberOfLeadingZeros_0f7a4_73 rfl (lv_at hl 1 rfl) ?_
            refine lv_iload_n hx hb dJ6_numberOfLeadingZeros_0f7a4_74 rfl (lv_at hl 0 rfl) ?_
            refine lv_iconst (v := 1) hx hb dJ6_numberOfLeadingZeros_0f7a4_75 (by decide) ?_
            refine lv_iushr hx hb dJ6_numberOfLeadingZeros_0f7a4_76 rfl ?_
            refine lv_isub hx hb dJ6_numberOfLeadingZeros_0f7a4_77 ?_
            exact hret (x40 - ((x41.toUInt32 >>> ((1 : Int32).toUInt32 &&& Int32.toUInt32 31)).toInt32)) hj rfl V dJ6_numberOfLeadingZeros_0f7a4_78
        · replace hj := iq _ c38 hj
          obtain ⟨x42, ex42, hj⟩ := nm_some hj
          refine lv_iinc (v := x42) (lv' := [(1, .int x42), (0, .int x37)]) hx hb dJ6_numberOfLeadingZeros_0f7a4_54 hl (k := 1) rfl (by rw [ex42]; rfl) (by decide) rfl (fun ls hl => ?_)
          refine lv_iload_n hx hb dJ6_numberOfLeadingZeros_0f7a4_57 rfl (lv_at hl 1 rfl) ?_
          refine lv_iconst (v := 4) hx hb dJ6_numberOfLeadingZeros_0f7a4_58 (by decide) ?_
          refine lv_iushr hx hb dJ6_numberOfLeadingZeros_0f7a4_59 rfl ?_
          obtain ⟨x43, ex43, hj⟩ := nm_some hj
          refine x_topi ex43 ?_
          refine lv_istore_n (lv' := [(0, .int x43), (1, .int x42)]) hx hb dJ6_numberOfLeadingZeros_0f7a4_60 rfl hl (by decide) rfl (fun ls hl => ?_)
          refine lv_iload_n hx hb dJ6_numberOfLeadingZeros_0f7a4_61 rfl (lv_at hl 0 rfl) ?_
          refine lv_iconst (v := 4) hx hb dJ6_numberOfLeadingZeros_0f7a4_62 (by decide) ?_
          refine lv_icmp_lt (tgt := 73) hx hb dJ6_numberOfLeadingZeros_0f7a4_63 (by decide) (fun c44 => ?_) (fun c44 => ?_)
          · replace hj := ip _ c44 hj
            refine lv_iload_n hx hb dJ6_numberOfLeadingZeros_0f7a4_73 rfl (lv_at hl 1 rfl) ?_
            refine lv_iload_n hx hb dJ6_numberOfLeadingZeros_0f7a4_74 rfl (lv_at hl 0 rfl) ?_
            refine lv_iconst (v := 1) hx hb dJ6_numberOfLeadingZeros_0f7a4_75 (by decide) ?_
            refine lv_iushr hx hb dJ6_numberOfLeadingZeros_0f7a4_76 rfl ?_
            refine lv_isub hx hb dJ6_numberOfLeadingZeros_0f7a4_77 ?_
            exact hret (x42 - ((x43.toUInt32 >>> ((1 : Int32).toUInt32 &&& Int32.toUInt32 31)).toInt32)) hj rfl V dJ6_numberOfLeadingZeros_0f7a4_78
          · replace hj := iq _ c44 hj
            obtain ⟨x45, ex45, hj⟩ := nm_some hj
            refine lv_iinc (v := x45) (lv' := [(1, .int x45), (0, .int x43)]) hx hb dJ6_numberOfLeadingZeros_0f7a4_66 hl (k := 1) rfl (by rw [ex45]; rfl) (by decide) rfl (fun ls hl => ?_)
            refine lv_iload_n hx hb dJ6_numberOfLeadingZeros_0f7a4_69 rfl (lv_at hl 1 rfl) ?_
            refine lv_iconst (v := 2) hx hb dJ6_numberOfLeadingZeros_0f7a4_70 (by decide) ?_
            refine lv_iushr hx hb dJ6_numberOfLeadingZeros_0f7a4_71 rfl ?_
            obtain ⟨x46, ex46, hj⟩ := nm_some hj
            refine x_topi ex46 ?_
            refine lv_istore_n (lv' := [(0, .int x46), (1, .int x45)]) hx hb dJ6_numberOfLeadingZeros_0f7a4_72 rfl hl (by decide) rfl (fun ls hl => ?_)
            refine lv_iload_n hx hb dJ6_numberOfLeadingZeros_0f7a4_73 rfl (lv_at hl 1 rfl) ?_
            refine lv_iload_n hx hb dJ6_numberOfLeadingZeros_0f7a4_74 rfl (lv_at hl 0 rfl) ?_
            refine lv_iconst (v := 1) hx hb dJ6_numberOfLeadingZeros_0f7a4_75 (by decide) ?_
            refine lv_iushr hx hb dJ6_numberOfLeadingZeros_0f7a4_76 rfl ?_
            refine lv_isub hx hb dJ6_numberOfLeadingZeros_0f7a4_77 ?_
            exact hret (x45 - ((x46.toUInt32 >>> ((1 : Int32).toUInt32 &&& Int32.toUInt32 31)).toInt32)) hj rfl V dJ6_numberOfLeadingZeros_0f7a4_78
  · replace hj := iq _ c1 hj
    refine lv_iload_n hx hb dJ6_numberOfLeadingZeros_0f7a4_4 rfl (lv_at hl 0 rfl) ?_
    refine lv_if_ne (tgt := 13) hx hb dJ6_numberOfLeadingZeros_0f7a4_5 (by decide) (fun c47 => ?_) (fun c47 => ?_)
    · replace hj := iq _ c47 hj
      refine lv_iconst (v := 0) hx hb dJ6_numberOfLeadingZeros_0f7a4_13 (by decide) ?_
      exact hret (0 : Int32) hj rfl V dJ6_numberOfLeadingZeros_0f7a4_14
    · replace hj := ip _ c47 hj
      refine lv_bipush (v := 32) hx hb dJ6_numberOfLeadingZeros_0f7a4_8 (by decide) ?_
      refine lv_goto (tgt := 14) hx hb dJ6_numberOfLeadingZeros_0f7a4_10 (by decide) ?_
      exact hret (32 : Int32) hj rfl V dJ6_numberOfLeadingZeros_0f7a4_14)

def j_J6_bitCount_0f7a4 (v0 : Int32) : Option (Int32) :=
  nm (v0 - (((v0.toUInt32 >>> ((1 : Int32).toUInt32 &&& Int32.toUInt32 31)).toInt32) &&& (1431655765 : Int32))) (fun x1 => nm ((x1 &&& (858993459 : Int32)) + (((x1.toUInt32 >>> ((2 : Int32).toUInt32 &&& Int32.toUInt32 31)).toInt32) &&& (858993459 : Int32))) (fun x2 => nm ((x2 + ((x2.toUInt32 >>> ((4 : Int32).toUInt32 &&& Int32.toUInt32 31)).toInt32)) &&& (252645135 : Int32)) (fun x3 => nm (x3 + ((x3.toUInt32 >>> ((8 : Int32).toUInt32 &&& Int32.toUInt32 31)).toInt32)) (fun x4 => nm (x4 + ((x4.toUInt32 >>> ((16 : Int32).toUInt32 &&& Int32.toUInt32 31)).toInt32)) (fun x5 => some (x5 &&& (63 : Int32)))))))
set_option maxHeartbeats 4000000 in
set_option maxRecDepth 100000 in
theorem k_J6_bitCount_0f7a4 (l : Launch) (D : va_G) (tc : Nat → ClassId) (ws : va_W) (v0 : Int32) {x0 : Int32} (hj : j_J6_bitCount_0f7a4 v0 = some x0) : MetD l D tc yJ6_bitCount_0f7a4 cJ6_bitCount_0f7a4 1 (some .int) 0 0 [.int v0] (ws) (some (.int x0)) (ws) :=
  x_entI (fun x : Int32 => x) (fun _ : Int32 => ws) (by decide) (own := RJ6) rfl (Nat.le_of_ble_eq_true rfl) (fun p e s m args below meth c A Q ls C V hl hret => by
  obtain ⟨hx, hb, hr, hml, hown, hts, hlk, hN⟩ := id C
  have hRf : 0 ≤ (rmz 0 0 0 0).frames := Nat.le_refl _
  have hRl : 0 ≤ (rmz 0 0 0 0).locals := Nat.le_refl _
  generalize (rmz 0 0 0 0) = R at hret hRf hRl ⊢
  generalize s.heap = H at V ⊢
  generalize ([] : List Loc) = locs at V ⊢
  have hl : lv_has ls 1 [(0, .int v0)] := hl
  unfold j_J6_bitCount_0f7a4 at hj
  refine lv_iload_n hx hb dJ6_bitCount_0f7a4_0 rfl (lv_at hl 0 rfl) ?_
  refine lv_iload_n hx hb dJ6_bitCount_0f7a4_1 rfl (lv_at hl 0 rfl) ?_
  refine lv_iconst (v := 1) hx hb dJ6_bitCount_0f7a4_2 (by decide) ?_
  refine lv_iushr hx hb dJ6_bitCount_0f7a4_3 rfl ?_
  refine lv_ldcw (v := (1431655765)) hx hb hown (hts _ tw_303) dJ6_bitCount_0f7a4_4 ?_
  refine lv_iand hx hb dJ6_bitCount_0f7a4_7 ?_
  refine lv_isub hx hb dJ6_bitCount_0f7a4_8 ?_
  obtain ⟨x1, ex1, hj⟩ := nm_some hj
  refine x_topi ex1 ?_
  refine lv_istore_n (lv' := [(0, .int x1)]) hx hb dJ6_bitCount_0f7a4_9 rfl hl (by decide) rfl (fun ls hl => ?_)
  refine lv_iload_n hx hb dJ6_bitCount_0f7a4_10 rfl (lv_at hl 0 rfl) ?_
  refine lv_ldcw (v := (858993459)) hx hb hown (hts _ tw_304) dJ6_bitCount_0f7a4_11 ?_
  refine lv_iand hx hb dJ6_bitCount_0f7a4_14 ?_
  refine lv_iload_n hx hb dJ6_bitCount_0f7a4_15 rfl (lv_at hl 0 rfl) ?_
  refine lv_iconst (v := 2) hx hb dJ6_bitCount_0f7a4_16 (by decide) ?_
  refine lv_iushr hx hb dJ6_bitCount_0f7a4_17 rfl ?_
  refine lv_ldcw (v := (858993459)) hx hb hown (hts _ tw_304) dJ6_bitCount_0f7a4_18 ?_
  refine lv_iand hx hb dJ6_bitCount_0f7a4_21 ?_
  refine lv_iadd hx hb dJ6_bitCount_0f7a4_22 ?_
  obtain ⟨x2, ex2, hj⟩ := nm_some hj
  refine x_topi ex2 ?_
  refine lv_istore_n (lv' := [(0, .int x2)]) hx hb dJ6_bitCount_0f7a4_23 rfl hl (by decide) rfl (fun ls hl => ?_)
  refine lv_iload_n hx hb dJ6_bitCount_0f7a4_24 rfl (lv_at hl 0 rfl) ?_
  refine lv_iload_n hx hb dJ6_bitCount_0f7a4_25 rfl (lv_at hl 0 rfl) ?_
  refine lv_iconst (v := 4) hx hb dJ6_bitCount_0f7a4_26 (by decide) ?_
  refine lv_iushr hx hb dJ6_bitCount_0f7a4_27 rfl ?_
  refine lv_iadd hx hb dJ6_bitCount_0f7a4_28 ?_
  refine lv_ldcw (v := (252645135)) hx hb hown (hts _ tw_305) dJ6_bitCount_0f7a4_29 ?_
  refine lv_iand hx hb dJ6_bitCount_0f7a4_32 ?_
  obtain ⟨x3, ex3, hj⟩ := nm_some hj
  refine x_topi ex3 ?_
  refine lv_istore_n (lv' := [(0, .int x3)]) hx hb dJ6_bitCount_0f7a4_33 rfl hl (by decide) rfl (fun ls hl => ?_)
  refine lv_iload_n hx hb dJ6_bitCount_0f7a4_34 rfl (lv_at hl 0 rfl) ?_
  refine lv_iload_n hx hb dJ6_bitCount_0f7a4_35 rfl (lv_at hl 0 rfl) ?_
  refine lv_bipush (v := 8) hx hb dJ6_bitCount_0f7a4_36 (by decide) ?_
  refine lv_iushr hx hb dJ6_bitCount_0f7a4_38 rfl ?_
  refine lv_iadd hx hb dJ6_bitCount_0f7a4_39 ?_
  obtain ⟨x4, ex4, hj⟩ := nm_some hj
  refine x_topi ex4 ?_
  refine lv_istore_n (lv' := [(0, .int x4)]) hx hb dJ6_bitCount_0f7a4_40 rfl hl (by decide) rfl (fun ls hl => ?_)
  refine lv_iload_n hx hb dJ6_bitCount_0f7a4_41 rfl (lv_at hl 0 rfl) ?_
  refine lv_iload_n hx hb dJ6_bitCount_0f7a4_42 rfl (lv_at hl 0 rfl) ?_
  refine lv_bipush (v := 16) hx hb dJ6_bitCount_0f7a4_43 (by decide) ?_
  refine lv_iushr hx hb dJ6_bitCount_0f7a4_45 rfl ?_
  refine lv_iadd hx hb dJ6_bitCount_0f7a4_46 ?_
  obtain ⟨x5, ex5, hj⟩ := nm_some hj
  refine x_topi ex5 ?_
  refine lv_istore_n (lv' := [(0, .int x5)]) hx hb dJ6_bitCount_0f7a4_47 rfl hl (by decide) rfl (fun ls hl => ?_)
  refine lv_iload_n hx hb dJ6_bitCount_0f7a4_48 rfl (lv_at hl 0 rfl) ?_
  refine lv_bipush (v := 63) hx hb dJ6_bitCount_0f7a4_49 (by decide) ?_
  refine lv_iand hx hb dJ6_bitCount_0f7a4_51 ?_
  exact hret (x5 &&& (63 : Int32)) hj rfl V dJ6_bitCount_0f7a4_52)

def j_J13_numberOfLeadingZeros_95d88 (v0 : Int64) : Option (Int32) :=
  nm (((v0.toUInt64 >>> ((32 : Int32).toInt64.toUInt64 &&& Int64.toUInt64 63)).toInt64).toInt32) (fun x1 => if x1 = (0 : Int32) then (j_J6_numberOfLeadingZeros_0f7a4 v0.toInt32).bind (fun r4 => some ((32 : Int32) + r4)) else (j_J6_numberOfLeadingZeros_0f7a4 x1).bind (fun r3 => some r3))
set_option maxHeartbeats 4000000 in
set_option maxRecDepth 100000 in
theorem k_J13_numberOfLeadingZeros_95d88 (l : Launch) (D : va_G) (tc : Nat → ClassId) (ws : va_W) (v0 : Int64) {x0 : Int32} (hj : j_J13_numberOfLeadingZeros_95d88 v0 = some x0) : MetD l D tc yJ13_numberOfLeadingZeros_95d88 cJ13_numberOfLeadingZeros_95d88 3 (some .int) 1 21 [.long v0] (ws) (some (.int x0)) (ws) :=
  x_entI (fun x : Int32 => x) (fun _ : Int32 => ws) (by decide) (own := RJ13) rfl (Nat.le_of_ble_eq_true rfl) (fun p e s m args below meth c A Q ls C V hl hret => by
  obtain ⟨hx, hb, hr, hml, hown, hts, hlk, hN⟩ := id C
  have hRf : 1 ≤ (rmz 1 0 0 21).frames := Nat.le_refl _
  have hRl : 21 ≤ (rmz 1 0 0 21).locals := Nat.le_refl _
  generalize (rmz 1 0 0 21) = R at hret hRf hRl ⊢
  generalize s.heap = H at V ⊢
  generalize ([] : List Loc) = locs at V ⊢
  have hl : lv_has ls 3 [(0, .long v0)] := hl
  unfold j_J13_numberOfLeadingZeros_95d88 at hj
  refine lv_lload_n hx hb dJ13_numberOfLeadingZeros_95d88_0 rfl (lv_at hl 0 rfl) ?_
  refine lv_bipush (v := 32) hx hb dJ13_numberOfLeadingZeros_95d88_1 (by decide) ?_
  refine lv_lushr hx hb dJ13_numberOfLeadingZeros_95d88_3 rfl ?_
  refine lv_l2i hx hb dJ13_numberOfLeadingZeros_95d88_4 rfl ?_
  obtain ⟨x1, ex1, hj⟩ := nm_some hj
  refine x_topi ex1 ?_
  refine lv_istore_n (lv' := [(2, .int x1), (0, .long v0)]) hx hb dJ13_numberOfLeadingZeros_95d88_5 rfl hl (by decide) rfl (fun ls hl => ?_)
  refine lv_iload_n hx hb dJ13_numberOfLeadingZeros_95d88_6 rfl (lv_at hl 0 rfl) ?_
  refine lv_if_ne (tgt := 21) hx hb dJ13_numberOfLeadingZeros_95d88_7 (by decide) (fun c2 => ?_) (fun c2 => ?_)
  · replace hj := iq _ c2 hj
    refine lv_iload_n hx hb dJ13_numberOfLeadingZeros_95d88_21 rfl (lv_at hl 0 rfl) ?_
    obtain ⟨r3, hr3, hj⟩ := bd_some hj
    refine x_allI V _ (rg_map _) (x_runS (n := 1) (rest := []) C V _ (rg_map _) (rg_nd _) (k_J6_numberOfLeadingZeros_0f7a4 l D tc (ws) x1 hr3) tw_392 tw_393 tw_10 tw_394 (by decide +kernel) ⟨Nat.le_trans (Nat.le_of_ble_eq_true rfl) hRf, Nat.le_trans (Nat.le_of_ble_eq_true rfl) hRl⟩ ⟨Nat.zero_le _, Nat.zero_le _⟩ rfl hl.1 rfl (Nat.le_of_ble_eq_true rfl) dJ13_numberOfLeadingZeros_95d88_22) (fun H locs V zr3 => ?_)
    replace V : Wd D tc A s H locs (ws) := V
    exact hret r3 hj rfl V dJ13_numberOfLeadingZeros_95d88_25
  · replace hj := ip _ c2 hj
    refine lv_bipush (v := 32) hx hb dJ13_numberOfLeadingZeros_95d88_10 (by decide) ?_
    refine lv_lload_n hx hb dJ13_numberOfLeadingZeros_95d88_12 rfl (lv_at hl 1 rfl) ?_
    refine lv_l2i hx hb dJ13_numberOfLeadingZeros_95d88_13 rfl ?_
    obtain ⟨r4, hr4, hj⟩ := bd_some hj
    refine x_allI V _ (rg_map _) (x_runS (n := 1) (rest := [.int (32 : Int32)]) C V _ (rg_map _) (rg_nd _) (k_J6_numberOfLeadingZeros_0f7a4 l D tc (ws) v0.toInt32 hr4) tw_392 tw_393 tw_10 tw_394 (by decide +kernel) ⟨Nat.le_trans (Nat.le_of_ble_eq_true rfl) hRf, Nat.le_trans (Nat.le_of_ble_eq_true rfl) hRl⟩ ⟨Nat.zero_le _, Nat.zero_le _⟩ rfl hl.1 rfl (Nat.le_of_ble_eq_true rfl) dJ13_numberOfLeadingZeros_95d88_14) (fun H locs V zr4 => ?_)
    replace V : Wd D tc A s H locs (ws) := V
    refine lv_iadd hx hb dJ13_numberOfLeadingZeros_95d88_17 ?_
    refine lv_goto (tgt := 25) hx hb dJ13_numberOfLeadingZeros_95d88_18 (by decide) ?_
    exact hret ((32 : Int32) + r4) hj rfl V dJ13_numberOfLeadingZeros_95d88_25)

def j_X6_holds (v0 : Int32) (v1 : Int32) : Option (Int32) :=
  if ((v0 >>> (v1 &&& 31)) &&& (1 : Int32)) = (0 : Int32) then some (0 : Int32) else some (1 : Int32)
set_option maxHeartbeats 4000000 in
set_option maxRecDepth 100000 in
theorem k_X6_holds (l : Launch) (D : va_G) (tc : Nat → ClassId) (ws : va_W) (v0 : Int32) (v1 : Int32) {x0 : Int32} (hj : j_X6_holds v0 v1 = some x0) : MetD l D tc yX6_holds cX6_holds 2 (some .boolean) 0 0 [.int v0, .int v1] (ws) (some (.int x0)) (ws) :=
  x_entI (fun x : Int32 => x) (fun _ : Int32 => ws) (by decide) (own := RX6) rfl (Nat.le_of_ble_eq_true rfl) (fun p e s m args below meth c A Q ls C V hl hret => by
  obtain ⟨hx, hb, hr, hml, hown, hts, hlk, hN⟩ := id C
  have hRf : 0 ≤ (rmz 0 0 0 0).frames := Nat.le_refl _
  have hRl : 0 ≤ (rmz 0 0 0 0).locals := Nat.le_refl _
  generalize (rmz 0 0 0 0) = R at hret hRf hRl ⊢
  generalize s.heap = H at V ⊢
  generalize ([] : List Loc) = locs at V ⊢
  have hl : lv_has ls 2 [(0, .int v0), (1, .int v1)] := hl
  unfold j_X6_holds at hj
  refine lv_iload_n hx hb dX6_holds_0 rfl (lv_at hl 0 rfl) ?_
  refine lv_iload_n hx hb dX6_holds_1 rfl (lv_at hl 1 rfl) ?_
  refine lv_ishr hx hb dX6_holds_2 ?_
  refine lv_iconst (v := 1) hx hb dX6_holds_3 (by decide) ?_
  refine lv_iand hx hb dX6_holds_4 ?_
  refine lv_if_eq (tgt := 12) hx hb dX6_holds_5 (by decide) (fun c1 => ?_) (fun c1 => ?_)
  · replace hj := ip _ c1 hj
    refine lv_iconst (v := 0) hx hb dX6_holds_12 (by decide) ?_
    exact hret (0 : Int32) hj zn_0 V dX6_holds_13
  · replace hj := iq _ c1 hj
    refine lv_iconst (v := 1) hx hb dX6_holds_8 (by decide) ?_
    refine lv_goto (tgt := 13) hx hb dX6_holds_9 (by decide) ?_
    exact hret (1 : Int32) hj zn_1 V dX6_holds_13)

def j_X6_isRule (v0 : Int32) : Option (Int32) :=
  if v0 < (0 : Int32) then some (0 : Int32) else if (3 : Int32) ≤ v0 then some (0 : Int32) else some (1 : Int32)
set_option maxHeartbeats 4000000 in
set_option maxRecDepth 100000 in
theorem k_X6_isRule (l : Launch) (D : va_G) (tc : Nat → ClassId) (ws : va_W) (v0 : Int32) {x0 : Int32} (hj : j_X6_isRule v0 = some x0) : MetD l D tc yX6_isRule cX6_isRule 1 (some .boolean) 0 0 [.int v0] (ws) (some (.int x0)) (ws) :=
  x_entI (fun x : Int32 => x) (fun _ : Int32 => ws) (by decide) (own := RX6) rfl (Nat.le_of_ble_eq_true rfl) (fun p e s m args below meth c A Q ls C V hl hret => by
  obtain ⟨hx, hb, hr, hml, hown, hts, hlk, hN⟩ := id C
  have hRf : 0 ≤ (rmz 0 0 0 0).frames := Nat.le_refl _
  have hRl : 0 ≤ (rmz 0 0 0 0).locals := Nat.le_refl _
  generalize (rmz 0 0 0 0) = R at hret hRf hRl ⊢
  generalize s.heap = H at V ⊢
  generalize ([] : List Loc) = locs at V ⊢
  have hl : lv_has ls 1 [(0, .int v0)] := hl
  unfold j_X6_isRule at hj
  refine lv_iload_n hx hb dX6_isRule_0 rfl (lv_at hl 0 rfl) ?_
  refine lv_if_lt (tgt := 13) hx hb dX6_isRule_1 (by decide) (fun c1 => ?_) (fun c1 => ?_)
  · replace hj := ip _ c1 hj
    refine lv_iconst (v := 0) hx hb dX6_isRule_13 (by decide) ?_
    exact hret (0 : Int32) hj zn_0 V dX6_isRule_14
  · replace hj := iq _ c1 hj
    refine lv_iload_n hx hb dX6_isRule_4 rfl (lv_at hl 0 rfl) ?_
    refine lv_iconst (v := 3) hx hb dX6_isRule_5 (by decide) ?_
    refine lv_icmp_ge (tgt := 13) hx hb dX6_isRule_6 (by decide) (fun c2 => ?_) (fun c2 => ?_)
    · replace hj := ip _ c2 hj
      refine lv_iconst (v := 0) hx hb dX6_isRule_13 (by decide) ?_
      exact hret (0 : Int32) hj zn_0 V dX6_isRule_14
    · replace hj := iq _ c2 hj
      refine lv_iconst (v := 1) hx hb dX6_isRule_9 (by decide) ?_
      refine lv_goto (tgt := 14) hx hb dX6_isRule_10 (by decide) ?_
      exact hret (1 : Int32) hj zn_1 V dX6_isRule_14)

def j_X5_has (v0 : Int64) (v2 : Int32) : Option (Int32) :=
  if (lg_cmp v0 (0 : Int64)) < (0 : Int32) then some (0 : Int32) else if (0 : Int32) ≤ (lg_cmp v0 (8 : Int64)) then some (0 : Int32) else if v2 < (0 : Int32) then some (0 : Int32) else if (4 : Int32) ≤ v2 then some (0 : Int32) else some (1 : Int32)
set_option maxHeartbeats 4000000 in
set_option maxRecDepth 100000 in
theorem k_X5_has (l : Launch) (D : va_G) (tc : Nat → ClassId) (ws : va_W) (v0 : Int64) (v2 : Int32) {x0 : Int32} (hj : j_X5_has v0 v2 = some x0) : MetD l D tc yX5_has cX5_has 3 (some .boolean) 0 0 [.long v0, .int v2] (ws) (some (.int x0)) (ws) :=
  x_entI (fun x : Int32 => x) (fun _ : Int32 => ws) (by decide) (own := RX5) rfl (Nat.le_of_ble_eq_true rfl) (fun p e s m args below meth c A Q ls C V hl hret => by
  obtain ⟨hx, hb, hr, hml, hown, hts, hlk, hN⟩ := id C
  have hRf : 0 ≤ (rmz 0 0 0 0).frames := Nat.le_refl _
  have hRl : 0 ≤ (rmz 0 0 0 0).locals := Nat.le_refl _
  generalize (rmz 0 0 0 0) = R at hret hRf hRl ⊢
  generalize s.heap = H at V ⊢
  generalize ([] : List Loc) = locs at V ⊢
  have hl : lv_has ls 3 [(0, .long v0), (2, .int v2)] := hl
  unfold j_X5_has at hj
  refine lv_lload_n hx hb dX5_has_0 rfl (lv_at hl 0 rfl) ?_
  refine lv_lconst (v := 0) hx hb dX5_has_1 (by decide) ?_
  refine W.lcmp hx hb dX5_has_2 ?_
  refine lv_if_lt (tgt := 27) hx hb dX5_has_3 (by decide) (fun c1 => ?_) (fun c1 => ?_)
  · replace hj := ip _ c1 hj
    refine lv_iconst (v := 0) hx hb dX5_has_27 (by decide) ?_
    exact hret (0 : Int32) hj zn_0 V dX5_has_28
  · replace hj := iq _ c1 hj
    refine lv_lload_n hx hb dX5_has_6 rfl (lv_at hl 0 rfl) ?_
    refine lv_ldc2 (v := (8)) hx hb hown (hts _ tw_202) dX5_has_7 ?_
    refine W.lcmp hx hb dX5_has_10 ?_
    refine lv_if_ge (tgt := 27) hx hb dX5_has_11 (by decide) (fun c2 => ?_) (fun c2 => ?_)
    · replace hj := ip _ c2 hj
      refine lv_iconst (v := 0) hx hb dX5_has_27 (by decide) ?_
      exact hret (0 : Int32) hj zn_0 V dX5_has_28
    · replace hj := iq _ c2 hj
      refine lv_iload_n hx hb dX5_has_14 rfl (lv_at hl 1 rfl) ?_
      refine lv_if_lt (tgt := 27) hx hb dX5_has_15 (by decide) (fun c3 => ?_) (fun c3 => ?_)
      · replace hj := ip _ c3 hj
        refine lv_iconst (v := 0) hx hb dX5_has_27 (by decide) ?_
        exact hret (0 : Int32) hj zn_0 V dX5_has_28
      · replace hj := iq _ c3 hj
        refine lv_iload_n hx hb dX5_has_18 rfl (lv_at hl 1 rfl) ?_
        refine lv_iconst (v := 4) hx hb dX5_has_19 (by decide) ?_
        refine lv_icmp_ge (tgt := 27) hx hb dX5_has_20 (by decide) (fun c4 => ?_) (fun c4 => ?_)
        · replace hj := ip _ c4 hj
          refine lv_iconst (v := 0) hx hb dX5_has_27 (by decide) ?_
          exact hret (0 : Int32) hj zn_0 V dX5_has_28
        · replace hj := iq _ c4 hj
          refine lv_iconst (v := 1) hx hb dX5_has_23 (by decide) ?_
          refine lv_goto (tgt := 28) hx hb dX5_has_24 (by decide) ?_
          exact hret (1 : Int32) hj zn_1 V dX5_has_28)

def j_X5_placeOf (v0 : Int64) (v2 : Int32) : Option (Int32) :=
  some ((v0.toInt32 * (4 : Int32)) + v2)
set_option maxHeartbeats 4000000 in
set_option maxRecDepth 100000 in
theorem k_X5_placeOf (l : Launch) (D : va_G) (tc : Nat → ClassId) (ws : va_W) (v0 : Int64) (v2 : Int32) {x0 : Int32} (hj : j_X5_placeOf v0 v2 = some x0) : MetD l D tc yX5_placeOf cX5_placeOf 3 (some .int) 0 0 [.long v0, .int v2] (ws) (some (.int x0)) (ws) :=
  x_entI (fun x : Int32 => x) (fun _ : Int32 => ws) (by decide) (own := RX5) rfl (Nat.le_of_ble_eq_true rfl) (fun p e s m args below meth c A Q ls C V hl hret => by
  obtain ⟨hx, hb, hr, hml, hown, hts, hlk, hN⟩ := id C
  have hRf : 0 ≤ (rmz 0 0 0 0).frames := Nat.le_refl _
  have hRl : 0 ≤ (rmz 0 0 0 0).locals := Nat.le_refl _
  generalize (rmz 0 0 0 0) = R at hret hRf hRl ⊢
  generalize s.heap = H at V ⊢
  generalize ([] : List Loc) = locs at V ⊢
  have hl : lv_has ls 3 [(0, .long v0), (2, .int v2)] := hl
  unfold j_X5_placeOf at hj
  refine lv_lload_n hx hb dX5_placeOf_0 rfl (lv_at hl 0 rfl) ?_
  refine lv_l2i hx hb dX5_placeOf_1 rfl ?_
  refine lv_iconst (v := 4) hx hb dX5_placeOf_2 (by decide) ?_
  refine lv_imul hx hb dX5_placeOf_3 ?_
  refine lv_iload_n hx hb dX5_placeOf_4 rfl (lv_at hl 1 rfl) ?_
  refine lv_iadd hx hb dX5_placeOf_5 ?_
  exact hret ((v0.toInt32 * (4 : Int32)) + v2) hj rfl V dX5_placeOf_6)

def j_X2_placeOf (v0 : Int64) : Option (Int32) :=
  some ((((v0 * (-7046029254386353131 : Int64)).toUInt64 >>> ((54 : Int32).toInt64.toUInt64 &&& Int64.toUInt64 63)).toInt64).toInt32)
set_option maxHeartbeats 4000000 in
set_option maxRecDepth 100000 in
theorem k_X2_placeOf (l : Launch) (D : va_G) (tc : Nat → ClassId) (ws : va_W) (v0 : Int64) {x0 : Int32} (hj : j_X2_placeOf v0 = some x0) : MetD l D tc yX2_placeOf cX2_placeOf 2 (some .int) 0 0 [.long v0] (ws) (some (.int x0)) (ws) :=
  x_entI (fun x : Int32 => x) (fun _ : Int32 => ws) (by decide) (own := RX2) rfl (Nat.le_of_ble_eq_true rfl) (fun p e s m args below meth c A Q ls C V hl hret => by
  obtain ⟨hx, hb, hr, hml, hown, hts, hlk, hN⟩ := id C
  have hRf : 0 ≤ (rmz 0 0 0 0).frames := Nat.le_refl _
  have hRl : 0 ≤ (rmz 0 0 0 0).locals := Nat.le_refl _
  generalize (rmz 0 0 0 0) = R at hret hRf hRl ⊢
  generalize s.heap = H at V ⊢
  generalize ([] : List Loc) = locs at V ⊢
  have hl : lv_has ls 2 [(0, .long v0)] := hl
  unfold j_X2_placeOf at hj
  refine lv_lload_n hx hb dX2_placeOf_0 rfl (lv_at hl 0 rfl) ?_
  refine lv_ldc2 (v := (-7046029254386353131)) hx hb hown (hts _ tw_367) dX2_placeOf_1 ?_
  refine lv_lmul hx hb dX2_placeOf_4 ?_
  refine lv_bipush (v := 54) hx hb dX2_placeOf_5 (by decide) ?_
  refine lv_lushr hx hb dX2_placeOf_7 rfl ?_
  refine lv_l2i hx hb dX2_placeOf_8 rfl ?_
  exact hret ((((v0 * (-7046029254386353131 : Int64)).toUInt64 >>> ((54 : Int32).toInt64.toUInt64 &&& Int64.toUInt64 63)).toInt64).toInt32) hj rfl V dX2_placeOf_9)

def j_X3_isKind (v0 : Int32) : Option (Int32) :=
  if v0 < (0 : Int32) then some (0 : Int32) else if (7 : Int32) ≤ v0 then some (0 : Int32) else some (1 : Int32)
set_option maxHeartbeats 4000000 in
set_option maxRecDepth 100000 in
theorem k_X3_isKind (l : Launch) (D : va_G) (tc : Nat → ClassId) (ws : va_W) (v0 : Int32) {x0 : Int32} (hj : j_X3_isKind v0 = some x0) : MetD l D tc yX3_isKind cX3_isKind 1 (some .boolean) 0 0 [.int v0] (ws) (some (.int x0)) (ws) :=
  x_entI (fun x : Int32 => x) (fun _ : Int32 => ws) (by decide) (own := RX3) rfl (Nat.le_of_ble_eq_true rfl) (fun p e s m args below meth c A Q ls C V hl hret => by
  obtain ⟨hx, hb, hr, hml, hown, hts, hlk, hN⟩ := id C
  have hRf : 0 ≤ (rmz 0 0 0 0).frames := Nat.le_refl _
  have hRl : 0 ≤ (rmz 0 0 0 0).locals := Nat.le_refl _
  generalize (rmz 0 0 0 0) = R at hret hRf hRl ⊢
  generalize s.heap = H at V ⊢
  generalize ([] : List Loc) = locs at V ⊢
  have hl : lv_has ls 1 [(0, .int v0)] := hl
  unfold j_X3_isKind at hj
  refine lv_iload_n hx hb dX3_isKind_0 rfl (lv_at hl 0 rfl) ?_
  refine lv_if_lt (tgt := 14) hx hb dX3_isKind_1 (by decide) (fun c1 => ?_) (fun c1 => ?_)
  · replace hj := ip _ c1 hj
    refine lv_iconst (v := 0) hx hb dX3_isKind_14 (by decide) ?_
    exact hret (0 : Int32) hj zn_0 V dX3_isKind_15
  · replace hj := iq _ c1 hj
    refine lv_iload_n hx hb dX3_isKind_4 rfl (lv_at hl 0 rfl) ?_
    refine lv_bipush (v := 7) hx hb dX3_isKind_5 (by decide) ?_
    refine lv_icmp_ge (tgt := 14) hx hb dX3_isKind_7 (by decide) (fun c2 => ?_) (fun c2 => ?_)
    · replace hj := ip _ c2 hj
      refine lv_iconst (v := 0) hx hb dX3_isKind_14 (by decide) ?_
      exact hret (0 : Int32) hj zn_0 V dX3_isKind_15
    · replace hj := iq _ c2 hj
      refine lv_iconst (v := 1) hx hb dX3_isKind_10 (by decide) ?_
      refine lv_goto (tgt := 15) hx hb dX3_isKind_11 (by decide) ?_
      exact hret (1 : Int32) hj zn_1 V dX3_isKind_15)

def j_X3_cellReply (v0 : Int32) (v1 : Int32) (v2 : Int32) : Option (Int32) :=
  if v0 = (0 : Int32) then some v1 else if v0 = (1 : Int32) then some (0 : Int32) else if v1 = v2 then some (1 : Int32) else some (0 : Int32)
set_option maxHeartbeats 4000000 in
set_option maxRecDepth 100000 in
theorem k_X3_cellReply (l : Launch) (D : va_G) (tc : Nat → ClassId) (ws : va_W) (v0 : Int32) (v1 : Int32) (v2 : Int32) {x0 : Int32} (hj : j_X3_cellReply v0 v1 v2 = some x0) : MetD l D tc yX3_cellReply cX3_cellReply 3 (some .int) 0 0 [.int v0, .int v1, .int v2] (ws) (some (.int x0)) (ws) :=
  x_entI (fun x : Int32 => x) (fun _ : Int32 => ws) (by decide) (own := RX3) rfl (Nat.le_of_ble_eq_true rfl) (fun p e s m args below meth c A Q ls C V hl hret => by
  obtain ⟨hx, hb, hr, hml, hown, hts, hlk, hN⟩ := id C
  have hRf : 0 ≤ (rmz 0 0 0 0).frames := Nat.le_refl _
  have hRl : 0 ≤ (rmz 0 0 0 0).locals := Nat.le_refl _
  generalize (rmz 0 0 0 0) = R at hret hRf hRl ⊢
  generalize s.heap = H at V ⊢
  generalize ([] : List Loc) = locs at V ⊢
  have hl : lv_has ls 3 [(0, .int v0), (1, .int v1), (2, .int v2)] := hl
  unfold j_X3_cellReply at hj
  refine lv_iload_n hx hb dX3_cellReply_0 rfl (lv_at hl 0 rfl) ?_
  refine lv_if_ne (tgt := 6) hx hb dX3_cellReply_1 (by decide) (fun c1 => ?_) (fun c1 => ?_)
  · replace hj := iq _ c1 hj
    refine lv_iload_n hx hb dX3_cellReply_6 rfl (lv_at hl 0 rfl) ?_
    refine lv_iconst (v := 1) hx hb dX3_cellReply_7 (by decide) ?_
    refine lv_icmp_eq (tgt := 20) hx hb dX3_cellReply_8 (by decide) (fun c2 => ?_) (fun c2 => ?_)
    · replace hj := ip _ c2 hj
      refine lv_iconst (v := 0) hx hb dX3_cellReply_20 (by decide) ?_
      exact hret (0 : Int32) hj rfl V dX3_cellReply_21
    · replace hj := iq _ c2 hj
      refine lv_iload_n hx hb dX3_cellReply_11 rfl (lv_at hl 1 rfl) ?_
      refine lv_iload_n hx hb dX3_cellReply_12 rfl (lv_at hl 2 rfl) ?_
      refine lv_icmp_ne (tgt := 20) hx hb dX3_cellReply_13 (by decide) (fun c3 => ?_) (fun c3 => ?_)
      · replace hj := iq _ c3 hj
        refine lv_iconst (v := 0) hx hb dX3_cellReply_20 (by decide) ?_
        exact hret (0 : Int32) hj rfl V dX3_cellReply_21
      · replace hj := ip _ c3 hj
        refine lv_iconst (v := 1) hx hb dX3_cellReply_16 (by decide) ?_
        refine lv_goto (tgt := 21) hx hb dX3_cellReply_17 (by decide) ?_
        exact hret (1 : Int32) hj rfl V dX3_cellReply_21
  · replace hj := ip _ c1 hj
    refine lv_iload_n hx hb dX3_cellReply_4 rfl (lv_at hl 1 rfl) ?_
    exact hret v1 hj rfl V dX3_cellReply_5)

def j_X3_lengthOf (v0 : Int64) : Option (Int32) :=
  (j_J13_numberOfLeadingZeros_95d88 v0).bind (fun r1 => nm ((64 : Int32) - r1) (fun x2 => some (((x2 + (4 : Int32)) - (1 : Int32)) / (4 : Int32))))
set_option maxHeartbeats 4000000 in
set_option maxRecDepth 100000 in
theorem k_X3_lengthOf (l : Launch) (D : va_G) (tc : Nat → ClassId) (ws : va_W) (v0 : Int64) {x0 : Int32} (hj : j_X3_lengthOf v0 = some x0) : MetD l D tc yX3_lengthOf cX3_lengthOf 3 (some .int) 2 43 [.long v0] (ws) (some (.int x0)) (ws) :=
  x_entI (fun x : Int32 => x) (fun _ : Int32 => ws) (by decide) (own := RX3) rfl (Nat.le_of_ble_eq_true rfl) (fun p e s m args below meth c A Q ls C V hl hret => by
  obtain ⟨hx, hb, hr, hml, hown, hts, hlk, hN⟩ := id C
  have hRf : 2 ≤ (rmz 2 0 0 43).frames := Nat.le_refl _
  have hRl : 43 ≤ (rmz 2 0 0 43).locals := Nat.le_refl _
  generalize (rmz 2 0 0 43) = R at hret hRf hRl ⊢
  generalize s.heap = H at V ⊢
  generalize ([] : List Loc) = locs at V ⊢
  have hl : lv_has ls 3 [(0, .long v0)] := hl
  unfold j_X3_lengthOf at hj
  refine lv_bipush (v := 64) hx hb dX3_lengthOf_0 (by decide) ?_
  refine lv_lload_n hx hb dX3_lengthOf_2 rfl (lv_at hl 0 rfl) ?_
  obtain ⟨r1, hr1, hj⟩ := bd_some hj
  refine x_allI V _ (rg_map _) (x_runS (n := 1) (rest := [.int (64 : Int32)]) C V _ (rg_map _) (rg_nd _) (k_J13_numberOfLeadingZeros_95d88 l D tc (ws) v0 hr1) tw_389 tw_390 tw_11 tw_391 (by decide +kernel) ⟨Nat.le_trans (Nat.le_of_ble_eq_true rfl) hRf, Nat.le_trans (Nat.le_of_ble_eq_true rfl) hRl⟩ ⟨Nat.zero_le _, Nat.zero_le _⟩ rfl hl.1 rfl (Nat.le_of_ble_eq_true rfl) dX3_lengthOf_3) (fun H locs V zr1 => ?_)
  replace V : Wd D tc A s H locs (ws) := V
  refine lv_isub hx hb dX3_lengthOf_6 ?_
  obtain ⟨x2, ex2, hj⟩ := nm_some hj
  refine x_topi ex2 ?_
  refine lv_istore_n (lv' := [(2, .int x2), (0, .long v0)]) hx hb dX3_lengthOf_7 rfl hl (by decide) rfl (fun ls hl => ?_)
  refine lv_iload_n hx hb dX3_lengthOf_8 rfl (lv_at hl 0 rfl) ?_
  refine lv_iconst (v := 4) hx hb dX3_lengthOf_9 (by decide) ?_
  refine lv_iadd hx hb dX3_lengthOf_10 ?_
  refine lv_iconst (v := 1) hx hb dX3_lengthOf_11 (by decide) ?_
  refine lv_isub hx hb dX3_lengthOf_12 ?_
  refine lv_iconst (v := 4) hx hb dX3_lengthOf_13 (by decide) ?_
  refine lv_idiv hx hb dX3_lengthOf_14 (by decide) ?_
  exact hret (((x2 + (4 : Int32)) - (1 : Int32)) / (4 : Int32)) hj rfl V dX3_lengthOf_15)

def j_X3_putBehind (v0 : Int32) (v1 : Int64) : Option (Int64) :=
  (j_X3_lengthOf v1).bind (fun r1 => some (v1 ||| ((v0.toInt64 + (1 : Int64)) <<< ((r1 * (4 : Int32)).toInt64 &&& 63))))
set_option maxHeartbeats 4000000 in
set_option maxRecDepth 100000 in
theorem k_X3_putBehind (l : Launch) (D : va_G) (tc : Nat → ClassId) (ws : va_W) (v0 : Int32) (v1 : Int64) {x0 : Int64} (hj : j_X3_putBehind v0 v1 = some x0) : MetD l D tc yX3_putBehind cX3_putBehind 3 (some .long) 3 65 [.int v0, .long v1] (ws) (some (.long x0)) (ws) :=
  x_entL (fun x : Int64 => x) (fun _ : Int64 => ws) (by decide) (own := RX3) rfl (Nat.le_of_ble_eq_true rfl) (fun p e s m args below meth c A Q ls C V hl hret => by
  obtain ⟨hx, hb, hr, hml, hown, hts, hlk, hN⟩ := id C
  have hRf : 3 ≤ (rmz 3 0 0 65).frames := Nat.le_refl _
  have hRl : 65 ≤ (rmz 3 0 0 65).locals := Nat.le_refl _
  generalize (rmz 3 0 0 65) = R at hret hRf hRl ⊢
  generalize s.heap = H at V ⊢
  generalize ([] : List Loc) = locs at V ⊢
  have hl : lv_has ls 3 [(0, .int v0), (1, .long v1)] := hl
  unfold j_X3_putBehind at hj
  refine lv_lload_n hx hb dX3_putBehind_0 rfl (lv_at hl 1 rfl) ?_
  refine lv_iload_n hx hb dX3_putBehind_1 rfl (lv_at hl 0 rfl) ?_
  refine lv_i2l hx hb dX3_putBehind_2 rfl ?_
  refine lv_lconst (v := 1) hx hb dX3_putBehind_3 (by decide) ?_
  refine lv_ladd hx hb dX3_putBehind_4 ?_
  refine lv_lload_n hx hb dX3_putBehind_5 rfl (lv_at hl 1 rfl) ?_
  obtain ⟨r1, hr1, hj⟩ := bd_some hj
  refine x_allI V _ (rg_map _) (x_runS (n := 1) (rest := [.long (v0.toInt64 + (1 : Int64)), .long v1]) C V _ (rg_map _) (rg_nd _) (k_X3_lengthOf l D tc (ws) v1 hr1) tw_386 tw_387 tw_8 tw_388 (by decide +kernel) ⟨Nat.le_trans (Nat.le_of_ble_eq_true rfl) hRf, Nat.le_trans (Nat.le_of_ble_eq_true rfl) hRl⟩ ⟨Nat.zero_le _, Nat.zero_le _⟩ rfl hl.1 rfl (Nat.le_of_ble_eq_true rfl) dX3_putBehind_6) (fun H locs V zr1 => ?_)
  replace V : Wd D tc A s H locs (ws) := V
  refine lv_iconst (v := 4) hx hb dX3_putBehind_9 (by decide) ?_
  refine lv_imul hx hb dX3_putBehind_10 ?_
  refine lv_lshl hx hb dX3_putBehind_11 rfl ?_
  refine lv_lor hx hb dX3_putBehind_12 ?_
  exact hret (v1 ||| ((v0.toInt64 + (1 : Int64)) <<< ((r1 * (4 : Int32)).toInt64 &&& 63))) hj V dX3_putBehind_13)

def j_X3_setReply (v0 : Int32) (v1 : Int32) : Option (Int32) :=
  if v0 = (0 : Int32) then if v1 = (1 : Int32) then some (0 : Int32) else some (1 : Int32) else if v1 = (0 : Int32) then some (0 : Int32) else some (1 : Int32)
set_option maxHeartbeats 4000000 in
set_option maxRecDepth 100000 in
theorem k_X3_setReply (l : Launch) (D : va_G) (tc : Nat → ClassId) (ws : va_W) (v0 : Int32) (v1 : Int32) {x0 : Int32} (hj : j_X3_setReply v0 v1 = some x0) : MetD l D tc yX3_setReply cX3_setReply 2 (some .int) 0 0 [.int v0, .int v1] (ws) (some (.int x0)) (ws) :=
  x_entI (fun x : Int32 => x) (fun _ : Int32 => ws) (by decide) (own := RX3) rfl (Nat.le_of_ble_eq_true rfl) (fun p e s m args below meth c A Q ls C V hl hret => by
  obtain ⟨hx, hb, hr, hml, hown, hts, hlk, hN⟩ := id C
  have hRf : 0 ≤ (rmz 0 0 0 0).frames := Nat.le_refl _
  have hRl : 0 ≤ (rmz 0 0 0 0).locals := Nat.le_refl _
  generalize (rmz 0 0 0 0) = R at hret hRf hRl ⊢
  generalize s.heap = H at V ⊢
  generalize ([] : List Loc) = locs at V ⊢
  have hl : lv_has ls 2 [(0, .int v0), (1, .int v1)] := hl
  unfold j_X3_setReply at hj
  refine lv_iload_n hx hb dX3_setReply_0 rfl (lv_at hl 1 rfl) ?_
  refine lv_iload_n hx hb dX3_setReply_1 rfl (lv_at hl 0 rfl) ?_
  refine lv_if_ne (tgt := 9) hx hb dX3_setReply_2 (by decide) (fun c1 => ?_) (fun c1 => ?_)
  · replace hj := iq _ c1 hj
    refine lv_iconst (v := 0) hx hb dX3_setReply_9 (by decide) ?_
    refine lv_icmp_eq (tgt := 17) hx hb dX3_setReply_10 (by decide) (fun c2 => ?_) (fun c2 => ?_)
    · replace hj := ip _ c2 hj
      refine lv_iconst (v := 0) hx hb dX3_setReply_17 (by decide) ?_
      exact hret (0 : Int32) hj rfl V dX3_setReply_18
    · replace hj := iq _ c2 hj
      refine lv_iconst (v := 1) hx hb dX3_setReply_13 (by decide) ?_
      refine lv_goto (tgt := 18) hx hb dX3_setReply_14 (by decide) ?_
      exact hret (1 : Int32) hj rfl V dX3_setReply_18
  · replace hj := ip _ c1 hj
    refine lv_iconst (v := 1) hx hb dX3_setReply_5 (by decide) ?_
    refine lv_goto (tgt := 10) hx hb dX3_setReply_6 (by decide) ?_
    refine lv_icmp_eq (tgt := 17) hx hb dX3_setReply_10 (by decide) (fun c3 => ?_) (fun c3 => ?_)
    · replace hj := ip _ c3 hj
      refine lv_iconst (v := 0) hx hb dX3_setReply_17 (by decide) ?_
      exact hret (0 : Int32) hj rfl V dX3_setReply_18
    · replace hj := iq _ c3 hj
      refine lv_iconst (v := 1) hx hb dX3_setReply_13 (by decide) ?_
      refine lv_goto (tgt := 18) hx hb dX3_setReply_14 (by decide) ?_
      exact hret (1 : Int32) hj rfl V dX3_setReply_18)

def j_X3_setAfter (v0 : Int32) (v1 : Int64) (v3 : Int64) : Option (Int64) :=
  if v0 = (0 : Int32) then some (v3 ||| v1) else if v0 = (1 : Int32) then some (v3 &&& (v1 ^^^ (-1 : Int64))) else some v3
set_option maxHeartbeats 4000000 in
set_option maxRecDepth 100000 in
theorem k_X3_setAfter (l : Launch) (D : va_G) (tc : Nat → ClassId) (ws : va_W) (v0 : Int32) (v1 : Int64) (v3 : Int64) {x0 : Int64} (hj : j_X3_setAfter v0 v1 v3 = some x0) : MetD l D tc yX3_setAfter cX3_setAfter 5 (some .long) 0 0 [.int v0, .long v1, .long v3] (ws) (some (.long x0)) (ws) :=
  x_entL (fun x : Int64 => x) (fun _ : Int64 => ws) (by decide) (own := RX3) rfl (Nat.le_of_ble_eq_true rfl) (fun p e s m args below meth c A Q ls C V hl hret => by
  obtain ⟨hx, hb, hr, hml, hown, hts, hlk, hN⟩ := id C
  have hRf : 0 ≤ (rmz 0 0 0 0).frames := Nat.le_refl _
  have hRl : 0 ≤ (rmz 0 0 0 0).locals := Nat.le_refl _
  generalize (rmz 0 0 0 0) = R at hret hRf hRl ⊢
  generalize s.heap = H at V ⊢
  generalize ([] : List Loc) = locs at V ⊢
  have hl : lv_has ls 5 [(0, .int v0), (1, .long v1), (3, .long v3)] := hl
  unfold j_X3_setAfter at hj
  refine lv_iload_n hx hb dX3_setAfter_0 rfl (lv_at hl 0 rfl) ?_
  refine lv_if_ne (tgt := 8) hx hb dX3_setAfter_1 (by decide) (fun c1 => ?_) (fun c1 => ?_)
  · replace hj := iq _ c1 hj
    refine lv_iload_n hx hb dX3_setAfter_8 rfl (lv_at hl 0 rfl) ?_
    refine lv_iconst (v := 1) hx hb dX3_setAfter_9 (by decide) ?_
    refine lv_icmp_ne (tgt := 23) hx hb dX3_setAfter_10 (by decide) (fun c2 => ?_) (fun c2 => ?_)
    · replace hj := iq _ c2 hj
      refine lv_lload_n hx hb dX3_setAfter_23 rfl (lv_at hl 2 rfl) ?_
      exact hret v3 hj V dX3_setAfter_24
    · replace hj := ip _ c2 hj
      refine lv_lload_n hx hb dX3_setAfter_13 rfl (lv_at hl 2 rfl) ?_
      refine lv_lload_n hx hb dX3_setAfter_14 rfl (lv_at hl 1 rfl) ?_
      refine lv_ldc2 (v := (-1)) hx hb hown (hts _ tw_423) dX3_setAfter_15 ?_
      refine lv_lxor hx hb dX3_setAfter_18 ?_
      refine lv_land hx hb dX3_setAfter_19 ?_
      refine lv_goto (tgt := 24) hx hb dX3_setAfter_20 (by decide) ?_
      exact hret (v3 &&& (v1 ^^^ (-1 : Int64))) hj V dX3_setAfter_24
  · replace hj := ip _ c1 hj
    refine lv_lload_n hx hb dX3_setAfter_4 rfl (lv_at hl 2 rfl) ?_
    refine lv_lload_n hx hb dX3_setAfter_5 rfl (lv_at hl 1 rfl) ?_
    refine lv_lor hx hb dX3_setAfter_6 ?_
    exact hret (v3 ||| v1) hj V dX3_setAfter_7)

def j_X4_keyOf (v0 : Int32) (v1 : Int64) : Option (Int64) :=
  some ((v1 <<< ((10 : Int32).toInt64 &&& 63)) ||| v0.toInt64)
set_option maxHeartbeats 4000000 in
set_option maxRecDepth 100000 in
theorem k_X4_keyOf (l : Launch) (D : va_G) (tc : Nat → ClassId) (ws : va_W) (v0 : Int32) (v1 : Int64) {x0 : Int64} (hj : j_X4_keyOf v0 v1 = some x0) : MetD l D tc yX4_keyOf cX4_keyOf 3 (some .long) 0 0 [.int v0, .long v1] (ws) (some (.long x0)) (ws) :=
  x_entL (fun x : Int64 => x) (fun _ : Int64 => ws) (by decide) (own := RX4) rfl (Nat.le_of_ble_eq_true rfl) (fun p e s m args below meth c A Q ls C V hl hret => by
  obtain ⟨hx, hb, hr, hml, hown, hts, hlk, hN⟩ := id C
  have hRf : 0 ≤ (rmz 0 0 0 0).frames := Nat.le_refl _
  have hRl : 0 ≤ (rmz 0 0 0 0).locals := Nat.le_refl _
  generalize (rmz 0 0 0 0) = R at hret hRf hRl ⊢
  generalize s.heap = H at V ⊢
  generalize ([] : List Loc) = locs at V ⊢
  have hl : lv_has ls 3 [(0, .int v0), (1, .long v1)] := hl
  unfold j_X4_keyOf at hj
  refine lv_lload_n hx hb dX4_keyOf_0 rfl (lv_at hl 1 rfl) ?_
  refine lv_bipush (v := 10) hx hb dX4_keyOf_1 (by decide) ?_
  refine lv_lshl hx hb dX4_keyOf_3 rfl ?_
  refine lv_iload_n hx hb dX4_keyOf_4 rfl (lv_at hl 0 rfl) ?_
  refine lv_i2l hx hb dX4_keyOf_5 rfl ?_
  refine lv_lor hx hb dX4_keyOf_6 ?_
  exact hret ((v1 <<< ((10 : Int32).toInt64 &&& 63)) ||| v0.toInt64) hj V dX4_keyOf_7)
