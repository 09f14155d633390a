set_option maxHeartbeats 8000000 in
set_option maxRecDepth 100000 in
/-- THE LAW, from its entry, over the facts -/
theorem whole_start_of {Inv : IVT} (F : Facts Inv) (h0 : Inv 0 (fun _ => 0) St0 (fun _ => St0) (fun _ => none) (fun _ => 0) (fun _ => (fun _ => 0, fun _ => 0)) 0 0 St0) {p : Program} {e : Env} {s : State} {m : MethodId} {below : List Frame} {meth : Method} {c : Code} (l : Launch) {b L : Nat} {xs : Nat → Int32} (hL : L ≤ 3072) (C0 : lw_At p s m meth c b L xs) : W p l e room_1 s m #[Value.ref b] below meth c s.heap [] 0 0 (lw_Z below #[Value.ref b] s) (entryFrame m ([Value.ref b] : List Value).toArray 4) := by
  obtain ⟨hx, hb, hr, hml, hown, htsT, hX, hbl, hlocks, hgv⟩ := id C0
  have hts : ∀ w ∈ lw_g, w.before #[Value.ref b] s = true := fun w hw => htsT w (lw_gs w hw)
  have hA : ∀ q : Nat, s.heap.size ≤ q → (fun q : Nat => s.heap.size ≤ q) q := fun _ h => h
  have hA0 : ∀ a : Nat, a < s.heap.size → ¬ (fun q : Nat => s.heap.size ≤ q) a := fun a h => Nat.not_le.mpr h
  have hN : Nws s := ⟨va_Nw.of rfl (htsT _ (List.mem_append_right _ (List.mem_append_left _ (List.mem_of_getElem? (i := 26) rfl)))), va_Nw.of rfl (htsT _ (List.mem_append_right _ (List.mem_append_left _ (List.mem_of_getElem? (i := 88) rfl)))), va_Nw.of rfl (htsT _ (List.mem_append_right _ (List.mem_append_left _ (List.mem_of_getElem? (i := 127) rfl)))), va_Nw.of rfl (htsT _ (List.mem_append_right _ (List.mem_append_left _ (List.mem_of_getElem? (i := 177) rfl)))), va_Nw.of rfl (htsT _ (List.mem_append_right _ (List.mem_append_right _ (List.mem_append_left _ (List.mem_of_getElem? (i := 85) rfl))))), va_Nw.of rfl (htsT _ (List.mem_append_right _ (List.mem_append_right _ (List.mem_append_left _ (List.mem_of_getElem? (i := 111) rfl)))))⟩
  have hao3 : va_AO "HistoryCourt$Table" s := va_AO.of (htsT _ (List.mem_append_right _ (List.mem_append_left _ (List.mem_of_getElem? (i := 21) rfl))))
  have hao2 : va_AO "HistoryCourt$History" s := va_AO.of (htsT _ (List.mem_append_right _ (List.mem_append_left _ (List.mem_of_getElem? (i := 23) rfl))))
  obtain ⟨c0, iS0, hKn0⟩ := u_known (C := RX0) (T := TX0) (N := 2) (n := 2) hts inX0 (hts _ tw_126)
  obtain ⟨c1, iS1, hKn1⟩ := u_known (C := RX1) (T := TX1) (N := 11) (n := 11) hts inX1 (hts _ tw_31)
  obtain ⟨c2, iS2, hKn2⟩ := u_known (C := RX2) (T := TX2) (N := 4) (n := 4) hts inX2 (hts _ tw_87)
  obtain ⟨c3, iS3, hKn3⟩ := u_known (C := RX4) (T := TX4) (N := 6) (n := 6) hts inX4 (hts _ tw_25)
  obtain ⟨c4, iS4, hKn4⟩ := u_known (C := RX5) (T := TX5) (N := 3) (n := 3) hts inX5 (hts _ tw_176)
  obtain ⟨c5, iS5, hKn5⟩ := u_known (C := RX6) (T := TX6) (N := 10) (n := 10) hts inX6 (hts _ tw_13)
  obtain ⟨c6, iS6, hKn6⟩ := u_known (C := RX7) (T := TX7) (N := 30) (n := 30) hts inX7 (hts _ tw_516)
  obtain ⟨dC, dI, hKc⟩ : ∃ (dC : Nat → ClassId) (dI : Nat → Nat → Nat), ∀ (k : Nat) (q : vw_C), vwCl[k]? = some q → u_Kn s q.1 q.2.1 q.2.2 (dC k) (dI k) := by
    refine ⟨fun k => if k = 0 then c0 else if k = 1 then c1 else if k = 2 then c2 else if k = 3 then c3 else if k = 4 then c4 else if k = 5 then c5 else c6, fun k => if k = 0 then iS0 else if k = 1 then iS1 else if k = 2 then iS2 else if k = 3 then iS3 else if k = 4 then iS4 else if k = 5 then iS5 else iS6, ?_⟩
    intro k q hq
    match k, hq with
    | 0, hq => cases hq; exact hKn0
    | 1, hq => cases hq; exact hKn1
    | 2, hq => cases hq; exact hKn2
    | 3, hq => cases hq; exact hKn3
    | 4, hq => cases hq; exact hKn4
    | 5, hq => cases hq; exact hKn5
    | 6, hq => cases hq; exact hKn6
    | k + 7, hq => simp [vwCl] at hq
  obtain ⟨cI, kI, pI, f1, f2, f3⟩ := Cond.arrayClass_spec (hts _ tw_85)
  obtain ⟨cJ, kJ, pJ, g1, g2, g3⟩ := Cond.arrayClass_spec (hts _ tw_105)
  obtain ⟨pH, cH, kH, v1, v2, v3, v4, v5⟩ := Cond.arrayOver_spec hao2
  obtain ⟨pT, cT, kT, w1, w2, w3, w4, w5⟩ := Cond.arrayOver_spec hao3
  obtain ⟨tc, t0, t1, t2, t3⟩ : ∃ tc : Nat → ClassId, tc 0 = cI ∧ tc 1 = cJ ∧ tc 2 = cH ∧ tc 3 = cT := ⟨fun k => if k = 0 then cI else if k = 1 then cJ else if k = 2 then cH else cT, rfl, rfl, rfl, rfl⟩
  have hK : va_K (dC, dI) vwCl (tys tc) s := by
    refine ⟨hKc, fun k q h => ?_⟩
    match k, h with
    | 0, h => cases h; exact ⟨fun n z => ⟨fun k h => (by cases h), kI, by rw [show (arrV (tc 0) n z).cls = tc 0 from rfl, t0]; exact f2, pI, f3⟩, by rw [t0]; exact f1⟩
    | 1, h => cases h; exact ⟨fun n z => ⟨fun k h => (by cases h), kJ, by rw [show (arrV (tc 1) n z).cls = tc 1 from rfl, t1]; exact g2, pJ, g3⟩, by rw [t1]; exact g1⟩
    | 2, h => cases h; exact ⟨fun n z => ⟨fun k h => (by cases h), kH, by rw [show (arrV (tc 2) n z).cls = tc 2 from rfl, t2]; exact v3, pH, v4⟩, by rw [t2]; exact ⟨kH, pH, v3, v4, v1, v5⟩⟩
    | 3, h => cases h; exact ⟨fun n z => ⟨fun k h => (by cases h), kT, by rw [show (arrV (tc 3) n z).cls = tc 3 from rfl, t3]; exact w3, pT, w4⟩, by rw [t3]; exact ⟨kT, pT, w3, w4, w1, w5⟩⟩
    | k + 4, h => simp [tys] at h
  have hs := flat_of_before _ hgv
  have hE : StA (fun q : Nat => s.heap.size ≤ q) s := by
    obtain ⟨tA, ht, hT⟩ := va_Tof (f := fun k => .int (acts k)) (tm := .static "HistoryCourt$Model" "ACTS" "[I") (ty := .int) (N := 7) (A := fun q : Nat => s.heap.size ≤ q) (by decide) (hs (.arrayOf (.static "HistoryCourt$Model" "ACTS" "[I") .int) (by decide +kernel)) (va_eqt (z := 7) (hs (.eq (.length (.static "HistoryCourt$Model" "ACTS" "[I")) (.int 7)) (by decide +kernel))) (fun j hj => by
      rcases (show j = 0 ∨ j = 1 ∨ j = 2 ∨ j = 3 ∨ j = 4 ∨ j = 5 ∨ j = 6 by omega) with rfl | rfl | rfl | rfl | rfl | rfl | rfl
      · exact va_eqt (z := 3) (hs (.eq (.elem (.static "HistoryCourt$Model" "ACTS" "[I") (.int 0)) (.int 3)) (by decide +kernel))
      · exact va_eqt (z := 2) (hs (.eq (.elem (.static "HistoryCourt$Model" "ACTS" "[I") (.int 1)) (.int 2)) (by decide +kernel))
      · exact va_eqt (z := 2) (hs (.eq (.elem (.static "HistoryCourt$Model" "ACTS" "[I") (.int 2)) (.int 2)) (by decide +kernel))
      · exact va_eqt (z := 2) (hs (.eq (.elem (.static "HistoryCourt$Model" "ACTS" "[I") (.int 3)) (.int 2)) (by decide +kernel))
      · exact va_eqt (z := 3) (hs (.eq (.elem (.static "HistoryCourt$Model" "ACTS" "[I") (.int 4)) (.int 3)) (by decide +kernel))
      · exact va_eqt (z := 3) (hs (.eq (.elem (.static "HistoryCourt$Model" "ACTS" "[I") (.int 5)) (.int 3)) (by decide +kernel))
      · exact va_eqt (z := 4) (hs (.eq (.elem (.static "HistoryCourt$Model" "ACTS" "[I") (.int 6)) (.int 4)) (by decide +kernel))) hA0
    exact ⟨tA, va_Zof (htsT _ (List.mem_append_right _ (List.mem_append_right _ (List.mem_append_left _ (List.mem_of_getElem? (i := 9) rfl))))) (hts _ tw_8) ht hA0, hT⟩
  have C : Cx p s m #[Value.ref b] meth c cL_law 4 RL ret := ⟨hx, hb, hr, hml, hown, hts, hlocks, hN⟩
  have V : Wd (dC, dI) tc (fun q : Nat => s.heap.size ≤ q) s s.heap [] [] := ⟨hK, fun k q h => by simp at h, ⟨fun i j p q h => by simp at h, fun k q h => by simp at h⟩, va_S.rf, hA⟩
  have hl := lv_entry ([.ref b]) (n := 4) (Nat.le_of_ble_eq_true rfl)
  rw [lg_entry_eq]
  generalize (lg_sl ([.ref b]) ++ List.replicate (4 - (lg_sl ([.ref b])).length) Slot.unset).toArray = ls at hl ⊢
  have hl : lv_has ls 4 [(0, .ref b)] := hl
  refine x_new (fs := [.null, .int 0, .null, .int 0, .null, .null, .int 0, .null, .int 0, .int 0]) hx hb hts hown V 5 inX6 tyX6_ok tw_12 tw_13 tw_1 rfl (fun j hj => by rcases (show j = 0 ∨ j = 1 ∨ j = 2 ∨ j = 3 ∨ j = 4 ∨ j = 5 ∨ j = 6 ∨ j = 7 ∨ j = 8 ∨ j = 9 by omega) with rfl | rfl | rfl | rfl | rfl | rfl | rfl | rfl | rfl | rfl <;> rfl) (Nat.le_of_ble_eq_true rfl) (Nat.le_of_ble_eq_true rfl) dL_law_0 (fun xo H V => ?_)
  replace V : Wd (dC, dI) tc (fun q : Nat => s.heap.size ≤ q) s H [] ([(xo, .inr (5, [.null, .int 0, .null, .int 0, .null, .null, .int 0, .null, .int 0, .int 0]))]) := V
  refine lv_dup hx hb dL_law_3 rfl ?_
  refine x_allG V _ (rg_map _) (x_runIE (n := 0) (As := []) (rest := [.ref xo]) ⟨hao2, hao3⟩ C V _ (rg_map _) (rg_nd _) (kc_X6_init l (dC, dI) tc xo) tw_14 tw_15 tw_1 tw_16 rfl (by decide +kernel) ⟨(Nat.le_of_ble_eq_true rfl), (Nat.le_of_ble_eq_true rfl)⟩ ⟨(Nat.le_of_ble_eq_true rfl), (Nat.le_of_ble_eq_true rfl)⟩ rfl hl.1 rfl (Nat.le_of_ble_eq_true rfl) dL_law_4) (fun v w H locs hRT V => ?_)
  obtain ⟨rfl, xa, ad, sh, rfl⟩ := hRT
  refine lv_astore_n (lv' := [(1, .ref xo), (0, .ref b)]) hx hb dL_law_7 rfl hl (by decide) rfl (fun ls hl => ?_)
  refine x_new (fs := [.int 0, .null, .null, .int 0, .int 0, .null, .null, .null, .null, .null, .null, .null, .null, .null, .null, .null, .int 0, .null, .null, .null, .null, .int 0, .long 0, .int 0, .int 0, .null, .int 0, .int 0, .null, .int 0]) hx hb hts hown V 6 inX7 tyX7_ok tw_515 tw_516 tw_6 rfl (fun j hj => by rcases (show j = 0 ∨ j = 1 ∨ j = 2 ∨ j = 3 ∨ j = 4 ∨ j = 5 ∨ j = 6 ∨ j = 7 ∨ j = 8 ∨ j = 9 ∨ j = 10 ∨ j = 11 ∨ j = 12 ∨ j = 13 ∨ j = 14 ∨ j = 15 ∨ j = 16 ∨ j = 17 ∨ j = 18 ∨ j = 19 ∨ j = 20 ∨ j = 21 ∨ j = 22 ∨ j = 23 ∨ j = 24 ∨ j = 25 ∨ j = 26 ∨ j = 27 ∨ j = 28 ∨ j = 29 by omega) with rfl | rfl | rfl | rfl | rfl | rfl | rfl | rfl | rfl | rfl | rfl | rfl | rfl | rfl | rfl | rfl | rfl | rfl | rfl | rfl | rfl | rfl | rfl | rfl | rfl | rfl | rfl | rfl | rfl | rfl <;> rfl) (Nat.le_of_ble_eq_true rfl) (Nat.le_of_ble_eq_true rfl) dL_law_8 (fun mo H V => ?_)
  refine lv_dup hx hb dL_law_11 rfl ?_
  replace V : Wd (dC, dI) tc (fun q : Nat => s.heap.size ≤ q) s H locs ((Bw tc xo xa ad (fun _ => none) (fun _ => none) 0 0 (fun _ => 0) ++ Gw tc ad sh St0) ++ ([(mo, .inr (6, [.int 0, .null, .null, .int 0, .int 0, .null, .null, .null, .null, .null, .null, .null, .null, .null, .null, .null, .int 0, .null, .null, .null, .null, .int 0, .long 0, .int 0, .int 0, .null, .int 0, .int 0, .null, .int 0]))] ++ [])) := V
  refine x_midG V (x_runI (n := 0) (As := []) (rest := [.ref mo]) C V _ (mid_map _ _ _) (mid_nd _ _) (kc_X7_init l (dC, dI) tc mo) tw_517 tw_518 tw_6 tw_519 rfl (by decide +kernel) ⟨(Nat.le_of_ble_eq_true rfl), (Nat.le_of_ble_eq_true rfl)⟩ ⟨(Nat.le_of_ble_eq_true rfl), (Nat.le_of_ble_eq_true rfl)⟩ rfl hl.1 rfl (Nat.le_of_ble_eq_true rfl) dL_law_12) (fun v w H locs hRT _ V => ?_)
  obtain ⟨rfl, mad, rfl⟩ := hRT
  refine lv_astore_n (lv' := [(2, .ref mo), (1, .ref xo), (0, .ref b)]) hx hb dL_law_15 rfl hl (by decide) rfl (fun ls hl => ?_)
  refine lv_iconst (v := 0) hx hb dL_law_16 (by decide) ?_
  refine lv_istore_n (lv' := [(3, .int 0), (2, .ref mo), (1, .ref xo), (0, .ref b)]) hx hb dL_law_17 rfl hl (by decide) rfl (fun ls hl => ?_)
  refine W.widen (k := 60 + 2 * 0) (n := 13000 + 14 * 0) (Nat.le_of_ble_eq_true rfl) (Nat.le_of_ble_eq_true rfl) ?_
  have eX : Xw tc xo xa ad (fun _ _ => 0) (fun _ _ => 0) sh (fun _ => 0) St0 (fun _ => St0) (fun _ => none) (fun _ => 0) (fun _ => (fun _ => 0, fun _ => 0)) 0 0 = Bw tc xo xa ad (fun _ => none) (fun _ => none) 0 0 (fun _ => 0) ++ Gw tc ad sh St0 := rfl
  rw [← eX] at V
  exact law_loop F C hE hX hbl hL (L + 1) 0 (Nat.zero_le L) (by omega) _ _ _ _ _ _ _ _ _ _ _ _ _ _ _ _ ls h0 V (lv_sub hl [3, 2, 1, 0] rfl)
