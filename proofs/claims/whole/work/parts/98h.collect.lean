/-! ===== the class collects ===== -/
theorem SA_pos {a : Nat → Int32} {y : Int32} : ∀ m, SA a m → ¬ mem a m y → ∃ q0, q0 ≤ m ∧ (∀ q, q < q0 → a q < y) ∧ ∀ q, q0 ≤ q → q < m → y < a q
  | 0, _, _ => ⟨0, Nat.le_refl 0, fun q h => absurd h (Nat.not_lt_zero q), fun q _ h => absurd h (Nat.not_lt_zero q)⟩
  | m + 1, h, hn => by
    obtain ⟨q0, h1, h2, h3⟩ := SA_pos m (fun q r hq hr => h q r hq (by omega)) (fun ⟨q, z1, z2⟩ => hn ⟨q, by omega, z2⟩)
    by_cases c : q0 < m
    · refine ⟨q0, by omega, h2, fun q z1 z2 => ?_⟩
      by_cases e : q = m
      · rw [e]
        exact Int32.lt_trans (h3 q0 (Nat.le_refl _) c) (h q0 m c (by omega))
      · exact h3 q z1 (by omega)
    · have e : q0 = m := by omega
      by_cases c2 : a m < y
      · refine ⟨m + 1, Nat.le_refl _, fun q hq => ?_, fun q z1 z2 => by omega⟩
        by_cases e2 : q = m
        · rw [e2]
          exact c2
        · exact h2 q (by omega)
      · refine ⟨m, by omega, fun q hq => h2 q (by omega), fun q z1 z2 => ?_⟩
        rw [show q = m by omega]
        exact Int32.lt_of_le_of_ne (Int32.not_lt.mp c2) (fun z => hn ⟨m, by omega, z.symm⟩)
section COLLECT
variable {v : HVT} {T : TbT} {rule tg ag : Nat}
def FzA (v : HVT) (T : TbT) (rule tg : Nat) (y : Int32) : Prop := FS v T rule tg 0 (s0 v) y
theorem full_ok (hw : WF v) (hT : TQ v T) (htg : tg < nOf v) (hop : enB v tg = false) {a : Nat → Int32} {m : Nat} {y : Int32} (hS : SA a m) (h : ∀ z, mem a m z → FzA v T rule tg z) (hy : FzA v T rule tg y) (hn : ¬ mem a m y) : m < 64 := by
  obtain ⟨q0, h1, h2, h3⟩ := SA_pos m hS hn
  refine fills_64 (rule := rule) hw hT htg hop (insA_SA hS h1 h2 h3) (fun z hz => ?_)
  rcases (insA_mem h1).mp hz with e | e
  · rw [e]
    exact hy
  · exact h z e
def P2 (v : HVT) (T : TbT) (rule tg : Nat) (a : Nat → Int32) (m : Nat) (Act : Nat → Sg → Prop) : Nat → Sg → Int64 → Prop := fun p s x => (p.testBit tg = true ∧ x = lN (val true (Wv v T rule (2 ^ nOf v - 1) p s))) ∨ (p.testBit tg = false ∧ x = lN 0 ∧ ((∀ y, FS v T rule tg p s y → mem a m y) ∨ Act p s))
def cf2 (u u' : St) : Prop := (∀ k, k ≠ 30 → u'.1 k = u.1 k) ∧ ∀ k, k ≠ 22 → k ≠ 31 → u'.2.1 k = u.2.1 k
theorem cf2_refl (u : St) : cf2 u u := ⟨fun _ _ => rfl, fun _ _ _ => rfl⟩
theorem cf2_trans {a b c : St} (h : cf2 a b) (h2 : cf2 b c) : cf2 a c := ⟨fun k x => (h2.1 k x).trans (h.1 k x), fun k x y => (h2.2 k x y).trans (h.2 k x y)⟩
theorem cf2_fm {a b : St} (h : fm a b) : cf2 a b := ⟨fun k _ => by rw [h.1], fun k x _ => h.2 k x⟩
theorem cf2_afr {a b : St} (h : afr a b) : cf2 a b := ⟨h.1, fun k _ y => h.2.1 k y⟩
theorem SO_cf2 {part : Nat} {one : Bool} {u u' : St} (h : SO v rule part one u) (hf : cf2 u u') : SO v rule part one u' := by
  obtain ⟨h1, h2⟩ := hf
  unfold SO CR at h ⊢
  rw [h1 0 (by decide), h1 2 (by decide), h1 3 (by decide), h1 11 (by decide), h1 12 (by decide), h1 14 (by decide), h2 4 (by decide) (by decide), h2 5 (by decide) (by decide), h2 6 (by decide) (by decide), h2 7 (by decide) (by decide), h2 8 (by decide) (by decide), h2 9 (by decide) (by decide), h2 10 (by decide) (by decide), h2 13 (by decide) (by decide)]
  exact h
theorem MI_afr {P : Nat → Sg → Int64 → Prop} {u u' : St} (h : MI v P u) (hf : afr u u') : MI v P u' := by
  obtain ⟨h1, h2, h3⟩ := hf
  unfold MI at h ⊢
  rw [h1 23 (by decide), h2 22 (by decide), h3]
  exact h
theorem AG_afr {u u' : St} (h : AG ag u) (hf : afr u u') : AG ag u' := by
  obtain ⟨h1, h2, h3⟩ := hf
  unfold AG at h ⊢
  rw [h1 23 (by decide), h2 22 (by decide)]
  exact h
/-- what the calls c .. c + k - 1 bring -/
def HC (v : HVT) (T : TbT) (rule tg p : Nat) (s : Sg) (k c : Nat) (y : Int32) : Prop := ∃ q, c ≤ q ∧ q < c + k ∧ fit v T rule (2 ^ nOf v - 1) q p s = true ∧ ((q = tg ∧ Wv v T rule (2 ^ nOf v - 1) (p ||| 2 ^ q) (nxt v T q s) ≠ 0 ∧ y = rpl v T q s) ∨ (q ≠ tg ∧ FS v T rule tg (p ||| 2 ^ q) (nxt v T q s) y))
theorem HC_0 {p : Nat} {s : Sg} {c : Nat} {y : Int32} : ¬ HC v T rule tg p s 0 c y := fun ⟨q, h1, h2, _⟩ => by omega
theorem HC_s {p : Nat} {s : Sg} {k c : Nat} {y : Int32} : HC v T rule tg p s (k + 1) c y ↔ (fit v T rule (2 ^ nOf v - 1) c p s = true ∧ ((c = tg ∧ Wv v T rule (2 ^ nOf v - 1) (p ||| 2 ^ c) (nxt v T c s) ≠ 0 ∧ y = rpl v T c s) ∨ (c ≠ tg ∧ FS v T rule tg (p ||| 2 ^ c) (nxt v T c s) y))) ∨ HC v T rule tg p s k (c + 1) y := by
  constructor
  · rintro ⟨q, h1, h2, h3⟩
    by_cases e : q = c
    · rw [e] at h3
      exact Or.inl h3
    · exact Or.inr ⟨q, by omega, by omega, h3⟩
  · rintro (h | ⟨q, h1, h2, h3⟩)
    · exact ⟨c, Nat.le_refl c, by omega, h⟩
    · exact ⟨q, by omega, by omega, h3⟩
theorem HC_FS {p : Nat} {s : Sg} {y : Int32} : FS v T rule tg p s y ↔ HC v T rule tg p s (nOf v) 0 y := by
  rw [FS_iff]
  exact ⟨fun ⟨c, h1, h2⟩ => ⟨c, Nat.zero_le c, by omega, h2⟩, fun ⟨c, _, h1, h2⟩ => ⟨c, by omega, h2⟩⟩
def CRec (v : HVT) (T : TbT) (rule tg ag d : Nat) (rc : St → Int32 → Int32 → Int64 → Int32 → Option St) : Prop :=
  ∀ (p : Nat) (s : Sg) (u : St) (m : Nat) (Act : Nat → Sg → Prop), d + fr (nOf v) p = nOf v → p < 1024 → p.testBit tg = false → Gd v p s → SO v rule (2 ^ nOf v - 1) true u → AG ag u → AN u m → MI v (P2 v T rule tg (u.2.1 31) m Act) u → (∀ y, mem (u.2.1 31) m y → FzA v T rule tg y) → (∀ y, FS v T rule tg p s y → FzA v T rule tg y) → (∀ p' s', Act p' s' → fr (nOf v) p < fr (nOf v) p') →
    ∃ (u' : St) (m' : Nat), rc u (nI d) (nI p) (enc v s) (nI tg) = some u' ∧ cf2 u u' ∧ AG ag u' ∧ AN u' m' ∧ MI v (P2 v T rule tg (u'.2.1 31) m' Act) u' ∧ ∀ y, mem (u'.2.1 31) m' y ↔ mem (u.2.1 31) m y ∨ FS v T rule tg p s y
theorem collect_43 (hw : WF v) (hT : TQ v T) (htg : tg < nOf v) (hop : enB v tg = false) {d : Nat} {rc : St → Int32 → Int32 → Int64 → Int32 → Option St} (hrc : CRec v T rule tg ag (d + 1) rc) {p : Nat} {s : Sg} (hd : d + fr (nOf v) p = nOf v) (hp : p < 1024) (hpt : p.testBit tg = false) (hG : Gd v p s) (hF : ∀ y, FS v T rule tg p s y → FzA v T rule tg y) {Act : Nat → Sg → Prop} (hAct : ∀ p' s', Act p' s' → fr (nOf v) p ≤ fr (nOf v) p') : ∀ f k c u m, k < f → c + k = nOf v → SO v rule (2 ^ nOf v - 1) true u → AG ag u → AN u m → MI v (P2 v T rule tg (u.2.1 31) m Act) u → (∀ y, mem (u.2.1 31) m y → FzA v T rule tg y) → ∃ (u' : St) (m' : Nat), j_X4_collectFrom_43 T rc f u (nI d) (nI p) (enc v s) (nI tg) (nI c) = some u' ∧ cf2 u u' ∧ AG ag u' ∧ AN u' m' ∧ MI v (P2 v T rule tg (u'.2.1 31) m' Act) u' ∧ ∀ y, mem (u'.2.1 31) m' y ↔ mem (u.2.1 31) m y ∨ HC v T rule tg p s k c y
  | 0, _, _, _, _, h, _, _, _, _, _, _ => absurd h (Nat.not_lt_zero _)
  | f + 1, k, c, u, m, h, hk, hS, hA, hN, hM, hm => by
    have hn := hw.2.1
    have hal := all_lt hn
    show ∃ (u' : St) (m' : Nat), q_X4_collectFrom_43 T rc (j_X4_collectFrom_43 T rc f) u (nI d) (nI p) (enc v s) (nI tg) (nI c) = _ ∧ _
    unfold q_X4_collectFrom_43
    rw [hS.1.2.1]
    cases k with
    | zero =>
      rw [if_pos (nI_le (by omega) (by omega))]
      exact ⟨u, m, rfl, cf2_refl u, hA, hN, hM, fun y => ⟨fun z => Or.inl z, fun z => z.elim id (fun w => absurd w HC_0)⟩⟩
    | succ k =>
      have hcn : c < nOf v := by omega
      rw [if_neg (nI_ge hcn (by omega)), fits_c hS hw hT hal hp hG hcn, bB]
      -- going on, after what call c brought
      have go : ∀ (u1 : St) (m1 : Nat) (B : Int32 → Prop), cf2 u u1 → AG ag u1 → AN u1 m1 → MI v (P2 v T rule tg (u1.2.1 31) m1 Act) u1 → (∀ y, mem (u1.2.1 31) m1 y ↔ mem (u.2.1 31) m y ∨ B y) → (∀ y, B y ↔ (fit v T rule (2 ^ nOf v - 1) c p s = true ∧ ((c = tg ∧ Wv v T rule (2 ^ nOf v - 1) (p ||| 2 ^ c) (nxt v T c s) ≠ 0 ∧ y = rpl v T c s) ∨ (c ≠ tg ∧ FS v T rule tg (p ||| 2 ^ c) (nxt v T c s) y)))) → ∃ (u' : St) (m' : Nat), j_X4_collectFrom_43 T rc f u1 (nI d) (nI p) (enc v s) (nI tg) (nI (c + 1)) = some u' ∧ cf2 u u' ∧ AG ag u' ∧ AN u' m' ∧ MI v (P2 v T rule tg (u'.2.1 31) m' Act) u' ∧ ∀ y, mem (u'.2.1 31) m' y ↔ mem (u.2.1 31) m y ∨ HC v T rule tg p s (k + 1) c y := by
        intro u1 m1 B x1 x2 x3 x4 x5 x6
        have hm1 : ∀ y, mem (u1.2.1 31) m1 y → FzA v T rule tg y := fun y hy => by
          rcases (x5 y).mp hy with z | z
          · exact hm y z
          · exact hF y ((FS_iff v T rule tg p s y).mpr ⟨c, hcn, (x6 y).mp z⟩)
        obtain ⟨u', m', g1, g2, g3, g4, g5, g6⟩ := collect_43 hw hT htg hop hrc hd hp hpt hG hF hAct f k (c + 1) u1 m1 (by omega) (by omega) (SO_cf2 hS x1) x2 x3 x4 hm1
        refine ⟨u', m', g1, cf2_trans x1 g2, g3, g4, g5, fun y => ?_⟩
        rw [g6, x5, HC_s, x6, or_assoc]
      cases hf : fit v T rule (2 ^ nOf v - 1) c p s with
      | false =>
        rw [if_neg Bool.false_ne_true]
        show ∃ (u' : St) (m' : Nat), j_X4_collectFrom_43 T rc f u (nI d) (nI p) (enc v s) (nI tg) (nI c + 1) = _ ∧ _
        rw [nI_1]
        exact go u m (fun _ => False) (cf2_refl u) hA hN hM (fun y => ⟨fun z => Or.inl z, fun z => z.elim id (fun w => w.elim)⟩) (fun y => ⟨fun z => z.elim, fun z => by
          have := z.1
          rw [hf] at this
          cases this⟩)
      | true =>
        have hpc := fit_p hf
        have hfr := fr_in hpc (nOf v) hcn
        have hG1 := Gd_nxt hw hcn hT hpc hG
        have hp1 : p ||| 2 ^ c < 1024 := or_lt (k := 10) hp (by omega)
        rw [if_pos rfl]
        show ∃ (u' : St) (m' : Nat), (j_X3_after T u (nI c) (enc v s)).bind (fun r12 => if nI c = nI tg then (j_X4_waysFrom T 12 u (nI d + 1) (nI p ||| ((1 : Int32) <<< (nI c &&& 31))) r12).bind (fun ⟨r14, u15⟩ => if lg_cmp r14 0 ≤ 0 then j_X4_collectFrom_43 T rc f u15 (nI d) (nI p) (enc v s) (nI tg) (nI c + 1) else (j_X3_reply T u15 (nI c) (enc v s)).bind (fun r18 => (j_X0_add u15 r18).bind (fun u20 => j_X4_collectFrom_43 T rc f u20 (nI d) (nI p) (enc v s) (nI tg) (nI c + 1)))) else (rc u (nI d + 1) (nI p ||| ((1 : Int32) <<< (nI c &&& 31))) r12 (nI tg)).bind (fun u23 => j_X4_collectFrom_43 T rc f u23 (nI d) (nI p) (enc v s) (nI tg) (nI c + 1))) = _ ∧ _
        rw [after_c hS.1 hw hcn hT hpc hG, Option.bind_some, or_bit _ (by omega), nI_1, nI_1]
        by_cases e : c = tg
        · rw [if_pos (by rw [e])]
          have hrg : (p ||| 2 ^ c).testBit tg = true := by
            rw [e]
            exact tb_or_self p tg
          have hrec := ways_c (v := v) (T := T) (rule := rule) (part := 2 ^ nOf v - 1) (ag := ag) (one := true) (P := P2 v T rule tg (u.2.1 31) m Act) (Rg := fun p => p.testBit tg = true) hw hT hal (fun q t x hq => ⟨fun z => z.elim (fun w => w.2) (fun w => absurd (hq.symm.trans w.1) (by decide)), fun z => Or.inl ⟨hq, z⟩⟩) (fun q r hq => by rw [tb_or, hq]; rfl) 12 (d + 1) (by omega) (by omega)
          obtain ⟨u1, g1, g2, g3, g4⟩ := hrec (p ||| 2 ^ c) (nxt v T c s) u (by omega) hp1 hrg hG1 hS hM hA
          rw [g1, Option.bind_some]
          have r31 : u1.2.1 31 = u.2.1 31 := g2.2 31 (by decide)
          have hN1 : AN u1 m := ⟨by rw [g2.1]; exact hN.1, by rw [r31]; exact hN.2⟩
          have hM1 : MI v (P2 v T rule tg (u1.2.1 31) m Act) u1 := by rw [r31]; exact g3
          have hlt := val_lt (one := true) (Wv_lt hw T rule (2 ^ nOf v - 1) (p ||| 2 ^ c) (nxt v T c s))
          show ∃ (u' : St) (m' : Nat), (if lg_cmp (lN (val true (Wv v T rule (2 ^ nOf v - 1) (p ||| 2 ^ c) (nxt v T c s)))) 0 ≤ 0 then j_X4_collectFrom_43 T rc f u1 (nI d) (nI p) (enc v s) (nI tg) (nI (c + 1)) else (j_X3_reply T u1 (nI c) (enc v s)).bind (fun r18 => (j_X0_add u1 r18).bind (fun u20 => j_X4_collectFrom_43 T rc f u20 (nI d) (nI p) (enc v s) (nI tg) (nI (c + 1))))) = _ ∧ _
          by_cases hW : Wv v T rule (2 ^ nOf v - 1) (p ||| 2 ^ c) (nxt v T c s) = 0
          · rw [if_pos ((lN_le0 hlt).mpr (val_0.mpr hW))]
            exact go u1 m (fun _ => False) (cf2_fm g2) g4 hN1 hM1 (fun y => by rw [r31]; exact ⟨fun z => Or.inl z, fun z => z.elim id (fun w => w.elim)⟩) (fun y => ⟨fun z => z.elim, fun z => by
              rcases z.2 with w | w
              · exact w.2.1 hW
              · exact w.1 e⟩)
          · rw [if_neg (fun z => hW (val_0.mp ((lN_le0 hlt).mp z))), reply_c (SO_fm hS g2).1 hw hcn hT hG, Option.bind_some]
            have hy : FzA v T rule tg (rpl v T c s) := hF _ ((FS_iff v T rule tg p s _).mpr ⟨c, hcn, hf, Or.inl ⟨e, hW, rfl⟩⟩)
            have hm1 : ∀ y, mem (u1.2.1 31) m y → FzA v T rule tg y := by rw [r31]; exact hm
            obtain ⟨u2, m2, a1, a2, a3, a4⟩ := addC (y := rpl v T c s) (fills_64 (rule := rule) hw hT htg hop hN1.2 hm1) hN1 (full_ok (rule := rule) hw hT htg hop hN1.2 hm1 hy)
            rw [a1, Option.bind_some]
            refine go u2 m2 (fun y => y = rpl v T c s) (cf2_trans (cf2_fm g2) (cf2_afr a4)) (AG_afr g4 a4) a2 (MI_mono (MI_afr hM1 a4) ?_) (fun y => by rw [a3, r31, or_comm]) (fun y => ⟨fun z => ⟨hf, Or.inl ⟨e, hW, z⟩⟩, fun z => ?_⟩)
            · rintro q t x (z | ⟨z1, z2, z3⟩)
              · exact Or.inl z
              · refine Or.inr ⟨z1, z2, ?_⟩
                rcases z3 with z3 | z3
                · exact Or.inl (fun y hy => (a3 y).mpr (Or.inr (z3 y hy)))
                · exact Or.inr z3
            · rcases z.2 with w | w
              · exact w.2.2
              · exact absurd e w.1
        · rw [if_neg (nI_ne (by omega) (by omega) e)]
          have hpt1 : (p ||| 2 ^ c).testBit tg = false := by
            rw [tb_or_ne (fun z => e z.symm)]
            exact hpt
          obtain ⟨u1, m1, g1, g2, g3, g4, g5, g6⟩ := hrc (p ||| 2 ^ c) (nxt v T c s) u m Act (by omega) hp1 hpt1 hG1 hS hA hN hM hm (fun y hy => hF y ((FS_iff v T rule tg p s y).mpr ⟨c, hcn, hf, Or.inr ⟨e, hy⟩⟩)) (fun p' s' z => by have := hAct p' s' z; omega)
          rw [g1, Option.bind_some]
          exact go u1 m1 (fun y => FS v T rule tg (p ||| 2 ^ c) (nxt v T c s) y) g2 g3 g4 g5 g6 (fun y => ⟨fun z => ⟨hf, Or.inr ⟨e, z⟩⟩, fun z => by
            rcases z.2 with w | w
            · exact absurd w.1 e
            · exact w.2⟩)
theorem collectFrom_s (T : TbT) (f : Nat) (u : St) (x y : Int32) (z : Int64) (w : Int32) : j_X4_collectFrom T (f + 1) u x y z w = q_X4_collectFrom_0 T (j_X4_collectFrom T f) u x y z w := rfl
theorem collect_all (hw : WF v) (hT : TQ v T) (htg : tg < nOf v) (hop : enB v tg = false) : ∀ f d, nOf v + 1 - d < f → d ≤ nOf v + 1 → CRec v T rule tg ag d (j_X4_collectFrom T f)
  | 0, _, h, _ => absurd h (Nat.not_lt_zero _)
  | f + 1, d, h, hdn => by
    intro p s u m Act hd hp hpt hG hS hA hN hM hm hF hAct
    have hn := hw.2.1
    have hrc := collect_all hw hT htg hop f (d + 1) (by omega) (by omega)
    rw [collectFrom_s]
    unfold q_X4_collectFrom_0
    rw [key_c, Option.bind_some, if_neg (show ¬ (10 : Int32) < nI d from nI_nlt (b := d) (a := 10) (by omega) (by decide))]
    rcases MI_get hw hM hp hG with e | ⟨x, e, hx⟩
    · rw [e, Option.bind_some, if_pos lg_m1, put_m, Option.bind_some]
      have hM1 : MI v (P2 v T rule tg ((putU u (keyN v p s) 0).2.1 31) m (fun p' s' => Act p' s' ∨ (p' = p ∧ s' = s))) (putU u (keyN v p s) 0) := by
        have r31 : (putU u (keyN v p s) 0).2.1 31 = u.2.1 31 := (fm_put u _ _).2 31 (by decide)
        rw [r31]
        refine MI_put (MI_mono hM ?_) hp hG (Or.inr ⟨hpt, rfl, Or.inr (Or.inr ⟨rfl, rfl⟩)⟩)
        rintro q t x (z | ⟨z1, z2, z3⟩)
        · exact Or.inl z
        · exact Or.inr ⟨z1, z2, z3.elim Or.inl (fun w => Or.inr (Or.inl w))⟩
      have r31 : (putU u (keyN v p s) 0).2.1 31 = u.2.1 31 := (fm_put u _ _).2 31 (by decide)
      obtain ⟨u', m', g1, g2, g3, g4, g5, g6⟩ := collect_43 hw hT htg hop hrc hd hp hpt hG hF (Act := fun p' s' => Act p' s' ∨ (p' = p ∧ s' = s)) (fun p' s' z => by
        rcases z with z | z
        · have := hAct p' s' z
          omega
        · rw [z.1]
          exact Nat.le_refl _) 100 (nOf v) 0 (putU u (keyN v p s) 0) m (by omega) (by omega) (SO_fm hS (fm_put _ _ _)) (AG_put hA _ _) ⟨hN.1, by rw [r31]; exact hN.2⟩ hM1 (by rw [r31]; exact hm)
      refine ⟨u', m', g1, cf2_trans (cf2_fm (fm_put _ _ _)) g2, g3, g4, MI_mono g5 ?_, fun y => by rw [g6, r31, HC_FS]⟩
      rintro q t x (z | ⟨z1, z2, z3⟩)
      · exact Or.inl z
      · refine Or.inr ⟨z1, z2, ?_⟩
        rcases z3 with z3 | z3 | ⟨rfl, rfl⟩
        · exact Or.inl z3
        · exact Or.inr z3
        · exact Or.inl (fun y hy => (g6 y).mpr (Or.inr (HC_FS.mp hy)))
    · rcases hx with ⟨z, -⟩ | ⟨-, z2, z3⟩
      · rw [hpt] at z
        cases z
      · rw [e, Option.bind_some, z2, if_neg (lN_m1 (by decide))]
        refine ⟨u, m, rfl, cf2_refl u, hA, hN, hM, fun y => ⟨fun z => Or.inl z, fun z => ?_⟩⟩
        rcases z with z | z
        · exact z
        · rcases z3 with z3 | z3
          · exact z3 y z
          · have := hAct p s z3
            omega
end COLLECT
def sf2 (u u' : St) : Prop := (∀ k, k ≠ 11 → k ≠ 12 → k ≠ 14 → k ≠ 23 → k ≠ 30 → u'.1 k = u.1 k) ∧ (∀ k, k ≠ 13 → k ≠ 22 → k ≠ 31 → u'.2.1 k = u.2.1 k)
theorem collectC {u : St} {v : HVT} {T : TbT} {rule tg ag : Nat} (hc : CR u v) (hw : WF v) (hT : TQ v T) (hru : rule < 3) (htg : tg < nOf v) (hop : enB v tg = false) (hA : AG ag u) (hag : ag + 1 < 2 ^ 31) : ∃ (u' : St) (m : Nat), j_X4_collect T u (nI rule) (nI tg) = some u' ∧ AG (ag + 1) u' ∧ AN u' m ∧ (∀ y, mem (u'.2.1 31) m y ↔ FzA v T rule tg y) ∧ sf2 u u' := by
  have hn := hw.2.1
  obtain ⟨u1, g1, g2, g3, g4, g5⟩ := openS true hc hw hru (all_lt hn) hA hag
  have hM : MI v (P2 v T rule tg ((sI u1 30 0).2.1 31) 0 (fun _ _ => False)) (sI u1 30 0) := g4 _
  have h0 : ∀ y, ¬ mem ((sI u1 30 0).2.1 31) 0 y := fun y ⟨q, z, _⟩ => absurd z (Nat.not_lt_zero q)
  obtain ⟨u2, m, e1, e2, e3, e4, e5, e6⟩ := collect_all (rule := rule) (ag := ag + 1) hw hT htg hop 12 0 (by omega) (by omega) 0 (s0 v) (sI u1 30 0) 0 (fun _ _ => False) (by rw [fr_0]; omega) (by decide) (Nat.zero_testBit tg) (Gd_0 hw) g2 g3 ⟨rfl, fun q r _ z => absurd z (Nat.not_lt_zero r)⟩ hM (fun y z => absurd z (h0 y)) (fun y z => z) (fun _ _ z => z.elim)
  refine ⟨u2, m, ?_, e3, e4, fun y => (e6 y).trans ⟨fun z => z.elim (fun w => absurd w (h0 y)) id, fun z => Or.inr z⟩, fun k a1 a2 a3 a4 a5 => ?_, fun k a1 a2 a3 => ?_⟩
  · rw [enc_0] at e1
    unfold j_X4_collect
    rw [all_c hc.2.1 hn, Option.bind_some, show j_X4_open u (nI rule) (nI (2 ^ nOf v - 1)) 1 = some u1 from g1, Option.bind_some]
    show (j_X4_collectFrom T 12 (sI u1 30 0) 0 0 0 (nI tg)).bind (fun u6 => some u6) = _
    rw [show j_X4_collectFrom T 12 (sI u1 30 0) 0 0 0 (nI tg) = some u2 from e1]
    rfl
  · rw [e2.1 k a5, sI_1, if_neg a5, g5.1 k a1 a2 a3 a4]
  · rw [e2.2 k a2 a3]
    exact g5.2 k a1 a2
