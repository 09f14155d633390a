/-! ===== the class's search counts the ways ===== -/
def sbB (b p : Nat) : Bool := decide (b &&& (1023 ^^^ p) = 0)
theorem tb_not {p i : Nat} (hi : i < 10) : (1023 ^^^ p).testBit i = !p.testBit i := by
  rw [Nat.testBit_xor, show (1023 : Nat) = 2 ^ 10 - 1 from rfl, Nat.testBit_two_pow_sub_one, decide_eq_true hi, Bool.true_xor]
theorem tb_hi {b i : Nat} (hb : b < 1024) (hi : ¬ i < 10) : b.testBit i = false :=
  Nat.testBit_lt_two_pow (Nat.lt_of_lt_of_le hb (show 2 ^ 10 ≤ 2 ^ i from Nat.pow_le_pow_right (by decide) (by omega)))
theorem sb_iff {b p : Nat} (hb : b < 1024) : sbB b p = true ↔ ∀ i, b.testBit i = true → p.testBit i = true := by
  unfold sbB
  rw [decide_eq_true_iff]
  constructor
  · intro h i hi
    by_cases hx : i < 10
    · have : (b &&& (1023 ^^^ p)).testBit i = false := by rw [h, Nat.zero_testBit]
      rw [Nat.testBit_and, hi, tb_not hx] at this
      cases hp : p.testBit i with
      | true => rfl
      | false =>
        rw [hp] at this
        cases this
    · rw [tb_hi hb hx] at hi
      cases hi
  · intro h
    apply Nat.eq_of_testBit_eq
    intro i
    rw [Nat.zero_testBit, Nat.testBit_and]
    by_cases hx : i < 10
    · rw [tb_not hx]
      cases hi : b.testBit i with
      | false => rfl
      | true =>
        rw [h i hi]
        rfl
    · rw [tb_hi hb hx]
      rfl
theorem sb_and {b p : Nat} (hb : b < 1024) : p &&& b = b ↔ sbB b p = true := by
  rw [sb_iff hb]
  constructor
  · intro h i hi
    have : (p &&& b).testBit i = true := by rw [h, hi]
    rw [Nat.testBit_and, Bool.and_eq_true] at this
    exact this.1
  · intro h
    apply Nat.eq_of_testBit_eq
    intro i
    rw [Nat.testBit_and]
    cases hi : b.testBit i with
    | false => rw [Bool.and_false]
    | true =>
      rw [h i hi]
      rfl
theorem and_not {b p : Nat} (hb : b < 1024) : nI b &&& (nI p ^^^ (-1)) = nI (b &&& (1023 ^^^ p)) := by
  apply Int32.toBitVec_inj.mp
  show BitVec.ofNat 32 b &&& (BitVec.ofNat 32 p ^^^ BitVec.allOnes 32) = BitVec.ofNat 32 (b &&& (1023 ^^^ p))
  apply BitVec.eq_of_getLsbD_eq
  intro i hi
  rw [BitVec.getLsbD_and, BitVec.getLsbD_xor, BitVec.getLsbD_ofNat, BitVec.getLsbD_ofNat, BitVec.getLsbD_ofNat, decide_eq_true hi, BitVec.getLsbD_allOnes, decide_eq_true hi, Nat.testBit_and]
  by_cases hx : i < 10
  · rw [tb_not hx]
    cases b.testBit i <;> cases p.testBit i <;> rfl
  · rw [tb_hi hb hx]
    rfl
theorem andn_lt {b p : Nat} (hb : b < 1024) : b &&& (1023 ^^^ p) < 1024 := Nat.lt_of_le_of_lt Nat.and_le_left hb
theorem and_not0 {b p : Nat} (hb : b < 1024) : nI b &&& (nI p ^^^ (-1)) = 0 ↔ sbB b p = true := by
  rw [and_not hb]
  unfold sbB
  rw [decide_eq_true_iff]
  exact nI_eq (b := 0) (by have := andn_lt (p := p) hb; omega) (by decide)
theorem bhd_lt {v : HVT} (hw : WF v) (rule part c : Nat) : bhd v rule part c < 1024 := mk_lt10 _ hw.2.1
/-- call c fits behind the set p in state s -/
def fit (v : HVT) (T : TbT) (rule part c p : Nat) (s : Sg) : Bool := part.testBit c && (!p.testBit c && (sbB (bhd v rule part c) p && (!enB v c || decide (rpl v T c s = vOf v c))))
theorem fit_p {v : HVT} {T : TbT} {rule part c p : Nat} {s : Sg} (h : fit v T rule part c p s = true) : p.testBit c = false := by
  unfold fit at h
  rw [Bool.and_eq_true, Bool.and_eq_true] at h
  cases hb : p.testBit c with
  | false => rfl
  | true =>
    rw [hb] at h
    cases h.2.1
theorem fits_c {u : St} {v : HVT} {T : TbT} {rule part c p : Nat} {one : Bool} {s : Sg} (hS : SO v rule part one u) (hw : WF v) (hT : TQ v T) (hpt : part < 1024) (hp : p < 1024) (hG : Gd v p s) (hcn : c < nOf v) : j_X4_fits T u (nI c) (nI p) (enc v s) = some (if fit v T rule part c p s then 1 else 0) := by
  have hn := hw.2.1
  obtain ⟨hc, h11, h12, h14, h13⟩ := hS
  have hpn := andn_lt (b := part) (p := p) hpt
  unfold j_X4_fits
  rw [hasCall_Y hc.2.1 hcn hn, b1, h11, and_not hpt, holds_b (by omega) (by omega), bB, gd_nI (by omega) (by decide), nI_clamp (by omega), h13 c hcn, isOpen_c hc.2.1 hcn hn, reply_c hc hw hcn hT hG, Option.bind_some (a := rpl v T c s), gd_nI (by omega) (by decide), (hc.2.2.2 c (by omega)).2.2.2.2.2.1, (hc.2.2.2 c (by omega)).2.2.2.2.2.2, Nat.testBit_and, tb_not (by omega)]
  unfold fit
  have e0 := en_0 hw c
  have a0 := and_not0 (p := p) (bhd_lt hw rule part c)
  cases part.testBit c with
  | false => rfl
  | true =>
    cases p.testBit c with
    | true => rfl
    | false =>
      rw [if_pos (show (true && !false) = true from rfl)]
      cases hs : sbB (bhd v rule part c) p with
      | false =>
        rw [if_neg (fun z => by rw [a0.mp z] at hs; cases hs)]
        rfl
      | true =>
        rw [if_pos (a0.mpr hs)]
        cases he : enB v c with
        | false =>
          rw [if_pos (e0.mpr he)]
          simp [one_ne]
        | true =>
          rw [if_neg (fun z => by rw [e0.mp z] at he; cases he), b0]
          by_cases hr : rpl v T c s = vOf v c
          · simp [hr]
          · simp [hr]
theorem fits_N {u : St} {T : TbT} {n : Nat} {x y : Int32} {z : Int64} (hu : u.1 2 = nI n) (h : FN (nI n) x) : j_X4_fits T u x y z = some 0 := by
  unfold j_X4_fits
  rw [hasCall_N hu h]
  rfl
/-- in how many ways it goes on -/
def Wv (v : HVT) (T : TbT) (rule part p : Nat) (s : Sg) : Nat := Wy (nOf v) (fit v T rule part) (nxt v T) (sbB (due v part)) p s
theorem Wv_eq (v : HVT) (T : TbT) (rule part p : Nat) (s : Sg) : Wv v T rule part p s = (if sbB (due v part) p then 1 else 0) + sF (fun c => if fit v T rule part c p s then Wv v T rule part (p ||| 2 ^ c) (nxt v T c s) else 0) (nOf v) 0 :=
  Wy_eq _ _ _ _ (fun _ _ _ h => fit_p h) p s
theorem Wv_pos (v : HVT) (T : TbT) (rule part p : Nat) (s : Sg) : Wv v T rule part p s ≠ 0 ↔ sbB (due v part) p = true ∨ ∃ c, c < nOf v ∧ fit v T rule part c p s = true ∧ Wv v T rule part (p ||| 2 ^ c) (nxt v T c s) ≠ 0 :=
  Wy_pos _ _ _ _ (fun _ _ _ h => fit_p h) p s
theorem Wv_lt {v : HVT} (hw : WF v) (T : TbT) (rule part p : Nat) (s : Sg) : Wv v T rule part p s < 2 ^ 40 := Wy_bound _ _ _ _ hw.2.1 p s
def val (one : Bool) (w : Nat) : Nat := if one then (if w = 0 then 0 else 1) else w
theorem val_lt {one : Bool} {w : Nat} (h : w < 2 ^ 40) : val one w < 2 ^ 40 := by
  unfold val
  split
  · split <;> decide
  · exact h
theorem val_0 {one : Bool} {w : Nat} : val one w = 0 ↔ w = 0 := by
  unfold val
  cases one with
  | true =>
    rw [if_pos rfl]
    by_cases h : w = 0
    · rw [if_pos h]; exact ⟨fun _ => h, fun _ => rfl⟩
    · rw [if_neg h]; exact ⟨fun z => absurd z (by decide), fun z => absurd z h⟩
  | false => exact Iff.rfl
theorem lN_m1 {a : Nat} (h : a < 2 ^ 40) : ¬ lg_cmp (lN a) (-1) = 0 := by
  intro z
  have := (lg_cmp_eq _ _).mp z
  have h2 : (lN a).toInt = (a : Int) := pk_lT (by omega)
  rw [this] at h2
  have : (-1 : Int64).toInt = -1 := rfl
  omega
theorem key_c (v : HVT) (p : Nat) (s : Sg) : j_X4_keyOf (nI p) (enc v s) = some (keyN v p s) := by
  unfold j_X4_keyOf keyN keyV
  rfl
theorem lg_m1 : lg_cmp (-1) (-1) = 0 := by decide
theorem whole_c {u : St} {v : HVT} {rule part p : Nat} {one : Bool} (hS : SO v rule part one u) (hpt : part < 1024) : j_X4_isWhole u (nI p) = some (if sbB (due v part) p then 1 else 0) := by
  unfold j_X4_isWhole
  rw [hS.2.2.1]
  have a0 := and_not0 (p := p) (due_lt (v := v) hpt)
  cases hb : sbB (due v part) p with
  | true =>
    rw [if_pos (a0.mpr hb)]
    rfl
  | false =>
    rw [if_neg (fun z => by rw [a0.mp z] at hb; cases hb)]
    rfl
section WAYSC
variable {v : HVT} {T : TbT} {rule part ag : Nat} {one : Bool} {P : Nat → Sg → Int64 → Prop} {Rg : Nat → Prop}
/-- one step of the search's loop -/
def WRec (v : HVT) (rule part ag : Nat) (one : Bool) (P : Nat → Sg → Int64 → Prop) (Rg : Nat → Prop) (T : TbT) (d : Nat) (rc : St → Int32 → Int32 → Int64 → Option (Int64 × St)) : Prop :=
  ∀ (p : Nat) (s : Sg) (u : St), d + fr (nOf v) p = nOf v → p < 1024 → Rg p → Gd v p s → SO v rule part one u → MI v P u → AG ag u → ∃ u' : St, rc u (nI d) (nI p) (enc v s) = some (lN (val one (Wv v T rule part p s)), u') ∧ fm u u' ∧ MI v P u' ∧ AG ag u'
theorem ways_56 (hw : WF v) (hT : TQ v T) (hpt : part < 1024) (hP : ∀ p s x, Rg p → (P p s x ↔ x = lN (val one (Wv v T rule part p s)))) (hR : ∀ p c, Rg p → Rg (p ||| 2 ^ c)) {d : Nat} {rc : St → Int32 → Int32 → Int64 → Option (Int64 × St)} (hrc : WRec v rule part ag one P Rg T (d + 1) rc) {p : Nat} {s : Sg} (hd : d + fr (nOf v) p = nOf v) (hp : p < 1024) (hRp : Rg p) (hG : Gd v p s) : ∀ f k c a u, k < f → c + k = nOf v → (one = true → a ≤ 1) → val one (a + sF (fun c => if fit v T rule part c p s then Wv v T rule part (p ||| 2 ^ c) (nxt v T c s) else 0) k c) = val one (Wv v T rule part p s) → SO v rule part one u → MI v P u → AG ag u → ∃ u' : St, j_X4_waysFrom_56 T rc f u (nI d) (nI p) (enc v s) (keyN v p s) (lN a) (nI c) = some (lN (val one (Wv v T rule part p s)), u') ∧ fm u u' ∧ MI v P u' ∧ AG ag u'
  | 0, _, _, _, _, h, _, _, _, _, _, _ => absurd h (Nat.not_lt_zero _)
  | f + 1, k, c, a, u, h, hk, ha, hv, hS, hM, hA => by
    have hn := hw.2.1
    have fin : val one a = val one (Wv v T rule part p s) → ∃ u' : St, ((j_X2_put u (keyN v p s) (lN a)).bind (fun u9 => some (lN a, u9))) = some (lN (val one (Wv v T rule part p s)), u') ∧ fm u u' ∧ MI v P u' ∧ AG ag u' := by
      intro e
      have ea : val one a = a := by
        unfold val
        cases hone : one with
        | false => rfl
        | true =>
          have := ha hone
          rw [if_pos rfl]
          by_cases z : a = 0
          · rw [if_pos z, z]
          · rw [if_neg z]
            omega
      rw [← e, ea, put_m]
      refine ⟨_, rfl, fm_put _ _ _, MI_put hM hp hG ((hP p s _ hRp).mpr ?_), AG_put hA _ _⟩
      rw [← e, ea]
    show ∃ u' : St, q_X4_waysFrom_56 T rc (j_X4_waysFrom_56 T rc f) u _ _ _ _ _ _ = _ ∧ _
    unfold q_X4_waysFrom_56
    simp only [nm]
    rw [hS.1.2.1]
    cases k with
    | zero =>
      rw [if_pos (nI_le (by omega) (by omega))]
      exact fin hv
    | succ k =>
      have hcn : c < nOf v := by omega
      rw [if_neg (nI_ge hcn (by omega)), fits_c hS hw hT hpt hp hG hcn]
      have hv' : val one (a + ((if fit v T rule part c p s then Wv v T rule part (p ||| 2 ^ c) (nxt v T c s) else 0) + sF (fun c => if fit v T rule part c p s then Wv v T rule part (p ||| 2 ^ c) (nxt v T c s) else 0) k (c + 1))) = val one (Wv v T rule part p s) := hv
      have go : (one = true → a = 0) → ∃ u' : St, ((some (if fit v T rule part c p s then (1 : Int32) else 0)).bind (fun r11 => if r11 = 0 then j_X4_waysFrom_56 T rc f u (nI d) (nI p) (enc v s) (keyN v p s) (lN a) (nI c + 1) else (j_X3_after T u (nI c) (enc v s)).bind (fun r14 => (rc u (nI d + 1) (nI p ||| ((1 : Int32) <<< (nI c &&& 31))) r14).bind (fun ⟨r15, u16⟩ => j_X4_waysFrom_56 T rc f u16 (nI d) (nI p) (enc v s) (keyN v p s) (lN a + r15) (nI c + 1))))) = some (lN (val one (Wv v T rule part p s)), u') ∧ fm u u' ∧ MI v P u' ∧ AG ag u' := by
        intro ha0
        rw [bB, nI_1, nI_1]
        cases hf : fit v T rule part c p s with
        | false =>
          rw [if_neg Bool.false_ne_true]
          rw [hf, if_neg Bool.false_ne_true, Nat.zero_add] at hv'
          exact ways_56 hw hT hpt hP hR hrc hd hp hRp hG f k (c + 1) a u (by omega) (by omega) ha hv' hS hM hA
        | true =>
          rw [if_pos rfl]
          rw [hf, if_pos rfl] at hv'
          have hpc := fit_p hf
          have hfr := fr_in hpc (nOf v) hcn
          rw [after_c hS.1 hw hcn hT hpc hG, or_bit _ (by omega)]
          simp only [Option.bind_some]
          obtain ⟨u1, g1, g2, g3, g4⟩ := hrc (p ||| 2 ^ c) (nxt v T c s) u (by omega) (or_lt (k := 10) hp (by omega)) (hR p c hRp) (Gd_nxt hw hcn hT hpc hG) hS hM hA
          rw [g1]
          simp only [Option.bind_some]
          rw [lN_add]
          obtain ⟨u2, e1, e2, e3, e4⟩ := ways_56 hw hT hpt hP hR hrc hd hp hRp hG f k (c + 1) (a + val one (Wv v T rule part (p ||| 2 ^ c) (nxt v T c s))) u1 (by omega) (by omega) (fun ho => by
            rw [ha0 ho]
            unfold val
            rw [if_pos ho]
            split <;> omega) (by
            rw [← hv']
            unfold val
            cases hone : one with
            | false =>
              simp only [Bool.false_eq_true, if_false]
              omega
            | true =>
              rw [ha0 hone]
              simp only [if_true]
              by_cases z : Wv v T rule part (p ||| 2 ^ c) (nxt v T c s) = 0
              · rw [if_pos z, z]
                simp only [Nat.zero_add]
              · rw [if_neg z, if_neg (by omega), if_neg (by omega)]) (SO_fm hS g2) g3 g4
          exact ⟨u2, e1, fm_trans g2 e2, e3, e4⟩
      by_cases ho : one = true
      · subst ho
        have h14 : u.1 14 = 1 := hS.2.2.2.1
        rw [if_neg (by rw [h14]; decide)]
        by_cases ap : a = 0
        · rw [if_neg (fun z => by
            have := (lg_cmp_gt _ _).mp z
            rw [ap] at this
            exact absurd this (by decide))]
          exact go (fun _ => ap)
        · have a1 : a = 1 := by have := ha rfl; omega
          rw [if_pos ((lg_cmp_gt _ _).mpr (by rw [a1]; decide))]
          refine fin ?_
          rw [← hv]
          unfold val
          rw [if_pos rfl, if_pos rfl, if_neg ap, if_neg (by omega)]
      · have hof : one = false := by
          cases one with
          | true => exact absurd rfl ho
          | false => rfl
        have h14 : u.1 14 = 0 := by
          have := hS.2.2.2.1
          rw [hof] at this
          exact this
        rw [if_pos h14]
        exact go (fun z => absurd z ho)
theorem waysFrom_s (T : TbT) (f : Nat) (u : St) (x y : Int32) (z : Int64) : j_X4_waysFrom T (f + 1) u x y z = q_X4_waysFrom_0 T (j_X4_waysFrom T f) u x y z := rfl
theorem ways_c (hw : WF v) (hT : TQ v T) (hpt : part < 1024) (hP : ∀ p s x, Rg p → (P p s x ↔ x = lN (val one (Wv v T rule part p s)))) (hR : ∀ p c, Rg p → Rg (p ||| 2 ^ c)) : ∀ f d, nOf v + 1 - d < f → d ≤ nOf v + 1 → WRec v rule part ag one P Rg T d (j_X4_waysFrom T f)
  | 0, _, h, _ => absurd h (Nat.not_lt_zero _)
  | f + 1, d, h, hdn => by
    intro p s u hd hp hRp hG hS hM hA
    have hn := hw.2.1
    rw [waysFrom_s]
    unfold q_X4_waysFrom_0
    rw [if_pos (show nI d ≤ 10 from nI_le (b := 10) (by omega) (by decide)), key_c, Option.bind_some]
    have hrc := ways_c hw hT hpt hP hR f (d + 1) (by omega) (by omega)
    rcases MI_get hw hM hp hG with e | ⟨x, e, hx⟩
    · rw [e, Option.bind_some, if_pos lg_m1, whole_c hS hpt, bB]
      have hE := Wv_eq v T rule part p s
      cases hwh : sbB (due v part) p with
      | true =>
        rw [hwh, if_pos rfl] at hE
        rw [if_pos rfl]
        exact ways_56 hw hT hpt hP hR hrc hd hp hRp hG 100 (nOf v) 0 1 u (by omega) (by omega) (fun _ => Nat.le_refl 1) (by rw [← hE]) hS hM hA
      | false =>
        rw [hwh, if_neg Bool.false_ne_true] at hE
        rw [if_neg Bool.false_ne_true]
        exact ways_56 hw hT hpt hP hR hrc hd hp hRp hG 100 (nOf v) 0 0 u (by omega) (by omega) (fun _ => Nat.zero_le 1) (by rw [← hE]) hS hM hA
    · have hx' := (hP p s x hRp).mp hx
      rw [e, Option.bind_some, hx', if_neg (lN_m1 (val_lt (Wv_lt hw _ _ _ _ _)))]
      exact ⟨u, rfl, fm_refl u, hM, hA⟩
end WAYSC
/-- nothing but the search's own differs -/
def sf (u u' : St) : Prop := (∀ k, k ≠ 11 → k ≠ 12 → k ≠ 14 → k ≠ 23 → u'.1 k = u.1 k) ∧ (∀ k, k ≠ 13 → k ≠ 22 → u'.2.1 k = u.2.1 k)
theorem sf_refl (u : St) : sf u u := ⟨fun _ _ _ _ _ => rfl, fun _ _ _ => rfl⟩
theorem sf_trans {a b c : St} (h : sf a b) (h2 : sf b c) : sf a c := ⟨fun k h1 h3 h4 h5 => (h2.1 k h1 h3 h4 h5).trans (h.1 k h1 h3 h4 h5), fun k h1 h3 => (h2.2 k h1 h3).trans (h.2 k h1 h3)⟩
theorem sf_fm {a b : St} (h : fm a b) : sf a b := ⟨fun k _ _ _ _ => by rw [h.1], fun k _ h2 => h.2 k h2⟩
theorem CR_sf {u u' : St} {v : HVT} (h : CR u v) (hf : sf u u') : CR u' v := by
  obtain ⟨h1, h2⟩ := hf
  unfold CR at h ⊢
  rw [h1 0 (by decide) (by decide) (by decide) (by decide), h1 2 (by decide) (by decide) (by decide) (by decide), h1 3 (by decide) (by decide) (by decide) (by decide), h2 4 (by decide) (by decide), h2 5 (by decide) (by decide), h2 6 (by decide) (by decide), h2 7 (by decide) (by decide), h2 8 (by decide) (by decide), h2 9 (by decide) (by decide), h2 10 (by decide) (by decide)]
  exact h
theorem openS {u : St} {v : HVT} {rule part ag : Nat} (one : Bool) (hc : CR u v) (hw : WF v) (hru : rule < 3) (hp : part < 1024) (hA : AG ag u) (hag : ag + 1 < 2 ^ 31) : ∃ u' : St, j_X4_open u (nI rule) (nI part) (if one then 1 else 0) = some u' ∧ SO v rule part one u' ∧ AG (ag + 1) u' ∧ (∀ P, MI v P u') ∧ sf u u' := by
  obtain ⟨u', g1, g2, g3, g4, g5, g6⟩ := openC (one := one) hc hw hru hp hA.1
  refine ⟨u', g1, g2, ⟨g3, fun q hq => ?_⟩, fun P q hq ha => ?_, g4, fun k h1 _ => g5 k h1⟩
  · obtain ⟨x, h1, h2⟩ := hA.2 q hq
    exact ⟨x, by omega, by rw [g5 22 (by decide)]; exact h2⟩
  · obtain ⟨x, h1, h2⟩ := hA.2 q hq
    rw [g5 22 (by decide), h2, g3] at ha
    have := (nI_eq (by omega) hag).mp ha
    omega
def tkB (v : HVT) (T : TbT) (rule part : Nat) : Bool := decide (Wv v T rule part 0 (s0 v) ≠ 0)
theorem lN_le0 {a : Nat} (h : a < 2 ^ 40) : lg_cmp (lN a) 0 ≤ 0 ↔ a = 0 := by
  rw [lg_cmp_le, show (0 : Int64) = lN 0 from rfl, pk_lLE (by omega) (by decide)]
  omega
/-- the walk from the beginning -/
theorem ways_0 {u : St} {v : HVT} {T : TbT} {rule part ag : Nat} {one : Bool} (hw : WF v) (hT : TQ v T) (hpt : part < 1024) (hS : SO v rule part one u) (hA : AG ag u) (hM : ∀ P, MI v P u) : ∃ u' : St, j_X4_waysFrom T 12 u 0 0 0 = some (lN (val one (Wv v T rule part 0 (s0 v))), u') ∧ fm u u' ∧ AG ag u' := by
  have hn := hw.2.1
  have := ways_c (v := v) (T := T) (rule := rule) (part := part) (ag := ag) (one := one) (P := fun p s x => x = lN (val one (Wv v T rule part p s))) (Rg := fun _ => True) hw hT hpt (fun _ _ _ _ => Iff.rfl) (fun _ _ _ => trivial) 12 0 (by omega) (by omega)
  obtain ⟨u', g1, g2, g3, g4⟩ := this 0 (s0 v) u (by rw [fr_0]; omega) (by decide) trivial (Gd_0 hw) hS (hM _) hA
  rw [enc_0] at g1
  exact ⟨u', g1, g2, g4⟩
theorem takesC {u : St} {v : HVT} {T : TbT} {rule part ag : Nat} (hc : CR u v) (hw : WF v) (hT : TQ v T) (hru : rule < 3) (hp : part < 1024) (hA : AG ag u) (hag : ag + 1 < 2 ^ 31) : ∃ u' : St, j_X4_takes T u (nI rule) (nI part) = some (if tkB v T rule part then 1 else 0, u') ∧ AG (ag + 1) u' ∧ sf u u' := by
  obtain ⟨u1, g1, g2, g3, g4, g5⟩ := openS true hc hw hru hp hA hag
  obtain ⟨u2, e1, e2, e3⟩ := ways_0 hw hT hp g2 g3 g4
  refine ⟨u2, ?_, e3, sf_trans g5 (sf_fm e2)⟩
  unfold j_X4_takes
  rw [show (1 : Int32) = (if true then 1 else 0) from rfl, g1, Option.bind_some, e1]
  show (if lg_cmp (lN (val true (Wv v T rule part 0 (s0 v)))) 0 ≤ 0 then some ((0 : Int32), u2) else some (1, u2)) = _
  unfold tkB
  by_cases h : Wv v T rule part 0 (s0 v) = 0
  · rw [if_pos ((lN_le0 (val_lt (Wv_lt hw _ _ _ _ _))).mpr (val_0.mpr h)), decide_eq_false (fun z => z h)]
    rfl
  · rw [if_neg (fun z => h (val_0.mp ((lN_le0 (val_lt (Wv_lt hw _ _ _ _ _))).mp z))), decide_eq_true h]
    rfl
theorem countC {u : St} {v : HVT} {T : TbT} {rule ag : Nat} (hc : CR u v) (hw : WF v) (hT : TQ v T) (hru : rule < 3) (hA : AG ag u) (hag : ag + 1 < 2 ^ 31) : ∃ u' : St, j_X4_count T u (nI rule) = some (lN (Wv v T rule (2 ^ nOf v - 1) 0 (s0 v)), u') ∧ AG (ag + 1) u' ∧ sf u u' := by
  have hp := all_lt hw.2.1
  obtain ⟨u1, g1, g2, g3, g4, g5⟩ := openS false hc hw hru hp hA hag
  obtain ⟨u2, e1, e2, e3⟩ := ways_0 hw hT hp g2 g3 g4
  refine ⟨u2, ?_, e3, sf_trans g5 (sf_fm e2)⟩
  unfold j_X4_count
  rw [all_c hc.2.1 hw.2.1, Option.bind_some, show (0 : Int32) = (if false then 1 else 0) from rfl, g1, Option.bind_some, show (if false = true then (1 : Int32) else 0) = 0 from rfl, e1]
  rfl
