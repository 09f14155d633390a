def Nws (U : State) : Prop := va_Nw (Jvm.Cond.methodLinkNest "HistoryCourt" (23 : Nat) ({ cls := "HistoryCourt$Search", name := "<init>", desc := "()V" } : Jvm.MethodName) "HistoryCourt") U ∧ va_Nw (Jvm.Cond.methodLinkNest "HistoryCourt$Search" (28 : Nat) ({ cls := "HistoryCourt$Memo", name := "<init>", desc := "()V" } : Jvm.MethodName) "HistoryCourt") U ∧ va_Nw (Jvm.Cond.methodLinkNest "HistoryCourt" (30 : Nat) ({ cls := "HistoryCourt$Answers", name := "<init>", desc := "()V" } : Jvm.MethodName) "HistoryCourt") U ∧ va_Nw (Jvm.Cond.methodLinkNest "HistoryCourt" (43 : Nat) ({ cls := "HistoryCourt$Table", name := "<init>", desc := "()V" } : Jvm.MethodName) "HistoryCourt") U ∧ va_Nw (Jvm.Cond.methodLinkNest "HistoryCourt$History" (64 : Nat) ({ cls := "HistoryCourt", name := "holds", desc := "(II)Z" } : Jvm.MethodName) "HistoryCourt") U ∧ va_Nw (Jvm.Cond.methodLinkNest "HistoryCourt$Search" (98 : Nat) ({ cls := "HistoryCourt", name := "holds", desc := "(II)Z" } : Jvm.MethodName) "HistoryCourt") U
theorem Nws.warm {s U : State} (hW : s.WarmedH U.vm) (h : Nws s) : Nws U := ⟨va_Nw.warmM hW h.1, va_Nw.warmM hW h.2.1, va_Nw.warmM hW h.2.2.1, va_Nw.warmM hW h.2.2.2.1, va_Nw.warmM hW h.2.2.2.2.1, va_Nw.warmM hW h.2.2.2.2.2⟩
theorem Nws.same {u U : State} (e : u.vm = U.vm) (h : Nws u) : Nws U := ⟨va_Nw.same rfl e h.1, va_Nw.same rfl e h.2.1, va_Nw.same rfl e h.2.2.1, va_Nw.same rfl e h.2.2.2.1, va_Nw.same rfl e h.2.2.2.2.1, va_Nw.same rfl e h.2.2.2.2.2⟩
section KIT
variable {p : Program} {l : Launch} {e : Env} {R : Room} {s : State} {m : MethodId} {args : Array Value} {below : List Frame} {meth : Method} {c : Code} {H : Heap} {locs : List Loc} {cells slots : Nat} {Q : State → Prop}
variable {cc : ByteArray} {nL : Nat} {own : String} {ret : Option FieldType} {D : va_G} {tc : Nat → ClassId} {A : Nat → Prop} {ws : va_W} {pc : Nat} {ls : Array Slot} {rest : List Value} {a : Nat}
abbrev tys (tc : Nat → ClassId) : List (ClassId × FieldType) := [(tc 0, .int), (tc 1, .long), (tc 2, .object "HistoryCourt$History"), (tc 3, .object "HistoryCourt$Table")]
/-- what stands for a whole method -/
def Cx (p : Program) (s : State) (m : MethodId) (args : Array Value) (meth : Method) (c : Code) (cc : ByteArray) (nL : Nat) (own : String) (ret : Option FieldType) : Prop :=
  p.tables.exec = Jvm.exec ∧ c.code = cc ∧ meth.sig.returnType = ret ∧ c.maxLocals = nL ∧ s.vm.findClass own = some m.cls ∧ (∀ w ∈ lw_g, w.before args s = true) ∧ meth.locks = false ∧ Nws s
/-- the world now -/
def Wd (D : va_G) (tc : Nat → ClassId) (A : Nat → Prop) (s : State) (H : Heap) (locs : List Loc) (ws : va_W) : Prop :=
  va_K D vwCl (tys tc) s ∧ va_P D vwCl ws H ∧ va_D A ws ∧ va_S A s.heap H locs ∧ ∀ q : Nat, s.heap.size ≤ q → A q
def PreM (D : va_G) (tc : Nat → ClassId) (ws : va_W) (sz : Nat) (U : State) : Prop := U.heap.size = sz ∧ va_P D vwCl ws U.heap ∧ va_K D vwCl (tys tc) U ∧ va_D (fun _ => True) ws ∧ Nws U
def EndM (D : va_G) (w0 ws : va_W) (sz : Nat) (t : State) : Prop := va_P D vwCl ws t.heap ∧ va_D (va_A w0 sz) ws
def NR (rt : Option FieldType) (v : Option Value) : Prop := ∀ (ty : FieldType) (r : Int32), rt = some ty → v = some (.int r) → narrow ty (.int r) = .int r
def QcM (D : va_G) (ws : va_W) (sz : Nat) (rt : Option FieldType) (RT : Option Value → va_W → Prop) : Array Value → State → Outcome → State → Prop := fun _ st oc t => (∃ (v : Option Value) (w : va_W), oc = .returned v ∧ RT v w ∧ EndM D ws w sz t ∧ NR rt v) ∧ va_F (va_A ws sz) st t
abbrev rmz (fr mc ms lo : Nat) : Room := { frames := fr, cells := mc, slots := ms, locals := lo }
/-- a method's contract: from the world ws with the arguments av it returns with RT of its answer and the world then -/
def MetG (l : Launch) (D : va_G) (tc : Nat → ClassId) (y : MethodName) (cc : ByteArray) (maxL : Nat) (ret : Option FieldType) (fr mc ms lo : Nat) (av : List Value) (ws : va_W) (RT : Option Value → va_W → Prop) : Prop :=
  ∀ sz : Nat, Met l y (Cond.code y cc maxL ret :: lw_g) (rmz fr mc ms lo) (va_Pc av (PreM D tc ws sz)) (QcM D ws sz ret RT) mc ms (va_A ws sz)
/-- the contract of a method that makes nothing and whose answer and end are told -/
abbrev MetD (l : Launch) (D : va_G) (tc : Nat → ClassId) (y : MethodName) (cc : ByteArray) (maxL : Nat) (ret : Option FieldType) (fr lo : Nat) (av : List Value) (ws : va_W) (v1 : Option Value) (w1 : va_W) : Prop :=
  MetG l D tc y cc maxL ret fr 0 0 lo av ws (fun v w => v = v1 ∧ w = w1)
theorem PreM.blind (D : va_G) (tc : Nat → ClassId) (ws : va_W) (sz : Nat) (av : List Value) : FrameBlind (va_Pc av (PreM D tc ws sz)) := fun a U g mk q => by
  obtain ⟨q0, q1, q2, q3, q4, q5⟩ := q
  exact ⟨q0, q1, q2, va_K.moved (u := U) (U := U.calling g mk a) (Vm.Alike.refl U.vm) q3, q4, Nws.same rfl q5⟩
theorem x_ent {y : MethodName} {maxL fr mc ms lo : Nat} {av : List Value} {RT : Option Value → va_W → Prop} (hy : plainName y.cls = true) (ho : y.cls = own) (hlen : (lg_sl av).length ≤ maxL)
    (body : ∀ (p : Program) (e : Env) (s : State) (m : MethodId) (args : Array Value) (below : List Frame) (meth : Method) (c : Code) (A : Nat → Prop) (sz : Nat) (ls : Array Slot), A = va_A ws sz → sz = s.heap.size → (own = y.cls → (y.name = "<init>" → meth.name = "<init>")) → 
      Cx p s m args meth c cc maxL own ret → Wd D tc A s s.heap [] ws → lv_has ls maxL (lv_args 0 av) →
      W p l e (rmz fr mc ms lo) s m args below meth c s.heap [] 0 0 (MQ below (QcM D ws sz ret RT) args s mc ms A) (F0 m 0 ls [])) :
    MetG l D tc y cc maxL ret fr mc ms lo av ws RT := by
  intro sz
  refine Met.ofW (cc := cc) (maxL := maxL) (ret := ret) hy rfl ?_
  intro p e s m args below meth c s₁ B hml hv
  obtain ⟨rfl, hsz, hP, hK, hD0, hN⟩ := hv
  have hts := atoms_spec (ws := Cond.code y cc maxL ret :: lw_g) B.pre
  have hown : s.vm.findClass y.cls = some m.cls := findClass_of_methodNamed B.named
  have hl := lv_entry av (n := maxL) hlen
  rw [lg_entry_eq]
  subst ho
  exact body p e s m av.toArray below meth c (va_A ws sz) sz _ rfl hsz.symm (fun _ h => by rw [← h]; exact (name_of_methodNamed B.named B.method).1) ⟨B.exec, B.bytes, B.returns, hml, hown, fun w hw => hts w (List.mem_cons_of_mem _ hw), B.notSynchronized, hN⟩
    ⟨hK, hP, hD0.self, va_S.rf, fun q h => Or.inr (by rw [← hsz]; exact h)⟩ hl
theorem x_ireti {RT : Option Value → va_W → Prop} {w : va_W} {sz mc ms : Nat} {ty : FieldType} {v : Int32} (hcl : cells ≤ mc) (hsl : slots ≤ ms) (C : Cx p s m args meth c cc nL own (some ty)) (hA : A = va_A ws sz) (hn : narrow ty (.int v) = .int v) (hRT : RT (some (.int v)) w) (V : Wd D tc A s H locs w) (hdg : decode cc pc = .ok (.ireturn, 1)) :
    W p l e R s m args below meth c H locs cells slots (MQ below (QcM D ws sz (some ty) RT) args s mc ms A) (F0 m pc ls [.int v]) := by
  obtain ⟨hx, hb, hr, hml, hown, hts, hlocks, hN⟩ := C
  obtain ⟨hK, hP, hD, hS, hA2⟩ := V
  refine W.widen hcl hsl ?_
  exact W.zret hx hb hr hn (fun t ht hW => ⟨⟨some (.int v), w, rfl, hRT, ⟨by rw [ht]; exact hP, by rw [← hA]; exact hD⟩, fun ty2 r2 h1 h2 => by cases h1; cases h2; exact hn⟩, by rw [← hA]; exact hS.F ht⟩) hS.2.2 hdg
theorem x_lreti {RT : Option Value → va_W → Prop} {w : va_W} {sz mc ms : Nat} {v : Int64} (hcl : cells ≤ mc) (hsl : slots ≤ ms) (C : Cx p s m args meth c cc nL own (some .long)) (hA : A = va_A ws sz) (hRT : RT (some (.long v)) w) (V : Wd D tc A s H locs w) (hdg : decode cc pc = .ok (.lreturn, 1)) :
    W p l e R s m args below meth c H locs cells slots (MQ below (QcM D ws sz (some .long) RT) args s mc ms A) (F0 m pc ls [.long v]) := by
  obtain ⟨hx, hb, hr, hml, hown, hts, hlocks, hN⟩ := C
  obtain ⟨hK, hP, hD, hS, hA2⟩ := V
  refine W.widen hcl hsl ?_
  exact W.lret hx hb hr (fun t ht hW => ⟨⟨some (.long v), w, rfl, hRT, ⟨by rw [ht]; exact hP, by rw [← hA]; exact hD⟩, fun ty2 r2 h1 h2 => by cases h2⟩, by rw [← hA]; exact hS.F ht⟩) hS.2.2 hdg
theorem x_vreti {RT : Option Value → va_W → Prop} {w : va_W} {sz mc ms : Nat} (hcl : cells ≤ mc) (hsl : slots ≤ ms) (C : Cx p s m args meth c cc nL own none) (hA : A = va_A ws sz) (hRT : RT none w) (V : Wd D tc A s H locs w) (hdg : decode cc pc = .ok (.return_, 1)) :
    W p l e R s m args below meth c H locs cells slots (MQ below (QcM D ws sz none RT) args s mc ms A) (F0 m pc ls []) := by
  obtain ⟨hx, hb, hr, hml, hown, hts, hlocks, hN⟩ := C
  obtain ⟨hK, hP, hD, hS, hA2⟩ := V
  refine W.widen hcl hsl ?_
  exact W.vret hx hb hr (fun t ht hW => ⟨⟨none, w, rfl, hRT, ⟨by rw [ht]; exact hP, by rw [← hA]; exact hD⟩, fun ty2 r2 h1 h2 => by cases h2⟩, by rw [← hA]; exact hS.F ht⟩) hS.2.2 hdg
/-- the three ends of a method with a told end -/
def RetI (p : Program) (l : Launch) (e : Env) (R : Room) (s : State) (m : MethodId) (args : Array Value) (below : List Frame) (meth : Method) (c : Code) (Q : State → Prop) (cc : ByteArray) (D : va_G) (tc : Nat → ClassId) (A : Nat → Prop) (ty : FieldType) {S : Type} (res : Option S) (val : S → Int32) (wf : S → va_W) : Prop :=
  ∀ {H : Heap} {locs : List Loc} {pc : Nat} {ls : Array Slot} (x : S), some x = res → narrow ty (.int (val x)) = .int (val x) → Wd D tc A s H locs (wf x) → decode cc pc = .ok (.ireturn, 1) → W p l e R s m args below meth c H locs 0 0 Q (F0 m pc ls [.int (val x)])
def RetL (p : Program) (l : Launch) (e : Env) (R : Room) (s : State) (m : MethodId) (args : Array Value) (below : List Frame) (meth : Method) (c : Code) (Q : State → Prop) (cc : ByteArray) (D : va_G) (tc : Nat → ClassId) (A : Nat → Prop) {S : Type} (res : Option S) (val : S → Int64) (wf : S → va_W) : Prop :=
  ∀ {H : Heap} {locs : List Loc} {pc : Nat} {ls : Array Slot} (x : S), some x = res → Wd D tc A s H locs (wf x) → decode cc pc = .ok (.lreturn, 1) → W p l e R s m args below meth c H locs 0 0 Q (F0 m pc ls [.long (val x)])
def RetV (p : Program) (l : Launch) (e : Env) (R : Room) (s : State) (m : MethodId) (args : Array Value) (below : List Frame) (meth : Method) (c : Code) (Q : State → Prop) (cc : ByteArray) (D : va_G) (tc : Nat → ClassId) (A : Nat → Prop) {S : Type} (res : Option S) (wf : S → va_W) : Prop :=
  ∀ {H : Heap} {locs : List Loc} {pc : Nat} {ls : Array Slot} (x : S), some x = res → Wd D tc A s H locs (wf x) → decode cc pc = .ok (.return_, 1) → W p l e R s m args below meth c H locs 0 0 Q (F0 m pc ls [])
theorem x_entI {y : MethodName} {maxL fr lo : Nat} {av : List Value} {ty : FieldType} {S : Type} {x0 : S} (val : S → Int32) (wf : S → va_W) (hy : plainName y.cls = true) (ho : y.cls = own) (hlen : (lg_sl av).length ≤ maxL)
    (body : ∀ (p : Program) (e : Env) (s : State) (m : MethodId) (args : Array Value) (below : List Frame) (meth : Method) (c : Code) (A : Nat → Prop) (Q : State → Prop) (ls : Array Slot),
      Cx p s m args meth c cc maxL own (some ty) → Wd D tc A s s.heap [] ws → lv_has ls maxL (lv_args 0 av) → RetI p l e (rmz fr 0 0 lo) s m args below meth c Q cc D tc A ty (some x0) val wf →
      W p l e (rmz fr 0 0 lo) s m args below meth c s.heap [] 0 0 Q (F0 m 0 ls [])) :
    MetD l D tc y cc maxL (some ty) fr lo av ws (some (.int (val x0))) (wf x0) :=
  x_ent hy ho hlen (fun p e s m args below meth c A sz ls hA _ _ C V hl => body p e s m args below meth c A _ ls C V hl (fun x hx hn V hdg => by
    cases hx
    exact x_ireti (Nat.le_refl 0) (Nat.le_refl 0) C hA hn ⟨rfl, rfl⟩ V hdg))
theorem x_entL {y : MethodName} {maxL fr lo : Nat} {av : List Value} {S : Type} {x0 : S} (val : S → Int64) (wf : S → va_W) (hy : plainName y.cls = true) (ho : y.cls = own) (hlen : (lg_sl av).length ≤ maxL)
    (body : ∀ (p : Program) (e : Env) (s : State) (m : MethodId) (args : Array Value) (below : List Frame) (meth : Method) (c : Code) (A : Nat → Prop) (Q : State → Prop) (ls : Array Slot),
      Cx p s m args meth c cc maxL own (some .long) → Wd D tc A s s.heap [] ws → lv_has ls maxL (lv_args 0 av) → RetL p l e (rmz fr 0 0 lo) s m args below meth c Q cc D tc A (some x0) val wf →
      W p l e (rmz fr 0 0 lo) s m args below meth c s.heap [] 0 0 Q (F0 m 0 ls [])) :
    MetD l D tc y cc maxL (some .long) fr lo av ws (some (.long (val x0))) (wf x0) :=
  x_ent hy ho hlen (fun p e s m args below meth c A sz ls hA _ _ C V hl => body p e s m args below meth c A _ ls C V hl (fun x hx V hdg => by
    cases hx
    exact x_lreti (Nat.le_refl 0) (Nat.le_refl 0) C hA ⟨rfl, rfl⟩ V hdg))
theorem x_entV {y : MethodName} {maxL fr lo : Nat} {av : List Value} {S : Type} {x0 : S} (wf : S → va_W) (hy : plainName y.cls = true) (ho : y.cls = own) (hlen : (lg_sl av).length ≤ maxL)
    (body : ∀ (p : Program) (e : Env) (s : State) (m : MethodId) (args : Array Value) (below : List Frame) (meth : Method) (c : Code) (A : Nat → Prop) (Q : State → Prop) (ls : Array Slot),
      Cx p s m args meth c cc maxL own none → Wd D tc A s s.heap [] ws → lv_has ls maxL (lv_args 0 av) → RetV p l e (rmz fr 0 0 lo) s m args below meth c Q cc D tc A (some x0) wf →
      W p l e (rmz fr 0 0 lo) s m args below meth c s.heap [] 0 0 Q (F0 m 0 ls [])) :
    MetD l D tc y cc maxL none fr lo av ws none (wf x0) :=
  x_ent hy ho hlen (fun p e s m args below meth c A sz ls hA _ _ C V hl => body p e s m args below meth c A _ ls C V hl (fun x hx V hdg => by
    cases hx
    exact x_vreti (Nat.le_refl 0) (Nat.le_refl 0) C hA ⟨rfl, rfl⟩ V hdg))
theorem x_get (hx : p.tables.exec = Jvm.exec) (hb : c.code = cc) (hts : ∀ w ∈ lw_g, w.before args s = true) (hown : s.vm.findClass own = some m.cls) (V : Wd D tc A s H locs ws) {C ref : String} {T : u_T} {N ci index : Nat} (hin : ∀ w ∈ u_ws C T N, w ∈ lw_g) (q0 : Nat) {fs : List Value} (he : ws[q0]? = some (a, .inr (ci, fs))) (hc : vwCl[ci]? = some (C, T, N)) (k : Nat) (hk : k < N) (hlink : Cond.fieldLink own index ref (T k).2.1 (T k).2.2.1 ∈ lw_g) (hsame : (T k).1 = ref) {v : Value} (hv : fs[k]? = some v) (hdg : decode cc pc = .ok (.getfield index, 3))
    (kk : W p l e R s m args below meth c H locs cells slots Q (F0 m (pc + 3) ls (v :: rest))) : W p l e R s m args below meth c H locs cells slots Q (F0 m pc ls (.ref a :: rest)) :=
  va_get hx hb hts hin hown V.1 V.2.1 q0 he hc k hk (hts _ hlink) (fun x h => by rw [← hsame]; exact h) hv hdg kk
theorem x_put (hx : p.tables.exec = Jvm.exec) (hb : c.code = cc) (hts : ∀ w ∈ lw_g, w.before args s = true) (hown : s.vm.findClass own = some m.cls) (V : Wd D tc A s H locs ws) {C ref : String} {T : u_T} {N ci index : Nat} (hin : ∀ w ∈ u_ws C T N, w ∈ lw_g) {ty0 : Nat → FieldType} (hty : ∀ k, k < N → parseFieldDescriptor (T k).2.2.1 = some (ty0 k)) (hnm : ∀ a, a < N → ∀ b, b < N → a ≠ b → (T a).2.1 ≠ (T b).2.1) (q0 : Nat) {fs : List Value} (he : ws[q0]? = some (a, .inr (ci, fs))) (hc : vwCl[ci]? = some (C, T, N)) (k : Nat) (hk : k < N) (hlink : Cond.fieldLink own index ref (T k).2.1 (T k).2.2.1 ∈ lw_g) (hsame : (T k).1 = ref) (hfin : (T k).2.2.2 = false) {v : Value} (hn : narrow (ty0 k) v = v) (hfit : fits (ty0 k) v = true) (hl : k < fs.length) (hdg : decode cc pc = .ok (.putfield index, 3))
    (kk : ∀ (H1 : Heap) (locs1 : List Loc), Wd D tc A s H1 locs1 (ws.set q0 (a, .inr (ci, fs.set k v))) → W p l e R s m args below meth c H1 locs1 cells slots Q (F0 m (pc + 3) ls rest)) : W p l e R s m args below meth c H locs cells slots Q (F0 m pc ls (v :: .ref a :: rest)) :=
  va_put hx hb hts hin ty0 hty hnm hown V.1 V.2.1 V.2.2.1 V.2.2.2.1 q0 he hc k hk (hts _ hlink) (fun x h => by rw [← hsame]; exact h) hfin (hty k hk) hn hfit hl hdg (fun H1 l1 a1 a2 a3 => kk H1 l1 ⟨V.1, a1, a2, a3, V.2.2.2.2⟩)
theorem x_iald (hx : p.tables.exec = Jvm.exec) (hb : c.code = cc) (V : Wd D tc A s H locs ws) (q0 : Nat) {n : Nat} {f : Nat → Int32} (ha : ws[q0]? = some (a, .inl (tc 0, n, .inl f))) {i : Int32} (hin : vp_in i n) (hdg : decode cc pc = .ok (.iaload, 1))
    (kk : W p l e R s m args below meth c H locs cells slots Q (F0 m (pc + 1) ls (.int (f i.toNatClampNeg) :: rest))) : W p l e R s m args below meth c H locs cells slots Q (F0 m pc ls (.int i :: .ref a :: rest)) :=
  va_iald hx hb V.1 V.2.1 q0 0 ha rfl hin hdg kk
theorem x_lald (hx : p.tables.exec = Jvm.exec) (hb : c.code = cc) (V : Wd D tc A s H locs ws) (q0 : Nat) {n : Nat} {f : Nat → Int64} (ha : ws[q0]? = some (a, .inl (tc 1, n, .inr (.inl f)))) {i : Int32} (hin : vp_in i n) (hdg : decode cc pc = .ok (.laload, 1))
    (kk : W p l e R s m args below meth c H locs cells slots Q (F0 m (pc + 1) ls (.long (f i.toNatClampNeg) :: rest))) : W p l e R s m args below meth c H locs cells slots Q (F0 m pc ls (.int i :: .ref a :: rest)) :=
  va_lald hx hb V.1 V.2.1 q0 1 ha rfl hin hdg kk
theorem x_iast (hx : p.tables.exec = Jvm.exec) (hb : c.code = cc) (V : Wd D tc A s H locs ws) (q0 : Nat) {n : Nat} {f : Nat → Int32} (ha : ws[q0]? = some (a, .inl (tc 0, n, .inl f))) {i x : Int32} (hin : vp_in i n) (hdg : decode cc pc = .ok (.iastore, 1))
    (kk : ∀ (H1 : Heap) (locs1 : List Loc), Wd D tc A s H1 locs1 (ws.set q0 (a, .inl (tc 0, n, .inl (upd f i.toNatClampNeg x)))) → W p l e R s m args below meth c H1 locs1 cells slots Q (F0 m (pc + 1) ls rest)) : W p l e R s m args below meth c H locs cells slots Q (F0 m pc ls (.int x :: .int i :: .ref a :: rest)) :=
  va_iast hx hb V.1 V.2.1 V.2.2.1 V.2.2.2.1 q0 0 ha rfl hin hdg (fun H1 l1 a1 a2 a3 => kk H1 l1 ⟨V.1, a1, a2, a3, V.2.2.2.2⟩)
theorem x_last (hx : p.tables.exec = Jvm.exec) (hb : c.code = cc) (V : Wd D tc A s H locs ws) (q0 : Nat) {n : Nat} {f : Nat → Int64} (ha : ws[q0]? = some (a, .inl (tc 1, n, .inr (.inl f)))) {i : Int32} {x : Int64} (hin : vp_in i n) (hdg : decode cc pc = .ok (.lastore, 1))
    (kk : ∀ (H1 : Heap) (locs1 : List Loc), Wd D tc A s H1 locs1 (ws.set q0 (a, .inl (tc 1, n, .inr (.inl (vp_updL f i.toNatClampNeg x))))) → W p l e R s m args below meth c H1 locs1 cells slots Q (F0 m (pc + 1) ls rest)) : W p l e R s m args below meth c H locs cells slots Q (F0 m pc ls (.long x :: .int i :: .ref a :: rest)) :=
  va_last hx hb V.1 V.2.1 V.2.2.1 V.2.2.2.1 q0 1 ha rfl hin hdg (fun H1 l1 a1 a2 a3 => kk H1 l1 ⟨V.1, a1, a2, a3, V.2.2.2.2⟩)
theorem x_alen (hx : p.tables.exec = Jvm.exec) (hb : c.code = cc) (V : Wd D tc A s H locs ws) (q0 : Nat) {n : Nat} {f : Nat → Int32} (ha : ws[q0]? = some (a, .inl (tc 0, n, .inl f))) {v : Int32} (hv : Int32.ofNat n = v) (hdg : decode cc pc = .ok (.arraylength, 1))
    (kk : W p l e R s m args below meth c H locs cells slots Q (F0 m (pc + 1) ls (.int v :: rest))) : W p l e R s m args below meth c H locs cells slots Q (F0 m pc ls (.ref a :: rest)) :=
  va_alen hx hb V.1 V.2.1 q0 0 ha rfl hv hdg kk
/-- what a contract's words are among the caller's -/
theorem x_good {w : Cond} (hw : w ∈ lw_g) : GoodIn lw_g (w :: lw_g) := fun x h => by
  rcases List.mem_cons.mp h with rfl | h
  · exact ⟨hw, good_of_word (lw_gg _ hw)⟩
  · exact ⟨h, good_of_word (lw_gg _ h)⟩
/-- a call runs: the callee's world is the places isC of the caller's; behind it the rest stands unchanged beside the callee's new world -/
theorem x_back {mc ms sz : Nat} {rt : Option FieldType} {wc : va_W} {RT : Option Value → va_W → Prop} {st0 : List Value} {av : Array Value} (V : Wd D tc A s H locs ws) (isC : List Nat) (hC : isC.map (fun i => ws[i]?) = wc.map some) (hsz : sz = H.size)
    (hr : va_Run p l e R s m args below meth c H locs cells slots mc ms (F0 m pc ls st0) rest (QcM D wc sz rt RT av) (va_A wc sz))
    (kk : ∀ (v : Option Value) (w1 : va_W) (H1 : Heap) (locs1 : List Loc), RT v w1 → NR rt v → (∀ (wr : va_W) (isR : List Nat), isR.map (fun i => ws[i]?) = wr.map some → va_nd isR = true → (∀ i ∈ isR, i ∉ isC) → Wd D tc A s H1 locs1 (wr ++ w1)) → W p l e R s m args below meth c H1 locs1 (cells + mc) (slots + ms) Q (F0 m (pc + 3) ls (v.toList ++ rest))) :
    W p l e R s m args below meth c H locs cells slots Q (F0 m pc ls st0) := by
  intro T hT X
  subst hsz
  obtain ⟨hK, hP, hD, hS, hA⟩ := V
  have hFc := va_free (wc := wc) hD hS hA isC hC
  obtain ⟨v, st₀, t, T', L, h0, X', hL, e1, e2, ⟨⟨v2, w1, hv, hRT, ⟨hP1, hD1⟩, hNR⟩, hz, hk⟩, st⟩ := hr T hT X
  cases hv
  rw [h0] at hz hk
  have hS1 : va_S A s.heap T'.heap (locs ++ L) := ⟨Nat.le_trans hS.1 (by rw [e1]; exact hz), fun q h1 h2 => by rw [e1, hk q (Nat.lt_of_lt_of_le h1 hS.1) (fun z => h2 (hFc q z))]; exact hS.2.1 q h1 h2, fun q hq => by
      rcases List.mem_append.mp hq with h | h
      · exact hS.2.2 q h
      · exact hFc _ (hL q h)⟩
  obtain ⟨t2, a1, b1⟩ := kk v w1 T'.heap (locs ++ L) hRT hNR (fun wr isR hR hn hdis => by
    obtain ⟨j1, j2⟩ := va_join (wr := wr) (w1 := w1) (H1 := T'.heap) hP hD isC isR hC hR hn hdis (fun q h1 h2 => by rw [e1]; exact hk q h1 h2) hFc (by rw [e1]; exact hP1) hD1
    exact ⟨hK, j1, j2, hS1, hA⟩) T' rfl X'
  exact ⟨t2, st t2 a1, b1⟩
/-- a call's worlds -/
theorem x_pre {wc : va_W} {av : List Value} (V : Wd D tc A s H locs ws) (hN : Nws s) (isC : List Nat) (hC : isC.map (fun i => ws[i]?) = wc.map some) (hn : va_nd isC = true) : ∀ U : State, U.heap = H → s.WarmedH U.vm → va_Pc av (PreM D tc wc H.size) av.toArray U := by
  intro U hU hW
  have hf : isC.filterMap (fun i => ws[i]?) = wc := by
    have h1 : isC.filterMap (fun i => ws[i]?) = (isC.map (fun i => ws[i]?)).filterMap id := by rw [List.filterMap_map]; rfl
    rw [h1, hC, List.filterMap_map]
    exact List.filterMap_some
  exact ⟨rfl, by rw [hU], by rw [hU]; exact V.2.1.sub isC hf, va_K.moved hW.alike V.1, (V.2.2.1.sub isC hn hC).weaken (fun _ _ _ _ => trivial), Nws.warm hW hN⟩
theorem x_runV {y : MethodName} {bytes : ByteArray} {maxL fr mc ms lo n index : Nat} {rt : Option FieldType} {wc : va_W} {RT : Option Value → va_W → Prop} {C : String} {b : Nat} {As st0 : List Value} (X : Cx p s m args meth c cc nL own ret) (V : Wd D tc A s H locs ws) (isC : List Nat) (hC : isC.map (fun i => ws[i]?) = wc.map some) (hn : va_nd isC = true)
    (hM : MetG l D tc y bytes maxL rt fr mc ms lo (.ref b :: As) wc RT) (h1 : Cond.methodLink own index y ∈ lw_g) (h2 : Cond.instanceMethod y ∈ lw_g) (h3 : Cond.selects C y y ∈ lw_g) (h4 : Cond.initialized C ∈ lw_g) (h5 : Cond.code y bytes maxL rt ∈ lw_g)
    (hd : y.cls = C ∧ y.cls ≠ "java/lang/invoke/MethodHandle" ∧ y.cls ≠ "java/lang/invoke/VarHandle" ∧ (parseMethodDescriptor y.desc).map (fun d => d.parameters.length) = some n) (hR : fr + 1 ≤ R.frames ∧ 8 + (maxL + 11) + lo ≤ R.locals) (hf : cells + mc ≤ R.cells ∧ slots + ms ≤ R.slots)
    (q0 ci : Nat) {fs : List Value} {T : u_T} {N : Nat} (he : ws[q0]? = some (b, .inr (ci, fs))) (hc : vwCl[ci]? = some (C, T, N)) (hlen : As.length = n) (hls : ls.size = nL) (hst : st0 = As.reverse ++ .ref b :: rest) (hroom : (rest.map fun v => v.category).sum ≤ 8) (hdg : decode cc pc = .ok (.invokevirtual index, 3)) :
    va_Run p l e R s m args below meth c H locs cells slots mc ms (F0 m pc ls st0) rest (QcM D wc H.size rt RT (Value.ref b :: As).toArray) (va_A wc H.size) := by
  obtain ⟨hx, hb, hr, hml, hown, hts, hlocks, hN⟩ := X
  have cw : CallW R s args own C index y bytes maxL rt (Cond.code y bytes maxL rt :: lw_g) (rmz fr mc ms lo) mc ms n := by
    refine cwV n hts ?_ rfl rfl rfl hd hR
    intro w hw
    have hg := x_good h5
    simp only [wsV, List.cons_append, List.nil_append, List.mem_cons] at hw
    rcases hw with rfl | rfl | rfl | rfl | hw
    · exact ⟨h1, good_of_word (lw_gg _ h1)⟩
    · exact ⟨h2, good_of_word (lw_gg _ h2)⟩
    · exact ⟨h3, good_of_word (lw_gg _ h3)⟩
    · exact ⟨h4, good_of_word (lw_gg _ h4)⟩
    · exact hg w (List.mem_cons.mpr hw)
  subst hst
  exact va_runV (As := As) (rest := rest) ⟨hx, hb, hml, hown, hts⟩ (hM H.size) cw ⟨PreM.blind _ _ _ _ _, va_recv V.1 V.2.1 hc he, x_pre V hN isC hC hn⟩ rfl hlen hls rfl (lv_room hroom) hdg hf
theorem x_runS {y : MethodName} {bytes : ByteArray} {maxL fr mc ms lo n index : Nat} {rt : Option FieldType} {wc : va_W} {RT : Option Value → va_W → Prop} {As st0 : List Value} (X : Cx p s m args meth c cc nL own ret) (V : Wd D tc A s H locs ws) (isC : List Nat) (hC : isC.map (fun i => ws[i]?) = wc.map some) (hn : va_nd isC = true)
    (hM : MetG l D tc y bytes maxL rt fr mc ms lo As wc RT) (h1 : Cond.methodLink own index y ∈ lw_g) (h2 : Cond.static y ∈ lw_g) (h4 : Cond.initialized y.cls ∈ lw_g) (h5 : Cond.code y bytes maxL rt ∈ lw_g)
    (hd : y.cls ≠ "java/lang/invoke/MethodHandle" ∧ y.cls ≠ "java/lang/invoke/VarHandle" ∧ (parseMethodDescriptor y.desc).map (fun d => d.parameters.length) = some n) (hR : fr + 1 ≤ R.frames ∧ 8 + (maxL + 11) + lo ≤ R.locals) (hf : cells + mc ≤ R.cells ∧ slots + ms ≤ R.slots)
    (hlen : As.length = n) (hls : ls.size = nL) (hst : st0 = As.reverse ++ rest) (hroom : (rest.map fun v => v.category).sum ≤ 8) (hdg : decode cc pc = .ok (.invokestatic index, 3)) :
    va_Run p l e R s m args below meth c H locs cells slots mc ms (F0 m pc ls st0) rest (QcM D wc H.size rt RT As.toArray) (va_A wc H.size) := by
  obtain ⟨hx, hb, hr, hml, hown, hts, hlocks, hN⟩ := X
  subst hst
  exact va_runS (As := As) (rest := rest) ⟨hx, hb, hml, hown, hts⟩ (hM H.size) ⟨callB_of n hts (x_good h5) rfl rfl rfl (hts _ h4) (hts _ h1) hd hR, hts _ h2⟩ ⟨PreM.blind _ _ _ _ _, x_pre V hN isC hC hn⟩ rfl hlen hls rfl (lv_room hroom) hdg hf
theorem x_runSN {y : MethodName} {bytes : ByteArray} {maxL fr mc ms lo n index : Nat} {rt : Option FieldType} {wc : va_W} {RT : Option Value → va_W → Prop} {As st0 : List Value} {host : String} (X : Cx p s m args meth c cc nL own ret) (V : Wd D tc A s H locs ws) (isC : List Nat) (hC : isC.map (fun i => ws[i]?) = wc.map some) (hn : va_nd isC = true)
    (hM : MetG l D tc y bytes maxL rt fr mc ms lo As wc RT) (h1 : va_Nw (Cond.methodLinkNest own index y host) s) (h2 : Cond.static y ∈ lw_g) (h4 : Cond.initialized y.cls ∈ lw_g) (h5 : Cond.code y bytes maxL rt ∈ lw_g)
    (hd : y.cls ≠ "java/lang/invoke/MethodHandle" ∧ y.cls ≠ "java/lang/invoke/VarHandle" ∧ (parseMethodDescriptor y.desc).map (fun d => d.parameters.length) = some n) (hR : fr + 1 ≤ R.frames ∧ 8 + (maxL + 11) + lo ≤ R.locals) (hf : cells + mc ≤ R.cells ∧ slots + ms ≤ R.slots)
    (hlen : As.length = n) (hls : ls.size = nL) (hst : st0 = As.reverse ++ rest) (hroom : (rest.map fun v => v.category).sum ≤ 8) (hdg : decode cc pc = .ok (.invokestatic index, 3)) :
    va_Run p l e R s m args below meth c H locs cells slots mc ms (F0 m pc ls st0) rest (QcM D wc H.size rt RT As.toArray) (va_A wc H.size) := by
  obtain ⟨hx, hb, hr, hml, hown, hts, hlocks, hN⟩ := X
  subst hst
  exact va_runSN (As := As) (rest := rest) ⟨hx, hb, hml, hown, hts⟩ (hM H.size) ⟨va_cnB n hts (x_good h5) rfl rfl rfl h1 (hts _ h4) hd hR, hts _ h2, trivial⟩ ⟨PreM.blind _ _ _ _ _, x_pre V hN isC hC hn⟩ rfl hlen hls rfl (lv_room hroom) hdg hf
/-- behind a call with a told end over the whole world -/
theorem x_all {mc ms : Nat} {rt : Option FieldType} {wc : va_W} {v1 : Option Value} {w1 : va_W} {st0 : List Value} {av : Array Value} (V : Wd D tc A s H locs ws) (isC : List Nat) (hC : isC.map (fun i => ws[i]?) = wc.map some)
    (hr : va_Run p l e R s m args below meth c H locs cells slots mc ms (F0 m pc ls st0) rest (QcM D wc H.size rt (fun v w => v = v1 ∧ w = w1) av) (va_A wc H.size))
    (kk : ∀ (H1 : Heap) (locs1 : List Loc), Wd D tc A s H1 locs1 w1 → NR rt v1 → W p l e R s m args below meth c H1 locs1 (cells + mc) (slots + ms) Q (F0 m (pc + 3) ls (v1.toList ++ rest))) :
    W p l e R s m args below meth c H locs cells slots Q (F0 m pc ls st0) :=
  x_back V isC hC rfl hr (fun v w H1 l1 hRT hNR hw => by
    obtain ⟨rfl, rfl⟩ := hRT
    exact kk H1 l1 (hw [] [] rfl rfl (fun _ h => absurd h List.not_mem_nil)) hNR)
theorem x_allI {ty : FieldType} {wc : va_W} {r1 : Int32} {w1 : va_W} {st0 : List Value} {av : Array Value} (V : Wd D tc A s H locs ws) (isC : List Nat) (hC : isC.map (fun i => ws[i]?) = wc.map some)
    (hr : va_Run p l e R s m args below meth c H locs cells slots 0 0 (F0 m pc ls st0) rest (QcM D wc H.size (some ty) (fun v w => v = some (.int r1) ∧ w = w1) av) (va_A wc H.size))
    (kk : ∀ (H1 : Heap) (locs1 : List Loc), Wd D tc A s H1 locs1 w1 → narrow ty (.int r1) = .int r1 → W p l e R s m args below meth c H1 locs1 cells slots Q (F0 m (pc + 3) ls (.int r1 :: rest))) :
    W p l e R s m args below meth c H locs cells slots Q (F0 m pc ls st0) := x_all V isC hC hr (fun H1 l1 h hn => kk H1 l1 h (hn ty r1 rfl rfl))
theorem x_allL {rt : Option FieldType} {wc : va_W} {r1 : Int64} {w1 : va_W} {st0 : List Value} {av : Array Value} (V : Wd D tc A s H locs ws) (isC : List Nat) (hC : isC.map (fun i => ws[i]?) = wc.map some)
    (hr : va_Run p l e R s m args below meth c H locs cells slots 0 0 (F0 m pc ls st0) rest (QcM D wc H.size rt (fun v w => v = some (.long r1) ∧ w = w1) av) (va_A wc H.size))
    (kk : ∀ (H1 : Heap) (locs1 : List Loc), Wd D tc A s H1 locs1 w1 → W p l e R s m args below meth c H1 locs1 cells slots Q (F0 m (pc + 3) ls (.long r1 :: rest))) :
    W p l e R s m args below meth c H locs cells slots Q (F0 m pc ls st0) := x_all V isC hC hr (fun H1 l1 h _ => kk H1 l1 h)
theorem x_allV {rt : Option FieldType} {wc : va_W} {w1 : va_W} {st0 : List Value} {av : Array Value} (V : Wd D tc A s H locs ws) (isC : List Nat) (hC : isC.map (fun i => ws[i]?) = wc.map some)
    (hr : va_Run p l e R s m args below meth c H locs cells slots 0 0 (F0 m pc ls st0) rest (QcM D wc H.size rt (fun v w => v = none ∧ w = w1) av) (va_A wc H.size))
    (kk : ∀ (H1 : Heap) (locs1 : List Loc), Wd D tc A s H1 locs1 w1 → W p l e R s m args below meth c H1 locs1 cells slots Q (F0 m (pc + 3) ls rest)) :
    W p l e R s m args below meth c H locs cells slots Q (F0 m pc ls st0) := x_all V isC hC hr (fun H1 l1 h _ => kk H1 l1 h)
theorem x_topi {x y : Int32} (h : y = x) (k : W p l e R s m args below meth c H locs cells slots Q (F0 m pc ls (.int y :: rest))) : W p l e R s m args below meth c H locs cells slots Q (F0 m pc ls (.int x :: rest)) := h ▸ k
theorem x_topl {x y : Int64} (h : y = x) (k : W p l e R s m args below meth c H locs cells slots Q (F0 m pc ls (.long y :: rest))) : W p l e R s m args below meth c H locs cells slots Q (F0 m pc ls (.long x :: rest)) := h ▸ k
end KIT
/-! ===== numbers and steps of the pictures of the methods ===== -/
abbrev St : Type := (Nat → Int32) × (Nat → Nat → Int32) × (Nat → Nat → Int64)
def sI (u : St) (k : Nat) (x : Int32) : St := (upd u.1 k x, u.2.1, u.2.2)
def sA (u : St) (k : Nat) (i : Nat) (x : Int32) : St := (u.1, fun j => if j = k then upd (u.2.1 k) i x else u.2.1 j, u.2.2)
def sL (u : St) (k : Nat) (i : Nat) (x : Int64) : St := (u.1, u.2.1, fun j => if j = k then vp_updL (u.2.2 k) i x else u.2.2 j)
/-- an index is in its row, or nothing -/
def gd {α : Type} (i : Int32) (n : Nat) (k : Option α) : Option α := if i < 0 ∨ n ≤ i.toNatClampNeg then none else k
/-- a named number -/
def nm {α β : Type} (x : α) (k : α → Option β) : Option β := k x
theorem gd_some {α : Type} {i : Int32} {n : Nat} {k : Option α} {r : α} (h : gd i n k = some r) : vp_in i n ∧ k = some r := by
  unfold gd at h
  by_cases c : i < 0 ∨ n ≤ i.toNatClampNeg
  · rw [if_pos c] at h; cases h
  · rw [if_neg c] at h; exact ⟨c, h⟩
theorem nm_some {α β : Type} {x : α} {k : α → Option β} {r : β} (h : nm x k = some r) : ∃ y, y = x ∧ k y = some r := ⟨x, rfl, h⟩
theorem bd_some {α β : Type} {x : Option α} {k : α → Option β} {r : β} (h : x.bind k = some r) : ∃ y, x = some y ∧ k y = some r := by
  cases x with
  | none => cases h
  | some y => exact ⟨y, rfl, h⟩
theorem ip {α : Type} {c : Prop} (d : Decidable c) {a b r : α} (hc : c) (h : @ite α c d a b = r) : a = r := by rw [if_pos hc] at h; exact h
theorem iq {α : Type} {c : Prop} (d : Decidable c) {a b r : α} (hc : ¬ c) (h : @ite α c d a b = r) : b = r := by rw [if_neg hc] at h; exact h
theorem iqn {α : Type} {c : Prop} (d : Decidable (¬ c)) {a b r : α} (hc : c) (h : @ite α (¬ c) d a b = r) : b = r := by rw [if_neg (fun z => z hc)] at h; exact h
theorem rg_map (ws : va_W) : (List.range ws.length).map (fun i => ws[i]?) = ws.map some := by
  apply List.ext_getElem?
  intro i
  by_cases h : i < ws.length
  · simp [h]
  · simp [h]
theorem rg_nd_aux : ∀ (l : List Nat), l.Nodup → va_nd l = true
  | [], _ => rfl
  | a :: l, h => by
    have h := List.nodup_cons.mp h
    simp [va_nd, h.1, rg_nd_aux l h.2]
theorem rg_nd (n : Nat) : va_nd (List.range n) = true := rg_nd_aux _ List.nodup_range
/-- a truth value, or nothing -/
def zg {α : Type} (x : Int32) (k : Option α) : Option α := if x = 0 ∨ x = 1 then k else none
theorem zg_some {α : Type} {x : Int32} {k : Option α} {r : α} (h : zg x k = some r) : narrow .boolean (.int x) = .int x ∧ k = some r := by
  unfold zg at h
  by_cases c : x = 0 ∨ x = 1
  · rw [if_pos c] at h
    refine ⟨?_, h⟩
    rcases c with rfl | rfl <;> rfl
  · rw [if_neg c] at h; cases h
theorem sw_ne {x : Int32} {k : Nat} (hk : k < 2 ^ 31) (h : ¬ x = Int32.ofNat k) : ¬ x.toInt = (k : Int) := fun e => h (by
  apply Int32.toInt_inj.mp
  rw [e]
  exact (nI_toInt hk).symm)
theorem sw_out3 {x : Int32} (h0 : ¬ x = 0) (h1 : ¬ x = 1) (h2 : ¬ x = 2) (h3 : ¬ x = 3) : x.toInt < 0 ∨ 3 < x.toInt := by
  have a0 := sw_ne (k := 0) (by decide) h0
  have a1 := sw_ne (k := 1) (by decide) h1
  have a2 := sw_ne (k := 2) (by decide) h2
  have a3 := sw_ne (k := 3) (by decide) h3
  omega
theorem sw_out5 {x : Int32} (h0 : ¬ x = 0) (h1 : ¬ x = 1) (h2 : ¬ x = 2) (h3 : ¬ x = 3) (h4 : ¬ x = 4) (h5 : ¬ x = 5) : x.toInt < 0 ∨ 5 < x.toInt := by
  have a0 := sw_out3 h0 h1 h2 h3
  have a4 := sw_ne (k := 4) (by decide) h4
  have a5 := sw_ne (k := 5) (by decide) h5
  omega
theorem sw_out6 {x : Int32} (h0 : ¬ x = 0) (h1 : ¬ x = 1) (h2 : ¬ x = 2) (h3 : ¬ x = 3) (h4 : ¬ x = 4) (h5 : ¬ x = 5) (h6 : ¬ x = 6) : x.toInt < 0 ∨ 6 < x.toInt := by
  have a0 := sw_out5 h0 h1 h2 h3 h4 h5
  have a6 := sw_ne (k := 6) (by decide) h6
  omega
theorem zn_0 : narrow .boolean (.int 0) = .int 0 := rfl
theorem zn_1 : narrow .boolean (.int 1) = .int 1 := rfl
