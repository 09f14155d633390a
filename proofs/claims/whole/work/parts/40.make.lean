/-! ===== methods that make cells ===== -/
section KIT4
variable {p : Program} {l : Launch} {e : Env} {R : Room} {s : State} {m : MethodId} {args : Array Value} {below : List Frame} {meth : Method} {c : Code} {H : Heap} {locs : List Loc} {cells slots : Nat} {Q : State → Prop}
variable {cc : ByteArray} {nL : Nat} {own : String} {ret : Option FieldType} {D : va_G} {tc : Nat → ClassId} {A : Nat → Prop} {ws : va_W} {pc : Nat} {ls : Array Slot} {rest : List Value} {a : Nat}
theorem x_newI (hx : p.tables.exec = Jvm.exec) (hb : c.code = cc) (hts : ∀ w ∈ lw_g, w.before args s = true) (V : Wd D tc A s H locs ws) {n : Int32} {N : Nat} (hn : ¬ n < 0) (hN : n.toNatClampNeg = N) (hbytes : N * componentBytes .int ≤ 536870912) (hcells : cells + 1 ≤ R.cells) (hslots : slots + N ≤ R.slots) (hdg : decode cc pc = .ok (.newarray .int, 2))
    (kk : ∀ (q : Nat) (H1 : Heap), Wd D tc A s H1 locs (ws ++ [(q, .inl (tc 0, N, .inl (fun _ => 0)))]) → W p l e R s m args below meth c H1 locs (cells + 1) (slots + N) Q (F0 m (pc + 2) ls (.ref q :: rest))) : W p l e R s m args below meth c H locs cells slots Q (F0 m pc ls (.int n :: rest)) :=
  va_newa (atype := .int) hx hb (hts _ tw_85) (ty := .int) rfl V.1 V.2.1 V.2.2.1 V.2.2.2.1 V.2.2.2.2 (a0 := (N, .inl (fun _ => 0))) (fun _ => rfl) hn hN hbytes hcells hslots hdg (fun q cA H1 k1 p1 d1 s1 => by
    have e0 : s.vm.findClass ("[" ++ FieldType.int.toString) = some (tc 0) := (V.1.2 0 _ rfl).2
    have e1 : s.vm.findClass ("[" ++ FieldType.int.toString) = some cA := (k1.2 4 (cA, .int) rfl).2
    have e2 : cA = tc 0 := Option.some.inj (e1.symm.trans e0)
    subst e2
    exact kk q H1 ⟨V.1, p1, d1, s1, V.2.2.2.2⟩)
theorem x_newJ (hx : p.tables.exec = Jvm.exec) (hb : c.code = cc) (hts : ∀ w ∈ lw_g, w.before args s = true) (V : Wd D tc A s H locs ws) {n : Int32} {N : Nat} (hn : ¬ n < 0) (hN : n.toNatClampNeg = N) (hbytes : N * componentBytes .long ≤ 536870912) (hcells : cells + 1 ≤ R.cells) (hslots : slots + N ≤ R.slots) (hdg : decode cc pc = .ok (.newarray .long, 2))
    (kk : ∀ (q : Nat) (H1 : Heap), Wd D tc A s H1 locs (ws ++ [(q, .inl (tc 1, N, .inr (.inl (fun _ => 0))))]) → W p l e R s m args below meth c H1 locs (cells + 1) (slots + N) Q (F0 m (pc + 2) ls (.ref q :: rest))) : W p l e R s m args below meth c H locs cells slots Q (F0 m pc ls (.int n :: rest)) :=
  va_newa (atype := .long) hx hb (hts _ tw_105) (ty := .long) rfl V.1 V.2.1 V.2.2.1 V.2.2.2.1 V.2.2.2.2 (a0 := (N, .inr (.inl (fun _ => 0)))) (fun _ => rfl) hn hN hbytes hcells hslots hdg (fun q cA H1 k1 p1 d1 s1 => by
    have e0 : s.vm.findClass ("[" ++ FieldType.long.toString) = some (tc 1) := (V.1.2 1 _ rfl).2
    have e1 : s.vm.findClass ("[" ++ FieldType.long.toString) = some cA := (k1.2 4 (cA, .long) rfl).2
    have e2 : cA = tc 1 := Option.some.inj (e1.symm.trans e0)
    subst e2
    exact kk q H1 ⟨V.1, p1, d1, s1, V.2.2.2.2⟩)
theorem x_new (hx : p.tables.exec = Jvm.exec) (hb : c.code = cc) (hts : ∀ w ∈ lw_g, w.before args s = true) (hown : s.vm.findClass own = some m.cls) (V : Wd D tc A s H locs ws) {C : String} {T : u_T} {N index : Nat} (ci : Nat) (hin : ∀ w ∈ u_ws C T N, w ∈ lw_g) {ty : Nat → FieldType} (hty : ∀ k, k < N → parseFieldDescriptor (T k).2.2.1 = some (ty k)) (hcl : Cond.classLink own index C ∈ lw_g) (hinst : Cond.instantiable C N ∈ lw_g) (hini : Cond.initialized C ∈ lw_g) (hc : vwCl[ci]? = some (C, T, N)) {fs : List Value} (hfs : ∀ j, j < N → defaultValue (ty j) = vp_V fs j) (hcells : cells + 1 ≤ R.cells) (hslots : slots + N ≤ R.slots) (hdg : decode cc pc = .ok (.new index, 3))
    (kk : ∀ (q : Nat) (H1 : Heap), Wd D tc A s H1 locs (ws ++ [(q, .inr (ci, fs))]) → W p l e R s m args below meth c H1 locs (cells + 1) (slots + N) Q (F0 m (pc + 3) ls (.ref q :: rest))) : W p l e R s m args below meth c H locs cells slots Q (F0 m pc ls rest) :=
  va_new hx hb hts hin ty hty hown (hts _ hcl) (hts _ hinst) (hts _ hini) V.1 V.2.1 V.2.2.1 V.2.2.2.1 V.2.2.2.2 hc hfs hcells hslots hdg (fun q H1 p1 d1 s1 => kk q H1 ⟨V.1, p1, d1, s1, V.2.2.2.2⟩)
theorem x_putF (hx : p.tables.exec = Jvm.exec) (hb : c.code = cc) (hts : ∀ w ∈ lw_g, w.before args s = true) (hown : s.vm.findClass own = some m.cls) (V : Wd D tc A s H locs ws) {C ref : String} {T : u_T} {N ci index : Nat} (hin : ∀ w ∈ u_ws C T N, w ∈ lw_g) {ty0 : Nat → FieldType} (hty : ∀ k, k < N → parseFieldDescriptor (T k).2.2.1 = some (ty0 k)) (hnm : ∀ a, a < N → ∀ b, b < N → a ≠ b → (T a).2.1 ≠ (T b).2.1) (q0 : Nat) {fs : List Value} (he : ws[q0]? = some (a, .inr (ci, fs))) (hc : vwCl[ci]? = some (C, T, N)) (k : Nat) (hk : k < N) (hlink : Cond.fieldLink own index ref (T k).2.1 (T k).2.2.1 ∈ lw_g) (hsame : (T k).1 = ref) (hfin : (T k).2.2.2 = true) (hin2 : meth.name = "<init>") (hdecl : (T k).1 = own) {v : Value} (hn : narrow (ty0 k) v = v) (hfit : fits (ty0 k) v = true) (hl : k < fs.length) (hdg : decode cc pc = .ok (.putfield index, 3))
    (kk : ∀ (H1 : Heap) (locs1 : List Loc), Wd D tc A s H1 locs1 (ws.set q0 (a, .inr (ci, fs.set k v))) → W p l e R s m args below meth c H1 locs1 cells slots Q (F0 m (pc + 3) ls rest)) : W p l e R s m args below meth c H locs cells slots Q (F0 m pc ls (v :: .ref a :: rest)) :=
  va_putF hx hb hts hin ty0 hty hnm hown V.1 V.2.1 V.2.2.1 V.2.2.2.1 q0 he hc k hk (hts _ hlink) (fun x h => by rw [← hsame]; exact h) hfin hin2 hdecl (hty k hk) hn hfit hl hdg (fun H1 l1 a1 a2 a3 => kk H1 l1 ⟨V.1, a1, a2, a3, V.2.2.2.2⟩)
theorem x_copyI (hx : p.tables.exec = Jvm.exec) (hb : c.code = cc) (hml : c.maxLocals = ls.size) (hts : ∀ w ∈ lw_g, w.before args s = true) (hown : s.vm.findClass own = some m.cls) {index : Nat} (hlink : Cond.methodLink own index arraycopyName ∈ lw_g) (hnat : Cond.native arraycopyName ∈ lw_g) (hstat : Cond.static arraycopyName ∈ lw_g) (hini : Cond.initialized "java/lang/System" ∈ lw_g) (V : Wd D tc A s H locs ws) (q0 q1 : Nat) {a0 n0 n1 : Nat} {f g : Nat → Int32} (ha0 : ws[q0]? = some (a0, .inl (tc 0, n0, .inl f))) (ha1 : ws[q1]? = some (a, .inl (tc 0, n1, .inl g)))
    {sp dp n : Int32} (h1 : ¬ sp < 0) (h2 : ¬ dp < 0) (h3 : ¬ n < 0) (h4 : sp.toNatClampNeg + n.toNatClampNeg ≤ n0) (h5 : dp.toNatClampNeg + n.toNatClampNeg ≤ n1) (hframes : 1 ≤ R.frames) (hlocals : (rest.map fun v => v.category).sum + (nativeFrameWords "java/lang/System" "arraycopy" 5 + 11) ≤ R.locals) (hdg : decode cc pc = .ok (.invokestatic index, 3))
    (kk : ∀ (H1 : Heap) (locs1 : List Loc), Wd D tc A s H1 locs1 (ws.set q1 (a, .inl (tc 0, n1, .inl (va_cpy f g sp.toNatClampNeg dp.toNatClampNeg n.toNatClampNeg)))) → W p l e R s m args below meth c H1 locs1 cells slots Q (F0 m (pc + 3) ls rest)) : W p l e R s m args below meth c H locs cells slots Q (F0 m pc ls (.int n :: .int dp :: .ref a :: .int sp :: .ref a0 :: rest)) :=
  va_copyi hx hb hml hown (hts _ hlink) (hts _ hnat) (hts _ hstat) (hts _ hini) V.1 V.2.1 V.2.2.1 V.2.2.2.1 q0 q1 0 0 ha0 ha1 rfl rfl rfl h1 h2 h3 h4 h5 (fun _ _ => rfl) hframes hlocals hdg (fun H1 l1 a1 a2 a3 => kk H1 l1 ⟨V.1, a1, a2, a3, V.2.2.2.2⟩)
theorem x_aast (hx : p.tables.exec = Jvm.exec) (hb : c.code = cc) (V : Wd D tc A s H locs ws) (q0 t0 qk ci : Nat) {cA : ClassId} {r : vw_C} {n v : Nat} {vs : List Value} {f : Nat → Option Nat} (ha : ws[q0]? = some (a, .inl (cA, n, .inr (.inr (.inr (.inr f)))))) (ht : (tys tc)[t0]? = some (cA, .object r.1)) (hv : ws[qk]? = some (v, .inr (ci, vs))) (hc : vwCl[ci]? = some r) {i : Int32} (hin : vp_in i n) (hdg : decode cc pc = .ok (.aastore, 1))
    (kk : ∀ (H1 : Heap) (locs1 : List Loc), Wd D tc A s H1 locs1 (ws.set q0 (a, .inl (cA, n, .inr (.inr (.inr (.inr (va_up f i.toNatClampNeg (some v)))))))) → W p l e R s m args below meth c H1 locs1 cells slots Q (F0 m (pc + 1) ls rest)) : W p l e R s m args below meth c H locs cells slots Q (F0 m pc ls (.ref v :: .int i :: .ref a :: rest)) :=
  va_astq hx hb V.1 V.2.1 V.2.2.1 V.2.2.2.1 q0 t0 qk ci ha ht hv hc hin hdg (fun H1 l1 a1 a2 a3 => kk H1 l1 ⟨V.1, a1, a2, a3, V.2.2.2.2⟩)
theorem x_newq2 (hx : p.tables.exec = Jvm.exec) (hb : c.code = cc) (hts : ∀ w ∈ lw_g, w.before args s = true) (hown : s.vm.findClass own = some m.cls) {index : Nat} (hcl : Cond.classLink own index "HistoryCourt$History" ∈ lw_g) (hao : va_AO "HistoryCourt$History" s) (V : Wd D tc A s H locs ws) {n : Int32} {N : Nat} (hn : ¬ n < 0) (hN : n.toNatClampNeg = N) (hbytes : N * 4 ≤ 536870912) (hcells : cells + 1 ≤ R.cells) (hslots : slots + N ≤ R.slots) (hdg : decode cc pc = .ok (.anewarray index, 3))
    (kk : ∀ (q : Nat) (H1 : Heap), Wd D tc A s H1 locs (ws ++ [(q, .inl (tc 2, N, .inr (.inr (.inr (.inr (fun _ => none))))))]) → W p l e R s m args below meth c H1 locs (cells + 1) (slots + N) Q (F0 m (pc + 3) ls (.ref q :: rest))) : W p l e R s m args below meth c H locs cells slots Q (F0 m pc ls (.int n :: rest)) :=
  va_newq hx hb hown (hts _ hcl) hao V.1 V.2.1 V.2.2.1 V.2.2.2.1 V.2.2.2.2 hn hN hbytes hcells hslots hdg (fun q cA H1 k1 p1 d1 s1 => by
    obtain ⟨_, _, _, _, _, e0⟩ := (V.1.2 2 (tc 2, .object "HistoryCourt$History") rfl).2
    obtain ⟨_, _, _, _, _, e1⟩ := (k1.2 4 (cA, .object "HistoryCourt$History") rfl).2
    have e2 : cA = tc 2 := Option.some.inj (e1.symm.trans e0)
    subst e2
    exact kk q H1 ⟨V.1, p1, d1, s1, V.2.2.2.2⟩)
theorem x_newq3 (hx : p.tables.exec = Jvm.exec) (hb : c.code = cc) (hts : ∀ w ∈ lw_g, w.before args s = true) (hown : s.vm.findClass own = some m.cls) {index : Nat} (hcl : Cond.classLink own index "HistoryCourt$Table" ∈ lw_g) (hao : va_AO "HistoryCourt$Table" s) (V : Wd D tc A s H locs ws) {n : Int32} {N : Nat} (hn : ¬ n < 0) (hN : n.toNatClampNeg = N) (hbytes : N * 4 ≤ 536870912) (hcells : cells + 1 ≤ R.cells) (hslots : slots + N ≤ R.slots) (hdg : decode cc pc = .ok (.anewarray index, 3))
    (kk : ∀ (q : Nat) (H1 : Heap), Wd D tc A s H1 locs (ws ++ [(q, .inl (tc 3, N, .inr (.inr (.inr (.inr (fun _ => none))))))]) → W p l e R s m args below meth c H1 locs (cells + 1) (slots + N) Q (F0 m (pc + 3) ls (.ref q :: rest))) : W p l e R s m args below meth c H locs cells slots Q (F0 m pc ls (.int n :: rest)) :=
  va_newq hx hb hown (hts _ hcl) hao V.1 V.2.1 V.2.2.1 V.2.2.2.1 V.2.2.2.2 hn hN hbytes hcells hslots hdg (fun q cA H1 k1 p1 d1 s1 => by
    obtain ⟨_, _, _, _, _, e0⟩ := (V.1.2 3 (tc 3, .object "HistoryCourt$Table") rfl).2
    obtain ⟨_, _, _, _, _, e1⟩ := (k1.2 4 (cA, .object "HistoryCourt$Table") rfl).2
    have e2 : cA = tc 3 := Option.some.inj (e1.symm.trans e0)
    subst e2
    exact kk q H1 ⟨V.1, p1, d1, s1, V.2.2.2.2⟩)
theorem x_runI {y : MethodName} {bytes : ByteArray} {maxL fr mc ms lo n index : Nat} {wc : va_W} {RT : Option Value → va_W → Prop} {b : Nat} {As st0 : List Value} (X : Cx p s m args meth c cc nL own ret) (V : Wd D tc A s H locs ws) (isC : List Nat) (hC : isC.map (fun i => ws[i]?) = wc.map some) (hn : va_nd isC = true)
    (hM : MetG l D tc y bytes maxL none fr mc ms lo (.ref b :: As) wc RT) (h1 : Cond.methodLink own index y ∈ lw_g) (h2 : Cond.instanceMethod y ∈ lw_g) (h4 : Cond.initialized y.cls ∈ lw_g) (h5 : Cond.code y bytes maxL none ∈ lw_g) (hy1 : y.name = "<init>")
    (hd : y.cls ≠ "java/lang/invoke/MethodHandle" ∧ y.cls ≠ "java/lang/invoke/VarHandle" ∧ (parseMethodDescriptor y.desc).map (fun d => d.parameters.length) = some n) (hR : fr + 1 ≤ R.frames ∧ 8 + (maxL + 11) + lo ≤ R.locals) (hf : cells + mc ≤ R.cells ∧ slots + ms ≤ R.slots)
    (hlen : As.length = n) (hls : ls.size = nL) (hst : st0 = As.reverse ++ .ref b :: rest) (hroom : (rest.map fun v => v.category).sum ≤ 8) (hdg : decode cc pc = .ok (.invokespecial index, 3)) :
    va_Run p l e R s m args below meth c H locs cells slots mc ms (F0 m pc ls st0) rest (QcM D wc H.size none RT (Value.ref b :: As).toArray) (va_A wc H.size) := by
  obtain ⟨hx, hb, hr, hml, hown, hts, hlocks, hN⟩ := X
  subst hst
  exact va_runI (As := As) (rest := rest) ⟨hx, hb, hml, hown, hts⟩ (hM H.size) ⟨callB_of n hts (x_good h5) rfl rfl rfl (hts _ h4) (hts _ h1) hd hR, hy1, hts _ h2⟩ ⟨PreM.blind _ _ _ _ _, x_pre V hN isC hC hn⟩ rfl hlen hls rfl (lv_room hroom) hdg hf
theorem x_runIN {y : MethodName} {bytes : ByteArray} {maxL fr mc ms lo n index : Nat} {wc : va_W} {RT : Option Value → va_W → Prop} {b : Nat} {As st0 : List Value} {host : String} (X : Cx p s m args meth c cc nL own ret) (V : Wd D tc A s H locs ws) (isC : List Nat) (hC : isC.map (fun i => ws[i]?) = wc.map some) (hn : va_nd isC = true)
    (hM : MetG l D tc y bytes maxL none fr mc ms lo (.ref b :: As) wc RT) (h1 : va_Nw (Cond.methodLinkNest own index y host) s) (h2 : Cond.instanceMethod y ∈ lw_g) (h4 : Cond.initialized y.cls ∈ lw_g) (h5 : Cond.code y bytes maxL none ∈ lw_g) (hy1 : y.name = "<init>")
    (hd : y.cls ≠ "java/lang/invoke/MethodHandle" ∧ y.cls ≠ "java/lang/invoke/VarHandle" ∧ (parseMethodDescriptor y.desc).map (fun d => d.parameters.length) = some n) (hR : fr + 1 ≤ R.frames ∧ 8 + (maxL + 11) + lo ≤ R.locals) (hf : cells + mc ≤ R.cells ∧ slots + ms ≤ R.slots)
    (hlen : As.length = n) (hls : ls.size = nL) (hst : st0 = As.reverse ++ .ref b :: rest) (hroom : (rest.map fun v => v.category).sum ≤ 8) (hdg : decode cc pc = .ok (.invokespecial index, 3)) :
    va_Run p l e R s m args below meth c H locs cells slots mc ms (F0 m pc ls st0) rest (QcM D wc H.size none RT (Value.ref b :: As).toArray) (va_A wc H.size) := by
  obtain ⟨hx, hb, hr, hml, hown, hts, hlocks, hN⟩ := X
  subst hst
  exact va_runIN (As := As) (rest := rest) ⟨hx, hb, hml, hown, hts⟩ (hM H.size) ⟨va_cnB n hts (x_good h5) rfl rfl rfl h1 (hts _ h4) hd hR, hy1, hts _ h2⟩ ⟨PreM.blind _ _ _ _ _, x_pre V hN isC hC hn⟩ rfl hlen hls rfl (lv_room hroom) hdg hf
end KIT4
theorem pm_tail {D : va_G} {tc : Nat → ClassId} {A : Nat → Prop} {s : State} {H : Heap} {locs : List Loc} {a b tl : va_W} (V : Wd D tc A s H locs ((a ++ tl) ++ b)) : Wd D tc A s H locs ((a ++ b) ++ tl) := V.perm (by
  rw [List.append_assoc, List.append_assoc]
  exact List.Perm.append_left a List.perm_append_comm)
theorem Wd.dropm {D : va_G} {tc : Nat → ClassId} {A : Nat → Prop} {s : State} {H : Heap} {locs : List Loc} {a b tl : va_W} (V : Wd D tc A s H locs (a ++ (b ++ tl))) : Wd D tc A s H locs (a ++ tl) := by
  have hs : (a ++ tl).Sublist (a ++ (b ++ tl)) := List.Sublist.append_left (List.sublist_append_right b tl) a
  obtain ⟨h1, h2⟩ := va_D_nd.mp V.2.2.1
  exact ⟨V.1, va_P_mem.mpr (fun q hq => va_P_mem.mp V.2.1 q (hs.subset hq)), va_D_nd.mpr ⟨h1.sublist (hs.map _), fun q hq => h2 q (hs.subset hq)⟩, V.2.2.2.1, V.2.2.2.2⟩
/-- a contract that asks something more of its start -/
def MetE (l : Launch) (D : va_G) (tc : Nat → ClassId) (y : MethodName) (cc : ByteArray) (maxL : Nat) (ret : Option FieldType) (fr mc ms lo : Nat) (av : List Value) (ws : va_W) (Ex : Nat → State → Prop) (RT : Option Value → va_W → Prop) : Prop :=
  ∀ sz : Nat, Met l y (Cond.code y cc maxL ret :: lw_g) (rmz fr mc ms lo) (va_Pc av (fun U => PreM D tc ws sz U ∧ Ex sz U)) (QcM D ws sz ret RT) mc ms (va_A ws sz)
theorem x_entE {l : Launch} {D : va_G} {tc : Nat → ClassId} {cc : ByteArray} {own : String} {ret : Option FieldType} {ws : va_W} {y : MethodName} {maxL fr mc ms lo : Nat} {av : List Value} {Ex : Nat → State → Prop} {RT : Option Value → va_W → Prop} (hy : plainName y.cls = true) (ho : y.cls = own) (hlen : (lg_sl av).length ≤ maxL)
    (body : ∀ (p : Program) (e : Env) (s : State) (m : MethodId) (args : Array Value) (below : List Frame) (meth : Method) (c : Code) (A : Nat → Prop) (sz : Nat) (ls : Array Slot), A = va_A ws sz → sz = s.heap.size → Ex sz s → (own = y.cls → (y.name = "<init>" → meth.name = "<init>")) →
      Cx p s m args meth c cc maxL own ret → Wd D tc A s s.heap [] ws → lv_has ls maxL (lv_args 0 av) →
      W p l e (rmz fr mc ms lo) s m args below meth c s.heap [] 0 0 (MQ below (QcM D ws sz ret RT) args s mc ms A) (F0 m 0 ls [])) :
    MetE l D tc y cc maxL ret fr mc ms lo av ws Ex RT := by
  intro sz
  refine Met.ofW (cc := cc) (maxL := maxL) (ret := ret) hy rfl ?_
  intro p e s m args below meth c s₁ B hml hv
  obtain ⟨rfl, ⟨hsz, hP, hK, hD0, hN⟩, hE⟩ := hv
  have hts := atoms_spec (ws := Cond.code y cc maxL ret :: lw_g) B.pre
  have hown : s.vm.findClass y.cls = some m.cls := findClass_of_methodNamed B.named
  have hl := lv_entry av (n := maxL) hlen
  rw [lg_entry_eq]
  subst ho
  exact body p e s m av.toArray below meth c (va_A ws sz) sz _ rfl hsz.symm hE (fun _ h => by rw [← h]; exact (name_of_methodNamed B.named B.method).1) ⟨B.exec, B.bytes, B.returns, hml, hown, fun w hw => hts w (List.mem_cons_of_mem _ hw), B.notSynchronized, hN⟩
    ⟨hK, hP, hD0.self, va_S.rf, fun q h => Or.inr (by rw [← hsz]; exact h)⟩ hl
/-- the objects of the court: the search with what is its own, a history with its rows -/
def Gw (tc : Nat → ClassId) (ad : Nat → Nat) (sh : Nat) (u : St) : va_W := [(ad 0, .inr (3, [.ref sh, .int (u.1 11), .int (u.1 12), .ref (ad 1), .int (u.1 14), .ref (ad 2)])), (ad 1, .inl (tc 0, 10, .inl (u.2.1 13))), (ad 2, .inr (2, [.ref (ad 3), .ref (ad 4), .ref (ad 5), .int (u.1 23)])), (ad 3, .inl (tc 1, 1024, .inr (.inl (u.2.2 20)))), (ad 4, .inl (tc 1, 1024, .inr (.inl (u.2.2 21)))), (ad 5, .inl (tc 0, 1024, .inl (u.2.1 22))), (ad 14, .inr (0, [.ref (ad 15), .int (u.1 30)])), (ad 15, .inl (tc 0, 64, .inl (u.2.1 31))), (ad 16, .inl (tc 0, 10, .inl (u.2.1 32)))]
def Hw (tc : Nat → ClassId) (ha : Nat → Nat) (tv : Value) (u : St) : va_W := [(ha 6, .inr (1, [.int (u.1 0), tv, .int (u.1 2), .int (u.1 3), .ref (ha 7), .ref (ha 8), .ref (ha 9), .ref (ha 10), .ref (ha 11), .ref (ha 12), .ref (ha 13)])), (ha 7, .inl (tc 0, 10, .inl (u.2.1 4))), (ha 8, .inl (tc 0, 10, .inl (u.2.1 5))), (ha 9, .inl (tc 0, 10, .inl (u.2.1 6))), (ha 10, .inl (tc 0, 10, .inl (u.2.1 7))), (ha 11, .inl (tc 0, 10, .inl (u.2.1 8))), (ha 12, .inl (tc 0, 10, .inl (u.2.1 9))), (ha 13, .inl (tc 0, 10, .inl (u.2.1 10)))]
/-- nothing yet -/
def St0 : St := (fun _ => 0, fun _ _ => 0, fun _ _ => 0)
set_option maxHeartbeats 4000000 in
set_option maxRecDepth 100000 in
theorem kc_X0_init (l : Launch) (D : va_G) (tc : Nat → ClassId) (o : Nat) : MetG l D tc yX0_init cX0_init 1 none 1 1 64 12 [.ref o] ([(o, .inr (0, [.null, .int 0]))]) (fun v w => v = none ∧ ∃ (q1 : Nat), w = [(o, .inr (0, [.ref q1, .int 0])), (q1, .inl (tc 0, 64, .inl (fun _ => 0)))]) :=
  x_ent (by decide) (own := RX0) rfl (Nat.le_of_ble_eq_true rfl) (fun p e s m args below meth c A sz ls hA _ hin C V hl => by
  obtain ⟨hx, hb, hr, hml, hown, hts, hlk, hN⟩ := id C
  replace hin := hin rfl
  try replace hin := hin rfl
  have hl : lv_has ls 1 [(0, .ref o)] := hl
  generalize s.heap = H at V ⊢
  generalize ([] : List Loc) = locs at V ⊢
  refine lv_aload_n hx hb dX0_init_0 rfl (lv_at hl 0 rfl) ?_
  refine W.objInit hx hb hown (hts _ tw_130) (hts _ tw_18) (hts _ tw_19) rfl (by rw [hml]; exact hl.1) rfl dX0_init_1 (Nat.le_of_ble_eq_true rfl) (Nat.le_of_ble_eq_true rfl) ?_
  refine W.eq (g2 := F0 m 4 ls []) rfl ?_
  refine lv_aload_n hx hb dX0_init_4 rfl (lv_at hl 0 rfl) ?_
  refine lv_bipush (v := 64) hx hb dX0_init_5 (by decide) ?_
  refine x_newI (N := 64) hx hb hts V (by decide) (by decide) (by decide) (Nat.le_of_ble_eq_true rfl) (Nat.le_of_ble_eq_true rfl) dX0_init_7 (fun q1 H V => ?_)
  replace V : Wd D tc A s H locs ([(o, .inr (0, [.null, .int 0])), (q1, .inl (tc 0, 64, .inl (fun _ => 0)))]) := V
  refine x_putF hx hb hts hown V inX0 tyX0_ok nmX0 0 rfl rfl 0 (by decide) tw_131 rfl rfl hin rfl rfl rfl (Nat.le_of_ble_eq_true rfl) dX0_init_9 (fun H locs V => ?_)
  replace V : Wd D tc A s H locs ([(o, .inr (0, [.ref q1, .int 0])), (q1, .inl (tc 0, 64, .inl (fun _ => 0)))]) := V
  exact x_vreti (RT := _) (Nat.le_of_ble_eq_true rfl) (Nat.le_of_ble_eq_true rfl) C hA ⟨rfl, q1, rfl⟩ V dX0_init_12)

set_option maxHeartbeats 4000000 in
set_option maxRecDepth 100000 in
theorem kc_X2_init (l : Launch) (D : va_G) (tc : Nat → ClassId) (o : Nat) : MetG l D tc yX2_init cX2_init 1 none 1 3 3072 12 [.ref o] ([(o, .inr (2, [.null, .null, .null, .int 0]))]) (fun v w => v = none ∧ ∃ (q1 q2 q3 : Nat), w = [(o, .inr (2, [.ref q1, .ref q2, .ref q3, .int 0])), (q1, .inl (tc 1, 1024, .inr (.inl (fun _ => 0)))), (q2, .inl (tc 1, 1024, .inr (.inl (fun _ => 0)))), (q3, .inl (tc 0, 1024, .inl (fun _ => 0)))]) :=
  x_ent (by decide) (own := RX2) rfl (Nat.le_of_ble_eq_true rfl) (fun p e s m args below meth c A sz ls hA _ hin C V hl => by
  obtain ⟨hx, hb, hr, hml, hown, hts, hlk, hN⟩ := id C
  replace hin := hin rfl
  try replace hin := hin rfl
  have hl : lv_has ls 1 [(0, .ref o)] := hl
  generalize s.heap = H at V ⊢
  generalize ([] : List Loc) = locs at V ⊢
  refine lv_aload_n hx hb dX2_init_0 rfl (lv_at hl 0 rfl) ?_
  refine W.objInit hx hb hown (hts _ tw_91) (hts _ tw_18) (hts _ tw_19) rfl (by rw [hml]; exact hl.1) rfl dX2_init_1 (Nat.le_of_ble_eq_true rfl) (Nat.le_of_ble_eq_true rfl) ?_
  refine W.eq (g2 := F0 m 4 ls []) rfl ?_
  refine lv_aload_n hx hb dX2_init_4 rfl (lv_at hl 0 rfl) ?_
  refine lv_sipush (v := 1024) hx hb dX2_init_5 (by decide) ?_
  refine x_newJ (N := 1024) hx hb hts V (by decide) (by decide) (by decide) (Nat.le_of_ble_eq_true rfl) (Nat.le_of_ble_eq_true rfl) dX2_init_8 (fun q1 H V => ?_)
  replace V : Wd D tc A s H locs ([(o, .inr (2, [.null, .null, .null, .int 0])), (q1, .inl (tc 1, 1024, .inr (.inl (fun _ => 0))))]) := V
  refine x_putF hx hb hts hown V inX2 tyX2_ok nmX2 0 rfl rfl 0 (by decide) tw_92 rfl rfl hin rfl rfl rfl (Nat.le_of_ble_eq_true rfl) dX2_init_10 (fun H locs V => ?_)
  replace V : Wd D tc A s H locs ([(o, .inr (2, [.ref q1, .null, .null, .int 0])), (q1, .inl (tc 1, 1024, .inr (.inl (fun _ => 0))))]) := V
  refine lv_aload_n hx hb dX2_init_13 rfl (lv_at hl 0 rfl) ?_
  refine lv_sipush (v := 1024) hx hb dX2_init_14 (by decide) ?_
  refine x_newJ (N := 1024) hx hb hts V (by decide) (by decide) (by decide) (Nat.le_of_ble_eq_true rfl) (Nat.le_of_ble_eq_true rfl) dX2_init_17 (fun q2 H V => ?_)
  replace V : Wd D tc A s H locs ([(o, .inr (2, [.ref q1, .null, .null, .int 0])), (q1, .inl (tc 1, 1024, .inr (.inl (fun _ => 0)))), (q2, .inl (tc 1, 1024, .inr (.inl (fun _ => 0))))]) := V
  refine x_putF hx hb hts hown V inX2 tyX2_ok nmX2 0 rfl rfl 1 (by decide) tw_93 rfl rfl hin rfl rfl rfl (Nat.le_of_ble_eq_true rfl) dX2_init_19 (fun H locs V => ?_)
  replace V : Wd D tc A s H locs ([(o, .inr (2, [.ref q1, .ref q2, .null, .int 0])), (q1, .inl (tc 1, 1024, .inr (.inl (fun _ => 0)))), (q2, .inl (tc 1, 1024, .inr (.inl (fun _ => 0))))]) := V
  refine lv_aload_n hx hb dX2_init_22 rfl (lv_at hl 0 rfl) ?_
  refine lv_sipush (v := 1024) hx hb dX2_init_23 (by decide) ?_
  refine x_newI (N := 1024) hx hb hts V (by decide) (by decide) (by decide) (Nat.le_of_ble_eq_true rfl) (Nat.le_of_ble_eq_true rfl) dX2_init_26 (fun q3 H V => ?_)
  replace V : Wd D tc A s H locs ([(o, .inr (2, [.ref q1, .ref q2, .null, .int 0])), (q1, .inl (tc 1, 1024, .inr (.inl (fun _ => 0)))), (q2, .inl (tc 1, 1024, .inr (.inl (fun _ => 0)))), (q3, .inl (tc 0, 1024, .inl (fun _ => 0)))]) := V
  refine x_putF hx hb hts hown V inX2 tyX2_ok nmX2 0 rfl rfl 2 (by decide) tw_94 rfl rfl hin rfl rfl rfl (Nat.le_of_ble_eq_true rfl) dX2_init_28 (fun H locs V => ?_)
  replace V : Wd D tc A s H locs ([(o, .inr (2, [.ref q1, .ref q2, .ref q3, .int 0])), (q1, .inl (tc 1, 1024, .inr (.inl (fun _ => 0)))), (q2, .inl (tc 1, 1024, .inr (.inl (fun _ => 0)))), (q3, .inl (tc 0, 1024, .inl (fun _ => 0)))]) := V
  exact x_vreti (RT := _) (Nat.le_of_ble_eq_true rfl) (Nat.le_of_ble_eq_true rfl) C hA ⟨rfl, q1, q2, q3, rfl⟩ V dX2_init_31)

set_option maxHeartbeats 4000000 in
set_option maxRecDepth 100000 in
theorem kc_X5_init (l : Launch) (D : va_G) (tc : Nat → ClassId) (o : Nat) : MetG l D tc yX5_init cX5_init 1 none 1 2 64 12 [.ref o] ([(o, .inr (4, [.null, .null, .int 0]))]) (fun v w => v = none ∧ ∃ (q1 q2 : Nat), w = [(o, .inr (4, [.ref q1, .ref q2, .int 0])), (q1, .inl (tc 0, 32, .inl (fun _ => 0))), (q2, .inl (tc 0, 32, .inl (fun _ => 0)))]) :=
  x_ent (by decide) (own := RX5) rfl (Nat.le_of_ble_eq_true rfl) (fun p e s m args below meth c A sz ls hA _ hin C V hl => by
  obtain ⟨hx, hb, hr, hml, hown, hts, hlk, hN⟩ := id C
  replace hin := hin rfl
  try replace hin := hin rfl
  have hl : lv_has ls 1 [(0, .ref o)] := hl
  generalize s.heap = H at V ⊢
  generalize ([] : List Loc) = locs at V ⊢
  refine lv_aload_n hx hb dX5_init_0 rfl (lv_at hl 0 rfl) ?_
  refine W.objInit hx hb hown (hts _ tw_180) (hts _ tw_18) (hts _ tw_19) rfl (by rw [hml]; exact hl.1) rfl dX5_init_1 (Nat.le_of_ble_eq_true rfl) (Nat.le_of_ble_eq_true rfl) ?_
  refine W.eq (g2 := F0 m 4 ls []) rfl ?_
  refine lv_aload_n hx hb dX5_init_4 rfl (lv_at hl 0 rfl) ?_
  refine lv_bipush (v := 32) hx hb dX5_init_5 (by decide) ?_
  refine x_newI (N := 32) hx hb hts V (by decide) (by decide) (by decide) (Nat.le_of_ble_eq_true rfl) (Nat.le_of_ble_eq_true rfl) dX5_init_7 (fun q1 H V => ?_)
  replace V : Wd D tc A s H locs ([(o, .inr (4, [.null, .null, .int 0])), (q1, .inl (tc 0, 32, .inl (fun _ => 0)))]) := V
  refine x_putF hx hb hts hown V inX5 tyX5_ok nmX5 0 rfl rfl 0 (by decide) tw_181 rfl rfl hin rfl rfl rfl (Nat.le_of_ble_eq_true rfl) dX5_init_9 (fun H locs V => ?_)
  replace V : Wd D tc A s H locs ([(o, .inr (4, [.ref q1, .null, .int 0])), (q1, .inl (tc 0, 32, .inl (fun _ => 0)))]) := V
  refine lv_aload_n hx hb dX5_init_12 rfl (lv_at hl 0 rfl) ?_
  refine lv_bipush (v := 32) hx hb dX5_init_13 (by decide) ?_
  refine x_newI (N := 32) hx hb hts V (by decide) (by decide) (by decide) (Nat.le_of_ble_eq_true rfl) (Nat.le_of_ble_eq_true rfl) dX5_init_15 (fun q2 H V => ?_)
  replace V : Wd D tc A s H locs ([(o, .inr (4, [.ref q1, .null, .int 0])), (q1, .inl (tc 0, 32, .inl (fun _ => 0))), (q2, .inl (tc 0, 32, .inl (fun _ => 0)))]) := V
  refine x_putF hx hb hts hown V inX5 tyX5_ok nmX5 0 rfl rfl 1 (by decide) tw_182 rfl rfl hin rfl rfl rfl (Nat.le_of_ble_eq_true rfl) dX5_init_17 (fun H locs V => ?_)
  replace V : Wd D tc A s H locs ([(o, .inr (4, [.ref q1, .ref q2, .int 0])), (q1, .inl (tc 0, 32, .inl (fun _ => 0))), (q2, .inl (tc 0, 32, .inl (fun _ => 0)))]) := V
  exact x_vreti (RT := _) (Nat.le_of_ble_eq_true rfl) (Nat.le_of_ble_eq_true rfl) C hA ⟨rfl, q1, q2, rfl⟩ V dX5_init_20)

set_option maxHeartbeats 4000000 in
set_option maxRecDepth 100000 in
theorem kc_X1_init_N (l : Launch) (D : va_G) (tc : Nat → ClassId) (o : Nat) (kd : Int32) : MetG l D tc yX1_init cX1_init 3 none 1 7 70 12 [.ref o, .int kd, .null] ([(o, .inr (1, [.int 0, .null, .int 0, .int 0, .null, .null, .null, .null, .null, .null, .null]))]) (fun v w => v = none ∧ ∃ ha : Nat → Nat, w = Hw tc ha (.null) (sI St0 0 kd) ∧ ha 6 = o) :=
  x_ent (by decide) (own := RX1) rfl (Nat.le_of_ble_eq_true rfl) (fun p e s m args below meth c A sz ls hA _ hin C V hl => by
  obtain ⟨hx, hb, hr, hml, hown, hts, hlk, hN⟩ := id C
  replace hin := hin rfl
  try replace hin := hin rfl
  have hl : lv_has ls 3 [(0, .ref o), (1, .int kd), (2, .null)] := hl
  generalize s.heap = H at V ⊢
  generalize ([] : List Loc) = locs at V ⊢
  refine lv_aload_n hx hb dX1_init_0 rfl (lv_at hl 0 rfl) ?_
  refine W.objInit hx hb hown (hts _ tw_35) (hts _ tw_18) (hts _ tw_19) rfl (by rw [hml]; exact hl.1) rfl dX1_init_1 (Nat.le_of_ble_eq_true rfl) (Nat.le_of_ble_eq_true rfl) ?_
  refine W.eq (g2 := F0 m 4 ls []) rfl ?_
  refine lv_aload_n hx hb dX1_init_4 rfl (lv_at hl 0 rfl) ?_
  refine lv_bipush (v := 10) hx hb dX1_init_5 (by decide) ?_
  refine x_newI (N := 10) hx hb hts V (by decide) (by decide) (by decide) (Nat.le_of_ble_eq_true rfl) (Nat.le_of_ble_eq_true rfl) dX1_init_7 (fun q1 H V => ?_)
  replace V : Wd D tc A s H locs ([(o, .inr (1, [.int 0, .null, .int 0, .int 0, .null, .null, .null, .null, .null, .null, .null])), (q1, .inl (tc 0, 10, .inl (fun _ => 0)))]) := V
  refine x_putF hx hb hts hown V inX1 tyX1_ok nmX1 0 rfl rfl 4 (by decide) tw_46 rfl rfl hin rfl rfl rfl (Nat.le_of_ble_eq_true rfl) dX1_init_9 (fun H locs V => ?_)
  replace V : Wd D tc A s H locs ([(o, .inr (1, [.int 0, .null, .int 0, .int 0, .ref q1, .null, .null, .null, .null, .null, .null])), (q1, .inl (tc 0, 10, .inl (fun _ => 0)))]) := V
  refine lv_aload_n hx hb dX1_init_12 rfl (lv_at hl 0 rfl) ?_
  refine lv_bipush (v := 10) hx hb dX1_init_13 (by decide) ?_
  refine x_newI (N := 10) hx hb hts V (by decide) (by decide) (by decide) (Nat.le_of_ble_eq_true rfl) (Nat.le_of_ble_eq_true rfl) dX1_init_15 (fun q2 H V => ?_)
  replace V : Wd D tc A s H locs ([(o, .inr (1, [.int 0, .null, .int 0, .int 0, .ref q1, .null, .null, .null, .null, .null, .null])), (q1, .inl (tc 0, 10, .inl (fun _ => 0))), (q2, .inl (tc 0, 10, .inl (fun _ => 0)))]) := V
  refine x_putF hx hb hts hown V inX1 tyX1_ok nmX1 0 rfl rfl 5 (by decide) tw_48 rfl rfl hin rfl rfl rfl (Nat.le_of_ble_eq_true rfl) dX1_init_17 (fun H locs V => ?_)
  replace V : Wd D tc A s H locs ([(o, .inr (1, [.int 0, .null, .int 0, .int 0, .ref q1, .ref q2, .null, .null, .null, .null, .null])), (q1, .inl (tc 0, 10, .inl (fun _ => 0))), (q2, .inl (tc 0, 10, .inl (fun _ => 0)))]) := V
  refine lv_aload_n hx hb dX1_init_20 rfl (lv_at hl 0 rfl) ?_
  refine lv_bipush (v := 10) hx hb dX1_init_21 (by decide) ?_
  refine x_newI (N := 10) hx hb hts V (by decide) (by decide) (by decide) (Nat.le_of_ble_eq_true rfl) (Nat.le_of_ble_eq_true rfl) dX1_init_23 (fun q3 H V => ?_)
  replace V : Wd D tc A s H locs ([(o, .inr (1, [.int 0, .null, .int 0, .int 0, .ref q1, .ref q2, .null, .null, .null, .null, .null])), (q1, .inl (tc 0, 10, .inl (fun _ => 0))), (q2, .inl (tc 0, 10, .inl (fun _ => 0))), (q3, .inl (tc 0, 10, .inl (fun _ => 0)))]) := V
  refine x_putF hx hb hts hown V inX1 tyX1_ok nmX1 0 rfl rfl 6 (by decide) tw_51 rfl rfl hin rfl rfl rfl (Nat.le_of_ble_eq_true rfl) dX1_init_25 (fun H locs V => ?_)
  replace V : Wd D tc A s H locs ([(o, .inr (1, [.int 0, .null, .int 0, .int 0, .ref q1, .ref q2, .ref q3, .null, .null, .null, .null])), (q1, .inl (tc 0, 10, .inl (fun _ => 0))), (q2, .inl (tc 0, 10, .inl (fun _ => 0))), (q3, .inl (tc 0, 10, .inl (fun _ => 0)))]) := V
  refine lv_aload_n hx hb dX1_init_28 rfl (lv_at hl 0 rfl) ?_
  refine lv_bipush (v := 10) hx hb dX1_init_29 (by decide) ?_
  refine x_newI (N := 10) hx hb hts V (by decide) (by decide) (by decide) (Nat.le_of_ble_eq_true rfl) (Nat.le_of_ble_eq_true rfl) dX1_init_31 (fun q4 H V => ?_)
  replace V : Wd D tc A s H locs ([(o, .inr (1, [.int 0, .null, .int 0, .int 0, .ref q1, .ref q2, .ref q3, .null, .null, .null, .null])), (q1, .inl (tc 0, 10, .inl (fun _ => 0))), (q2, .inl (tc 0, 10, .inl (fun _ => 0))), (q3, .inl (tc 0, 10, .inl (fun _ => 0))), (q4, .inl (tc 0, 10, .inl (fun _ => 0)))]) := V
  refine x_putF hx hb hts hown V inX1 tyX1_ok nmX1 0 rfl rfl 7 (by decide) tw_53 rfl rfl hin rfl rfl rfl (Nat.le_of_ble_eq_true rfl) dX1_init_33 (fun H locs V => ?_)
  replace V : Wd D tc A s H locs ([(o, .inr (1, [.int 0, .null, .int 0, .int 0, .ref q1, .ref q2, .ref q3, .ref q4, .null, .null, .null])), (q1, .inl (tc 0, 10, .inl (fun _ => 0))), (q2, .inl (tc 0, 10, .inl (fun _ => 0))), (q3, .inl (tc 0, 10, .inl (fun _ => 0))), (q4, .inl (tc 0, 10, .inl (fun _ => 0)))]) := V
  refine lv_aload_n hx hb dX1_init_36 rfl (lv_at hl 0 rfl) ?_
  refine lv_bipush (v := 10) hx hb dX1_init_37 (by decide) ?_
  refine x_newI (N := 10) hx hb hts V (by decide) (by decide) (by decide) (Nat.le_of_ble_eq_true rfl) (Nat.le_of_ble_eq_true rfl) dX1_init_39 (fun q5 H V => ?_)
  replace V : Wd D tc A s H locs ([(o, .inr (1, [.int 0, .null, .int 0, .int 0, .ref q1, .ref q2, .ref q3, .ref q4, .null, .null, .null])), (q1, .inl (tc 0, 10, .inl (fun _ => 0))), (q2, .inl (tc 0, 10, .inl (fun _ => 0))), (q3, .inl (tc 0, 10, .inl (fun _ => 0))), (q4, .inl (tc 0, 10, .inl (fun _ => 0))), (q5, .inl (tc 0, 10, .inl (fun _ => 0)))]) := V
  refine x_putF hx hb hts hown V inX1 tyX1_ok nmX1 0 rfl rfl 8 (by decide) tw_55 rfl rfl hin rfl rfl rfl (Nat.le_of_ble_eq_true rfl) dX1_init_41 (fun H locs V => ?_)
  replace V : Wd D tc A s H locs ([(o, .inr (1, [.int 0, .null, .int 0, .int 0, .ref q1, .ref q2, .ref q3, .ref q4, .ref q5, .null, .null])), (q1, .inl (tc 0, 10, .inl (fun _ => 0))), (q2, .inl (tc 0, 10, .inl (fun _ => 0))), (q3, .inl (tc 0, 10, .inl (fun _ => 0))), (q4, .inl (tc 0, 10, .inl (fun _ => 0))), (q5, .inl (tc 0, 10, .inl (fun _ => 0)))]) := V
  refine lv_aload_n hx hb dX1_init_44 rfl (lv_at hl 0 rfl) ?_
  refine lv_bipush (v := 10) hx hb dX1_init_45 (by decide) ?_
  refine x_newI (N := 10) hx hb hts V (by decide) (by decide) (by decide) (Nat.le_of_ble_eq_true rfl) (Nat.le_of_ble_eq_true rfl) dX1_init_47 (fun q6 H V => ?_)
  replace V : Wd D tc A s H locs ([(o, .inr (1, [.int 0, .null, .int 0, .int 0, .ref q1, .ref q2, .ref q3, .ref q4, .ref q5, .null, .null])), (q1, .inl (tc 0, 10, .inl (fun _ => 0))), (q2, .inl (tc 0, 10, .inl (fun _ => 0))), (q3, .inl (tc 0, 10, .inl (fun _ => 0))), (q4, .inl (tc 0, 10, .inl (fun _ => 0))), (q5, .inl (tc 0, 10, .inl (fun _ => 0))), (q6, .inl (tc 0, 10, .inl (fun _ => 0)))]) := V
  refine x_putF hx hb hts hown V inX1 tyX1_ok nmX1 0 rfl rfl 9 (by decide) tw_57 rfl rfl hin rfl rfl rfl (Nat.le_of_ble_eq_true rfl) dX1_init_49 (fun H locs V => ?_)
  replace V : Wd D tc A s H locs ([(o, .inr (1, [.int 0, .null, .int 0, .int 0, .ref q1, .ref q2, .ref q3, .ref q4, .ref q5, .ref q6, .null])), (q1, .inl (tc 0, 10, .inl (fun _ => 0))), (q2, .inl (tc 0, 10, .inl (fun _ => 0))), (q3, .inl (tc 0, 10, .inl (fun _ => 0))), (q4, .inl (tc 0, 10, .inl (fun _ => 0))), (q5, .inl (tc 0, 10, .inl (fun _ => 0))), (q6, .inl (tc 0, 10, .inl (fun _ => 0)))]) := V
  refine lv_aload_n hx hb dX1_init_52 rfl (lv_at hl 0 rfl) ?_
  refine lv_bipush (v := 10) hx hb dX1_init_53 (by decide) ?_
  refine x_newI (N := 10) hx hb hts V (by decide) (by decide) (by decide) (Nat.le_of_ble_eq_true rfl) (Nat.le_of_ble_eq_true rfl) dX1_init_55 (fun q7 H V => ?_)
  replace V : Wd D tc A s H locs ([(o, .inr (1, [.int 0, .null, .int 0, .int 0, .ref q1, .ref q2, .ref q3, .ref q4, .ref q5, .ref q6, .null])), (q1, .inl (tc 0, 10, .inl (fun _ => 0))), (q2, .inl (tc 0, 10, .inl (fun _ => 0))), (q3, .inl (tc 0, 10, .inl (fun _ => 0))), (q4, .inl (tc 0, 10, .inl (fun _ => 0))), (q5, .inl (tc 0, 10, .inl (fun _ => 0))), (q6, .inl (tc 0, 10, .inl (fun _ => 0))), (q7, .inl (tc 0, 10, .inl (fun _ => 0)))]) := V
  refine x_putF hx hb hts hown V inX1 tyX1_ok nmX1 0 rfl rfl 10 (by decide) tw_59 rfl rfl hin rfl rfl rfl (Nat.le_of_ble_eq_true rfl) dX1_init_57 (fun H locs V => ?_)
  replace V : Wd D tc A s H locs ([(o, .inr (1, [.int 0, .null, .int 0, .int 0, .ref q1, .ref q2, .ref q3, .ref q4, .ref q5, .ref q6, .ref q7])), (q1, .inl (tc 0, 10, .inl (fun _ => 0))), (q2, .inl (tc 0, 10, .inl (fun _ => 0))), (q3, .inl (tc 0, 10, .inl (fun _ => 0))), (q4, .inl (tc 0, 10, .inl (fun _ => 0))), (q5, .inl (tc 0, 10, .inl (fun _ => 0))), (q6, .inl (tc 0, 10, .inl (fun _ => 0))), (q7, .inl (tc 0, 10, .inl (fun _ => 0)))]) := V
  refine lv_aload_n hx hb dX1_init_60 rfl (lv_at hl 0 rfl) ?_
  refine lv_iload_n hx hb dX1_init_61 rfl (lv_at hl 1 rfl) ?_
  refine x_putF hx hb hts hown V inX1 tyX1_ok nmX1 0 rfl rfl 0 (by decide) tw_36 rfl rfl hin rfl rfl rfl (Nat.le_of_ble_eq_true rfl) dX1_init_62 (fun H locs V => ?_)
  replace V : Wd D tc A s H locs ([(o, .inr (1, [.int kd, .null, .int 0, .int 0, .ref q1, .ref q2, .ref q3, .ref q4, .ref q5, .ref q6, .ref q7])), (q1, .inl (tc 0, 10, .inl (fun _ => 0))), (q2, .inl (tc 0, 10, .inl (fun _ => 0))), (q3, .inl (tc 0, 10, .inl (fun _ => 0))), (q4, .inl (tc 0, 10, .inl (fun _ => 0))), (q5, .inl (tc 0, 10, .inl (fun _ => 0))), (q6, .inl (tc 0, 10, .inl (fun _ => 0))), (q7, .inl (tc 0, 10, .inl (fun _ => 0)))]) := V
  refine lv_aload_n hx hb dX1_init_65 rfl (lv_at hl 0 rfl) ?_
  refine lv_aload_nN hx hb dX1_init_66 rfl (lv_at hl 2 rfl) ?_
  refine x_putF hx hb hts hown V inX1 tyX1_ok nmX1 0 rfl rfl 1 (by decide) tw_39 rfl rfl hin rfl rfl rfl (Nat.le_of_ble_eq_true rfl) dX1_init_67 (fun H locs V => ?_)
  replace V : Wd D tc A s H locs ([(o, .inr (1, [.int kd, .null, .int 0, .int 0, .ref q1, .ref q2, .ref q3, .ref q4, .ref q5, .ref q6, .ref q7])), (q1, .inl (tc 0, 10, .inl (fun _ => 0))), (q2, .inl (tc 0, 10, .inl (fun _ => 0))), (q3, .inl (tc 0, 10, .inl (fun _ => 0))), (q4, .inl (tc 0, 10, .inl (fun _ => 0))), (q5, .inl (tc 0, 10, .inl (fun _ => 0))), (q6, .inl (tc 0, 10, .inl (fun _ => 0))), (q7, .inl (tc 0, 10, .inl (fun _ => 0)))]) := V
  exact x_vreti (RT := _) (Nat.le_of_ble_eq_true rfl) (Nat.le_of_ble_eq_true rfl) C hA ⟨rfl, (fun p => if p = 6 then o else if p = 7 then q1 else if p = 8 then q2 else if p = 9 then q3 else if p = 10 then q4 else if p = 11 then q5 else if p = 12 then q6 else q7), rfl, rfl⟩ V dX1_init_70)

set_option maxHeartbeats 4000000 in
set_option maxRecDepth 100000 in
theorem kc_X1_init_R (l : Launch) (D : va_G) (tc : Nat → ClassId) (o : Nat) (kd : Int32) (tb0 : Nat) : MetG l D tc yX1_init cX1_init 3 none 1 7 70 12 [.ref o, .int kd, .ref tb0] ([(o, .inr (1, [.int 0, .null, .int 0, .int 0, .null, .null, .null, .null, .null, .null, .null]))]) (fun v w => v = none ∧ ∃ ha : Nat → Nat, w = Hw tc ha (.ref tb0) (sI St0 0 kd) ∧ ha 6 = o) :=
  x_ent (by decide) (own := RX1) rfl (Nat.le_of_ble_eq_true rfl) (fun p e s m args below meth c A sz ls hA _ hin C V hl => by
  obtain ⟨hx, hb, hr, hml, hown, hts, hlk, hN⟩ := id C
  replace hin := hin rfl
  try replace hin := hin rfl
  have hl : lv_has ls 3 [(0, .ref o), (1, .int kd), (2, .ref tb0)] := hl
  generalize s.heap = H at V ⊢
  generalize ([] : List Loc) = locs at V ⊢
  refine lv_aload_n hx hb dX1_init_0 rfl (lv_at hl 0 rfl) ?_
  refine W.objInit hx hb hown (hts _ tw_35) (hts _ tw_18) (hts _ tw_19) rfl (by rw [hml]; exact hl.1) rfl dX1_init_1 (Nat.le_of_ble_eq_true rfl) (Nat.le_of_ble_eq_true rfl) ?_
  refine W.eq (g2 := F0 m 4 ls []) rfl ?_
  refine lv_aload_n hx hb dX1_init_4 rfl (lv_at hl 0 rfl) ?_
  refine lv_bipush (v := 10) hx hb dX1_init_5 (by decide) ?_
  refine x_newI (N := 10) hx hb hts V (by decide) (by decide) (by decide) (Nat.le_of_ble_eq_true rfl) (Nat.le_of_ble_eq_true rfl) dX1_init_7 (fun q1 H V => ?_)
  replace V : Wd D tc A s H locs ([(o, .inr (1, [.int 0, .null, .int 0, .int 0, .null, .null, .null, .null, .null, .null, .null])), (q1, .inl (tc 0, 10, .inl (fun _ => 0)))]) := V
  refine x_putF hx hb hts hown V inX1 tyX1_ok nmX1 0 rfl rfl 4 (by decide) tw_46 rfl rfl hin rfl rfl rfl (Nat.le_of_ble_eq_true rfl) dX1_init_9 (fun H locs V => ?_)
  replace V : Wd D tc A s H locs ([(o, .inr (1, [.int 0, .null, .int 0, .int 0, .ref q1, .null, .null, .null, .null, .null, .null])), (q1, .inl (tc 0, 10, .inl (fun _ => 0)))]) := V
  refine lv_aload_n hx hb dX1_init_12 rfl (lv_at hl 0 rfl) ?_
  refine lv_bipush (v := 10) hx hb dX1_init_13 (by decide) ?_
  refine x_newI (N := 10) hx hb hts V (by decide) (by decide) (by decide) (Nat.le_of_ble_eq_true rfl) (Nat.le_of_ble_eq_true rfl) dX1_init_15 (fun q2 H V => ?_)
  replace V : Wd D tc A s H locs ([(o, .inr (1, [.int 0, .null, .int 0, .int 0, .ref q1, .null, .null, .null, .null, .null, .null])), (q1, .inl (tc 0, 10, .inl (fun _ => 0))), (q2, .inl (tc 0, 10, .inl (fun _ => 0)))]) := V
  refine x_putF hx hb hts hown V inX1 tyX1_ok nmX1 0 rfl rfl 5 (by decide) tw_48 rfl rfl hin rfl rfl rfl (Nat.le_of_ble_eq_true rfl) dX1_init_17 (fun H locs V => ?_)
  replace V : Wd D tc A s H locs ([(o, .inr (1, [.int 0, .null, .int 0, .int 0, .ref q1, .ref q2, .null, .null, .null, .null, .null])), (q1, .inl (tc 0, 10, .inl (fun _ => 0))), (q2, .inl (tc 0, 10, .inl (fun _ => 0)))]) := V
  refine lv_aload_n hx hb dX1_init_20 rfl (lv_at hl 0 rfl) ?_
  refine lv_bipush (v := 10) hx hb dX1_init_21 (by decide) ?_
  refine x_newI (N := 10) hx hb hts V (by decide) (by decide) (by decide) (Nat.le_of_ble_eq_true rfl) (Nat.le_of_ble_eq_true rfl) dX1_init_23 (fun q3 H V => ?_)
  replace V : Wd D tc A s H locs ([(o, .inr (1, [.int 0, .null, .int 0, .int 0, .ref q1, .ref q2, .null, .null, .null, .null, .null])), (q1, .inl (tc 0, 10, .inl (fun _ => 0))), (q2, .inl (tc 0, 10, .inl (fun _ => 0))), (q3, .inl (tc 0, 10, .inl (fun _ => 0)))]) := V
  refine x_putF hx hb hts hown V inX1 tyX1_ok nmX1 0 rfl rfl 6 (by decide) tw_51 rfl rfl hin rfl rfl rfl (Nat.le_of_ble_eq_true rfl) dX1_init_25 (fun H locs V => ?_)
  replace V : Wd D tc A s H locs ([(o, .inr (1, [.int 0, .null, .int 0, .int 0, .ref q1, .ref q2, .ref q3, .null, .null, .null, .null])), (q1, .inl (tc 0, 10, .inl (fun _ => 0))), (q2, .inl (tc 0, 10, .inl (fun _ => 0))), (q3, .inl (tc 0, 10, .inl (fun _ => 0)))]) := V
  refine lv_aload_n hx hb dX1_init_28 rfl (lv_at hl 0 rfl) ?_
  refine lv_bipush (v := 10) hx hb dX1_init_29 (by decide) ?_
  refine x_newI (N := 10) hx hb hts V (by decide) (by decide) (by decide) (Nat.le_of_ble_eq_true rfl) (Nat.le_of_ble_eq_true rfl) dX1_init_31 (fun q4 H V => ?_)
  replace V : Wd D tc A s H locs ([(o, .inr (1, [.int 0, .null, .int 0, .int 0, .ref q1, .ref q2, .ref q3, .null, .null, .null, .null])), (q1, .inl (tc 0, 10, .inl (fun _ => 0))), (q2, .inl (tc 0, 10, .inl (fun _ => 0))), (q3, .inl (tc 0, 10, .inl (fun _ => 0))), (q4, .inl (tc 0, 10, .inl (fun _ => 0)))]) := V
  refine x_putF hx hb hts hown V inX1 tyX1_ok nmX1 0 rfl rfl 7 (by decide) tw_53 rfl rfl hin rfl rfl rfl (Nat.le_of_ble_eq_true rfl) dX1_init_33 (fun H locs V => ?_)
  replace V : Wd D tc A s H locs ([(o, .inr (1, [.int 0, .null, .int 0, .int 0, .ref q1, .ref q2, .ref q3, .ref q4, .null, .null, .null])), (q1, .inl (tc 0, 10, .inl (fun _ => 0))), (q2, .inl (tc 0, 10, .inl (fun _ => 0))), (q3, .inl (tc 0, 10, .inl (fun _ => 0))), (q4, .inl (tc 0, 10, .inl (fun _ => 0)))]) := V
  refine lv_aload_n hx hb dX1_init_36 rfl (lv_at hl 0 rfl) ?_
  refine lv_bipush (v := 10) hx hb dX1_init_37 (by decide) ?_
  refine x_newI (N := 10) hx hb hts V (by decide) (by decide) (by decide) (Nat.le_of_ble_eq_true rfl) (Nat.le_of_ble_eq_true rfl) dX1_init_39 (fun q5 H V => ?_)
  replace V : Wd D tc A s H locs ([(o, .inr (1, [.int 0, .null, .int 0, .int 0, .ref q1, .ref q2, .ref q3, .ref q4, .null, .null, .null])), (q1, .inl (tc 0, 10, .inl (fun _ => 0))), (q2, .inl (tc 0, 10, .inl (fun _ => 0))), (q3, .inl (tc 0, 10, .inl (fun _ => 0))), (q4, .inl (tc 0, 10, .inl (fun _ => 0))), (q5, .inl (tc 0, 10, .inl (fun _ => 0)))]) := V
  refine x_putF hx hb hts hown V inX1 tyX1_ok nmX1 0 rfl rfl 8 (by decide) tw_55 rfl rfl hin rfl rfl rfl (Nat.le_of_ble_eq_true rfl) dX1_init_41 (fun H locs V => ?_)
  replace V : Wd D tc A s H locs ([(o, .inr (1, [.int 0, .null, .int 0, .int 0, .ref q1, .ref q2, .ref q3, .ref q4, .ref q5, .null, .null])), (q1, .inl (tc 0, 10, .inl (fun _ => 0))), (q2, .inl (tc 0, 10, .inl (fun _ => 0))), (q3, .inl (tc 0, 10, .inl (fun _ => 0))), (q4, .inl (tc 0, 10, .inl (fun _ => 0))), (q5, .inl (tc 0, 10, .inl (fun _ => 0)))]) := V
  refine lv_aload_n hx hb dX1_init_44 rfl (lv_at hl 0 rfl) ?_
  refine lv_bipush (v := 10) hx hb dX1_init_45 (by decide) ?_
  refine x_newI (N := 10) hx hb hts V (by decide) (by decide) (by decide) (Nat.le_of_ble_eq_true rfl) (Nat.le_of_ble_eq_true rfl) dX1_init_47 (fun q6 H V => ?_)
  replace V : Wd D tc A s H locs ([(o, .inr (1, [.int 0, .null, .int 0, .int 0, .ref q1, .ref q2, .ref q3, .ref q4, .ref q5, .null, .null])), (q1, .inl (tc 0, 10, .inl (fun _ => 0))), (q2, .inl (tc 0, 10, .inl (fun _ => 0))), (q3, .inl (tc 0, 10, .inl (fun _ => 0))), (q4, .inl (tc 0, 10, .inl (fun _ => 0))), (q5, .inl (tc 0, 10, .inl (fun _ => 0))), (q6, .inl (tc 0, 10, .inl (fun _ => 0)))]) := V
  refine x_putF hx hb hts hown V inX1 tyX1_ok nmX1 0 rfl rfl 9 (by decide) tw_57 rfl rfl hin rfl rfl rfl (Nat.le_of_ble_eq_true rfl) dX1_init_49 (fun H locs V => ?_)
  replace V : Wd D tc A s H locs ([(o, .inr (1, [.int 0, .null, .int 0, .int 0, .ref q1, .ref q2, .ref q3, .ref q4, .ref q5, .ref q6, .null])), (q1, .inl (tc 0, 10, .inl (fun _ => 0))), (q2, .inl (tc 0, 10, .inl (fun _ => 0))), (q3, .inl (tc 0, 10, .inl (fun _ => 0))), (q4, .inl (tc 0, 10, .inl (fun _ => 0))), (q5, .inl (tc 0, 10, .inl (fun _ => 0))), (q6, .inl (tc 0, 10, .inl (fun _ => 0)))]) := V
  refine lv_aload_n hx hb dX1_init_52 rfl (lv_at hl 0 rfl) ?_
  refine lv_bipush (v := 10) hx hb dX1_init_53 (by decide) ?_
  refine x_newI (N := 10) hx hb hts V (by decide) (by decide) (by decide) (Nat.le_of_ble_eq_true rfl) (Nat.le_of_ble_eq_true rfl) dX1_init_55 (fun q7 H V => ?_)
  replace V : Wd D tc A s H locs ([(o, .inr (1, [.int 0, .null, .int 0, .int 0, .ref q1, .ref q2, .ref q3, .ref q4, .ref q5, .ref q6, .null])), (q1, .inl (tc 0, 10, .inl (fun _ => 0))), (q2, .inl (tc 0, 10, .inl (fun _ => 0))), (q3, .inl (tc 0, 10, .inl (fun _ => 0))), (q4, .inl (tc 0, 10, .inl (fun _ => 0))), (q5, .inl (tc 0, 10, .inl (fun _ => 0))), (q6, .inl (tc 0, 10, .inl (fun _ => 0))), (q7, .inl (tc 0, 10, .inl (fun _ => 0)))]) := V
  refine x_putF hx hb hts hown V inX1 tyX1_ok nmX1 0 rfl rfl 10 (by decide) tw_59 rfl rfl hin rfl rfl rfl (Nat.le_of_ble_eq_true rfl) dX1_init_57 (fun H locs V => ?_)
  replace V : Wd D tc A s H locs ([(o, .inr (1, [.int 0, .null, .int 0, .int 0, .ref q1, .ref q2, .ref q3, .ref q4, .ref q5, .ref q6, .ref q7])), (q1, .inl (tc 0, 10, .inl (fun _ => 0))), (q2, .inl (tc 0, 10, .inl (fun _ => 0))), (q3, .inl (tc 0, 10, .inl (fun _ => 0))), (q4, .inl (tc 0, 10, .inl (fun _ => 0))), (q5, .inl (tc 0, 10, .inl (fun _ => 0))), (q6, .inl (tc 0, 10, .inl (fun _ => 0))), (q7, .inl (tc 0, 10, .inl (fun _ => 0)))]) := V
  refine lv_aload_n hx hb dX1_init_60 rfl (lv_at hl 0 rfl) ?_
  refine lv_iload_n hx hb dX1_init_61 rfl (lv_at hl 1 rfl) ?_
  refine x_putF hx hb hts hown V inX1 tyX1_ok nmX1 0 rfl rfl 0 (by decide) tw_36 rfl rfl hin rfl rfl rfl (Nat.le_of_ble_eq_true rfl) dX1_init_62 (fun H locs V => ?_)
  replace V : Wd D tc A s H locs ([(o, .inr (1, [.int kd, .null, .int 0, .int 0, .ref q1, .ref q2, .ref q3, .ref q4, .ref q5, .ref q6, .ref q7])), (q1, .inl (tc 0, 10, .inl (fun _ => 0))), (q2, .inl (tc 0, 10, .inl (fun _ => 0))), (q3, .inl (tc 0, 10, .inl (fun _ => 0))), (q4, .inl (tc 0, 10, .inl (fun _ => 0))), (q5, .inl (tc 0, 10, .inl (fun _ => 0))), (q6, .inl (tc 0, 10, .inl (fun _ => 0))), (q7, .inl (tc 0, 10, .inl (fun _ => 0)))]) := V
  refine lv_aload_n hx hb dX1_init_65 rfl (lv_at hl 0 rfl) ?_
  refine lv_aload_n hx hb dX1_init_66 rfl (lv_at hl 2 rfl) ?_
  refine x_putF hx hb hts hown V inX1 tyX1_ok nmX1 0 rfl rfl 1 (by decide) tw_39 rfl rfl hin rfl rfl rfl (Nat.le_of_ble_eq_true rfl) dX1_init_67 (fun H locs V => ?_)
  replace V : Wd D tc A s H locs ([(o, .inr (1, [.int kd, .ref tb0, .int 0, .int 0, .ref q1, .ref q2, .ref q3, .ref q4, .ref q5, .ref q6, .ref q7])), (q1, .inl (tc 0, 10, .inl (fun _ => 0))), (q2, .inl (tc 0, 10, .inl (fun _ => 0))), (q3, .inl (tc 0, 10, .inl (fun _ => 0))), (q4, .inl (tc 0, 10, .inl (fun _ => 0))), (q5, .inl (tc 0, 10, .inl (fun _ => 0))), (q6, .inl (tc 0, 10, .inl (fun _ => 0))), (q7, .inl (tc 0, 10, .inl (fun _ => 0)))]) := V
  exact x_vreti (RT := _) (Nat.le_of_ble_eq_true rfl) (Nat.le_of_ble_eq_true rfl) C hA ⟨rfl, (fun p => if p = 6 then o else if p = 7 then q1 else if p = 8 then q2 else if p = 9 then q3 else if p = 10 then q4 else if p = 11 then q5 else if p = 12 then q6 else q7), rfl, rfl⟩ V dX1_init_70)

set_option maxHeartbeats 4000000 in
set_option maxRecDepth 100000 in
theorem kc_X4_init (l : Launch) (D : va_G) (tc : Nat → ClassId) (o : Nat) : MetG l D tc yX4_init cX4_init 1 none 2 13 3167 34 [.ref o] ([(o, .inr (3, [.null, .int 0, .int 0, .null, .int 0, .null]))]) (fun v w => v = none ∧ ∃ (q1 q2 q3 q4 q5 q6 : Nat), w = [(o, .inr (3, [.ref q1, .int 0, .int 0, .ref q2, .int 0, .ref q3])), (q2, .inl (tc 0, 10, .inl (fun _ => 0))), (q3, .inr (2, [.ref q4, .ref q5, .ref q6, .int 0])), (q4, .inl (tc 1, 1024, .inr (.inl (fun _ => 0)))), (q5, .inl (tc 1, 1024, .inr (.inl (fun _ => 0)))), (q6, .inl (tc 0, 1024, .inl (fun _ => 0)))]) :=
  x_ent (by decide) (own := RX4) rfl (Nat.le_of_ble_eq_true rfl) (fun p e s m args below meth c A sz ls hA _ hin C V hl => by
  obtain ⟨hx, hb, hr, hml, hown, hts, hlk, hN⟩ := id C
  replace hin := hin rfl
  try replace hin := hin rfl
  have hl : lv_has ls 1 [(0, .ref o)] := hl
  generalize s.heap = H at V ⊢
  generalize ([] : List Loc) = locs at V ⊢
  refine lv_aload_n hx hb dX4_init_0 rfl (lv_at hl 0 rfl) ?_
  refine W.objInit hx hb hown (hts _ tw_29) (hts _ tw_18) (hts _ tw_19) rfl (by rw [hml]; exact hl.1) rfl dX4_init_1 (Nat.le_of_ble_eq_true rfl) (Nat.le_of_ble_eq_true rfl) ?_
  refine W.eq (g2 := F0 m 4 ls []) rfl ?_
  refine lv_aload_n hx hb dX4_init_4 rfl (lv_at hl 0 rfl) ?_
  refine x_new (fs := [.int 0, .null, .int 0, .int 0, .null, .null, .null, .null, .null, .null, .null]) hx hb hts hown V 1 inX1 tyX1_ok tw_30 tw_31 tw_3 rfl (fun j hj => by rcases (show j = 0 ∨ j = 1 ∨ j = 2 ∨ j = 3 ∨ j = 4 ∨ j = 5 ∨ j = 6 ∨ j = 7 ∨ j = 8 ∨ j = 9 ∨ j = 10 by omega) with rfl | rfl | rfl | rfl | rfl | rfl | rfl | rfl | rfl | rfl | rfl <;> rfl) (Nat.le_of_ble_eq_true rfl) (Nat.le_of_ble_eq_true rfl) dX4_init_5 (fun q1 H V => ?_)
  replace V : Wd D tc A s H locs ([(o, .inr (3, [.null, .int 0, .int 0, .null, .int 0, .null])), (q1, .inr (1, [.int 0, .null, .int 0, .int 0, .null, .null, .null, .null, .null, .null, .null]))]) := V
  refine lv_dup hx hb dX4_init_8 rfl ?_
  refine lv_iconst (v := 0) hx hb dX4_init_9 (by decide) ?_
  refine lv_null hx hb dX4_init_10 ?_
  replace V : Wd D tc A s H locs ([(o, .inr (3, [.null, .int 0, .int 0, .null, .int 0, .null]))] ++ ([(q1, .inr (1, [.int 0, .null, .int 0, .int 0, .null, .null, .null, .null, .null, .null, .null]))] ++ [])) := V
  refine x_midG (w0 := [(o, .inr (3, [.null, .int 0, .int 0, .null, .int 0, .null]))]) (wr := []) V (x_runI (n := 2) (rest := [.ref q1, .ref o]) C V _ (mid_map _ _ _) (mid_nd _ _) (kc_X1_init_N l D tc q1 (0 : Int32)) tw_32 tw_33 tw_3 tw_34 rfl (by decide +kernel) ⟨(Nat.le_of_ble_eq_true rfl), (Nat.le_of_ble_eq_true rfl)⟩ ⟨(Nat.le_of_ble_eq_true rfl), (Nat.le_of_ble_eq_true rfl)⟩ rfl hl.1 rfl (Nat.le_of_ble_eq_true rfl) dX4_init_11) (fun v0 w1 H locs hRT _ V2 => ?_)
  clear V
  obtain ⟨rfl, ha0, rfl, -⟩ := hRT
  have V : Wd D tc A s H locs ([(o, .inr (3, [.null, .int 0, .int 0, .null, .int 0, .null]))]) := Wd.dropm V2
  refine x_put hx hb hts hown V inX4 tyX4_ok nmX4 0 rfl rfl 0 (by decide) tw_106 rfl rfl rfl rfl (Nat.le_of_ble_eq_true rfl) dX4_init_14 (fun H locs V => ?_)
  replace V : Wd D tc A s H locs ([(o, .inr (3, [.ref q1, .int 0, .int 0, .null, .int 0, .null]))]) := V
  refine lv_aload_n hx hb dX4_init_17 rfl (lv_at hl 0 rfl) ?_
  refine lv_bipush (v := 10) hx hb dX4_init_18 (by decide) ?_
  refine x_newI (N := 10) hx hb hts V (by decide) (by decide) (by decide) (Nat.le_of_ble_eq_true rfl) (Nat.le_of_ble_eq_true rfl) dX4_init_20 (fun q2 H V => ?_)
  replace V : Wd D tc A s H locs ([(o, .inr (3, [.ref q1, .int 0, .int 0, .null, .int 0, .null])), (q2, .inl (tc 0, 10, .inl (fun _ => 0)))]) := V
  refine x_putF hx hb hts hown V inX4 tyX4_ok nmX4 0 rfl rfl 3 (by decide) tw_109 rfl rfl hin rfl rfl rfl (Nat.le_of_ble_eq_true rfl) dX4_init_22 (fun H locs V => ?_)
  replace V : Wd D tc A s H locs ([(o, .inr (3, [.ref q1, .int 0, .int 0, .ref q2, .int 0, .null])), (q2, .inl (tc 0, 10, .inl (fun _ => 0)))]) := V
  refine lv_aload_n hx hb dX4_init_25 rfl (lv_at hl 0 rfl) ?_
  refine x_new (fs := [.null, .null, .null, .int 0]) hx hb hts hown V 2 inX2 tyX2_ok tw_86 tw_87 tw_4 rfl (fun j hj => by rcases (show j = 0 ∨ j = 1 ∨ j = 2 ∨ j = 3 by omega) with rfl | rfl | rfl | rfl <;> rfl) (Nat.le_of_ble_eq_true rfl) (Nat.le_of_ble_eq_true rfl) dX4_init_26 (fun q3 H V => ?_)
  replace V : Wd D tc A s H locs ([(o, .inr (3, [.ref q1, .int 0, .int 0, .ref q2, .int 0, .null])), (q2, .inl (tc 0, 10, .inl (fun _ => 0))), (q3, .inr (2, [.null, .null, .null, .int 0]))]) := V
  refine lv_dup hx hb dX4_init_29 rfl ?_
  replace V : Wd D tc A s H locs ([(o, .inr (3, [.ref q1, .int 0, .int 0, .ref q2, .int 0, .null])), (q2, .inl (tc 0, 10, .inl (fun _ => 0)))] ++ ([(q3, .inr (2, [.null, .null, .null, .int 0]))] ++ [])) := V
  refine x_midG (w0 := [(o, .inr (3, [.ref q1, .int 0, .int 0, .ref q2, .int 0, .null])), (q2, .inl (tc 0, 10, .inl (fun _ => 0)))]) (wr := []) V (x_runIN (n := 0) (rest := [.ref q3, .ref o]) C V _ (mid_map _ _ _) (mid_nd _ _) (kc_X2_init l D tc q3) hN.2.1 tw_89 tw_4 tw_90 rfl (by decide +kernel) ⟨(Nat.le_of_ble_eq_true rfl), (Nat.le_of_ble_eq_true rfl)⟩ ⟨(Nat.le_of_ble_eq_true rfl), (Nat.le_of_ble_eq_true rfl)⟩ rfl hl.1 rfl (Nat.le_of_ble_eq_true rfl) dX4_init_30) (fun v0 w1 H locs hRT _ V2 => ?_)
  clear V
  obtain ⟨rfl, q4, q5, q6, rfl⟩ := hRT
  have V : Wd D tc A s H locs ([(o, .inr (3, [.ref q1, .int 0, .int 0, .ref q2, .int 0, .null])), (q2, .inl (tc 0, 10, .inl (fun _ => 0))), (q3, .inr (2, [.ref q4, .ref q5, .ref q6, .int 0])), (q4, .inl (tc 1, 1024, .inr (.inl (fun _ => 0)))), (q5, .inl (tc 1, 1024, .inr (.inl (fun _ => 0)))), (q6, .inl (tc 0, 1024, .inl (fun _ => 0)))]) := V2
  refine x_putF hx hb hts hown V inX4 tyX4_ok nmX4 0 rfl rfl 5 (by decide) tw_111 rfl rfl hin rfl rfl rfl (Nat.le_of_ble_eq_true rfl) dX4_init_33 (fun H locs V => ?_)
  replace V : Wd D tc A s H locs ([(o, .inr (3, [.ref q1, .int 0, .int 0, .ref q2, .int 0, .ref q3])), (q2, .inl (tc 0, 10, .inl (fun _ => 0))), (q3, .inr (2, [.ref q4, .ref q5, .ref q6, .int 0])), (q4, .inl (tc 1, 1024, .inr (.inl (fun _ => 0)))), (q5, .inl (tc 1, 1024, .inr (.inl (fun _ => 0)))), (q6, .inl (tc 0, 1024, .inl (fun _ => 0)))]) := V
  exact x_vreti (RT := _) (Nat.le_of_ble_eq_true rfl) (Nat.le_of_ble_eq_true rfl) C hA ⟨rfl, q1, q2, q3, q4, q5, q6, rfl⟩ V dX4_init_36)

set_option maxHeartbeats 4000000 in
set_option maxRecDepth 100000 in
theorem kc_X6_init (l : Launch) (D : va_G) (tc : Nat → ClassId) (o : Nat) : MetE l D tc yX6_init cX6_init 1 none 3 19 3265 54 [.ref o] ([(o, .inr (5, [.null, .int 0, .null, .int 0, .null, .null, .int 0, .null, .int 0, .int 0]))]) (fun _ U => va_AO "HistoryCourt$History" U ∧ va_AO "HistoryCourt$Table" U) (fun v w => v = none ∧ ∃ (xa ad : Nat → Nat) (sh : Nat), w = Bw tc o xa ad (fun _ => none) (fun _ => none) 0 0 (fun _ => 0) ++ Gw tc ad sh St0) :=
  x_entE (by decide) (own := RX6) rfl (Nat.le_of_ble_eq_true rfl) (fun p e s m args below meth c A sz ls hA _ hEx hin C V hl => by
  obtain ⟨hao2, hao3⟩ := hEx
  obtain ⟨hx, hb, hr, hml, hown, hts, hlk, hN⟩ := id C
  replace hin := hin rfl
  try replace hin := hin rfl
  have hl : lv_has ls 1 [(0, .ref o)] := hl
  generalize s.heap = H at V ⊢
  generalize ([] : List Loc) = locs at V ⊢
  refine lv_aload_n hx hb dX6_init_0 rfl (lv_at hl 0 rfl) ?_
  refine W.objInit hx hb hown (hts _ tw_17) (hts _ tw_18) (hts _ tw_19) rfl (by rw [hml]; exact hl.1) rfl dX6_init_1 (Nat.le_of_ble_eq_true rfl) (Nat.le_of_ble_eq_true rfl) ?_
  refine W.eq (g2 := F0 m 4 ls []) rfl ?_
  refine lv_aload_n hx hb dX6_init_4 rfl (lv_at hl 0 rfl) ?_
  refine lv_iconst (v := 4) hx hb dX6_init_5 (by decide) ?_
  refine x_newq3 (N := 4) hx hb hts hown tw_20 hao3 V (by decide) (by decide) (by decide) (Nat.le_of_ble_eq_true rfl) (Nat.le_of_ble_eq_true rfl) dX6_init_6 (fun q1 H V => ?_)
  replace V : Wd D tc A s H locs ([(o, .inr (5, [.null, .int 0, .null, .int 0, .null, .null, .int 0, .null, .int 0, .int 0])), (q1, .inl (tc 3, 4, .inr (.inr (.inr (.inr (fun _ => none))))))]) := V
  refine x_putF hx hb hts hown V inX6 tyX6_ok nmX6 0 rfl rfl 0 (by decide) tw_141 rfl rfl hin rfl rfl rfl (Nat.le_of_ble_eq_true rfl) dX6_init_9 (fun H locs V => ?_)
  replace V : Wd D tc A s H locs ([(o, .inr (5, [.ref q1, .int 0, .null, .int 0, .null, .null, .int 0, .null, .int 0, .int 0])), (q1, .inl (tc 3, 4, .inr (.inr (.inr (.inr (fun _ => none))))))]) := V
  refine lv_aload_n hx hb dX6_init_12 rfl (lv_at hl 0 rfl) ?_
  refine lv_bipush (v := 12) hx hb dX6_init_13 (by decide) ?_
  refine x_newq2 (N := 12) hx hb hts hown tw_22 hao2 V (by decide) (by decide) (by decide) (Nat.le_of_ble_eq_true rfl) (Nat.le_of_ble_eq_true rfl) dX6_init_15 (fun q2 H V => ?_)
  replace V : Wd D tc A s H locs ([(o, .inr (5, [.ref q1, .int 0, .null, .int 0, .null, .null, .int 0, .null, .int 0, .int 0])), (q1, .inl (tc 3, 4, .inr (.inr (.inr (.inr (fun _ => none)))))), (q2, .inl (tc 2, 12, .inr (.inr (.inr (.inr (fun _ => none))))))]) := V
  refine x_putF hx hb hts hown V inX6 tyX6_ok nmX6 0 rfl rfl 2 (by decide) tw_143 rfl rfl hin rfl rfl rfl (Nat.le_of_ble_eq_true rfl) dX6_init_18 (fun H locs V => ?_)
  replace V : Wd D tc A s H locs ([(o, .inr (5, [.ref q1, .int 0, .ref q2, .int 0, .null, .null, .int 0, .null, .int 0, .int 0])), (q1, .inl (tc 3, 4, .inr (.inr (.inr (.inr (fun _ => none)))))), (q2, .inl (tc 2, 12, .inr (.inr (.inr (.inr (fun _ => none))))))]) := V
  refine lv_aload_n hx hb dX6_init_21 rfl (lv_at hl 0 rfl) ?_
  refine x_new (fs := [.null, .int 0, .int 0, .null, .int 0, .null]) hx hb hts hown V 3 inX4 tyX4_ok tw_24 tw_25 tw_2 rfl (fun j hj => by rcases (show j = 0 ∨ j = 1 ∨ j = 2 ∨ j = 3 ∨ j = 4 ∨ j = 5 by omega) with rfl | rfl | rfl | rfl | rfl | rfl <;> rfl) (Nat.le_of_ble_eq_true rfl) (Nat.le_of_ble_eq_true rfl) dX6_init_22 (fun q3 H V => ?_)
  replace V : Wd D tc A s H locs ([(o, .inr (5, [.ref q1, .int 0, .ref q2, .int 0, .null, .null, .int 0, .null, .int 0, .int 0])), (q1, .inl (tc 3, 4, .inr (.inr (.inr (.inr (fun _ => none)))))), (q2, .inl (tc 2, 12, .inr (.inr (.inr (.inr (fun _ => none)))))), (q3, .inr (3, [.null, .int 0, .int 0, .null, .int 0, .null]))]) := V
  refine lv_dup hx hb dX6_init_25 rfl ?_
  replace V : Wd D tc A s H locs ([(o, .inr (5, [.ref q1, .int 0, .ref q2, .int 0, .null, .null, .int 0, .null, .int 0, .int 0])), (q1, .inl (tc 3, 4, .inr (.inr (.inr (.inr (fun _ => none)))))), (q2, .inl (tc 2, 12, .inr (.inr (.inr (.inr (fun _ => none))))))] ++ ([(q3, .inr (3, [.null, .int 0, .int 0, .null, .int 0, .null]))] ++ [])) := V
  refine x_midG (w0 := [(o, .inr (5, [.ref q1, .int 0, .ref q2, .int 0, .null, .null, .int 0, .null, .int 0, .int 0])), (q1, .inl (tc 3, 4, .inr (.inr (.inr (.inr (fun _ => none)))))), (q2, .inl (tc 2, 12, .inr (.inr (.inr (.inr (fun _ => none))))))]) (wr := []) V (x_runIN (n := 0) (rest := [.ref q3, .ref o]) C V _ (mid_map _ _ _) (mid_nd _ _) (kc_X4_init l D tc q3) hN.1 tw_27 tw_2 tw_28 rfl (by decide +kernel) ⟨(Nat.le_of_ble_eq_true rfl), (Nat.le_of_ble_eq_true rfl)⟩ ⟨(Nat.le_of_ble_eq_true rfl), (Nat.le_of_ble_eq_true rfl)⟩ rfl hl.1 rfl (Nat.le_of_ble_eq_true rfl) dX6_init_26) (fun v0 w1 H locs hRT _ V2 => ?_)
  clear V
  obtain ⟨rfl, q4, q5, q6, q7, q8, q9, rfl⟩ := hRT
  have V : Wd D tc A s H locs ([(o, .inr (5, [.ref q1, .int 0, .ref q2, .int 0, .null, .null, .int 0, .null, .int 0, .int 0])), (q1, .inl (tc 3, 4, .inr (.inr (.inr (.inr (fun _ => none)))))), (q2, .inl (tc 2, 12, .inr (.inr (.inr (.inr (fun _ => none)))))), (q3, .inr (3, [.ref q4, .int 0, .int 0, .ref q5, .int 0, .ref q6])), (q5, .inl (tc 0, 10, .inl (fun _ => 0))), (q6, .inr (2, [.ref q7, .ref q8, .ref q9, .int 0])), (q7, .inl (tc 1, 1024, .inr (.inl (fun _ => 0)))), (q8, .inl (tc 1, 1024, .inr (.inl (fun _ => 0)))), (q9, .inl (tc 0, 1024, .inl (fun _ => 0)))]) := V2
  refine x_putF hx hb hts hown V inX6 tyX6_ok nmX6 0 rfl rfl 4 (by decide) tw_145 rfl rfl hin rfl rfl rfl (Nat.le_of_ble_eq_true rfl) dX6_init_29 (fun H locs V => ?_)
  replace V : Wd D tc A s H locs ([(o, .inr (5, [.ref q1, .int 0, .ref q2, .int 0, .ref q3, .null, .int 0, .null, .int 0, .int 0])), (q1, .inl (tc 3, 4, .inr (.inr (.inr (.inr (fun _ => none)))))), (q2, .inl (tc 2, 12, .inr (.inr (.inr (.inr (fun _ => none)))))), (q3, .inr (3, [.ref q4, .int 0, .int 0, .ref q5, .int 0, .ref q6])), (q5, .inl (tc 0, 10, .inl (fun _ => 0))), (q6, .inr (2, [.ref q7, .ref q8, .ref q9, .int 0])), (q7, .inl (tc 1, 1024, .inr (.inl (fun _ => 0)))), (q8, .inl (tc 1, 1024, .inr (.inl (fun _ => 0)))), (q9, .inl (tc 0, 1024, .inl (fun _ => 0)))]) := V
  refine lv_aload_n hx hb dX6_init_32 rfl (lv_at hl 0 rfl) ?_
  refine x_new (fs := [.null, .int 0]) hx hb hts hown V 0 inX0 tyX0_ok tw_125 tw_126 tw_5 rfl (fun j hj => by rcases (show j = 0 ∨ j = 1 by omega) with rfl | rfl <;> rfl) (Nat.le_of_ble_eq_true rfl) (Nat.le_of_ble_eq_true rfl) dX6_init_33 (fun q10 H V => ?_)
  replace V : Wd D tc A s H locs ([(o, .inr (5, [.ref q1, .int 0, .ref q2, .int 0, .ref q3, .null, .int 0, .null, .int 0, .int 0])), (q1, .inl (tc 3, 4, .inr (.inr (.inr (.inr (fun _ => none)))))), (q2, .inl (tc 2, 12, .inr (.inr (.inr (.inr (fun _ => none)))))), (q3, .inr (3, [.ref q4, .int 0, .int 0, .ref q5, .int 0, .ref q6])), (q5, .inl (tc 0, 10, .inl (fun _ => 0))), (q6, .inr (2, [.ref q7, .ref q8, .ref q9, .int 0])), (q7, .inl (tc 1, 1024, .inr (.inl (fun _ => 0)))), (q8, .inl (tc 1, 1024, .inr (.inl (fun _ => 0)))), (q9, .inl (tc 0, 1024, .inl (fun _ => 0))), (q10, .inr (0, [.null, .int 0]))]) := V
  refine lv_dup hx hb dX6_init_36 rfl ?_
  replace V : Wd D tc A s H locs ([(o, .inr (5, [.ref q1, .int 0, .ref q2, .int 0, .ref q3, .null, .int 0, .null, .int 0, .int 0])), (q1, .inl (tc 3, 4, .inr (.inr (.inr (.inr (fun _ => none)))))), (q2, .inl (tc 2, 12, .inr (.inr (.inr (.inr (fun _ => none)))))), (q3, .inr (3, [.ref q4, .int 0, .int 0, .ref q5, .int 0, .ref q6])), (q5, .inl (tc 0, 10, .inl (fun _ => 0))), (q6, .inr (2, [.ref q7, .ref q8, .ref q9, .int 0])), (q7, .inl (tc 1, 1024, .inr (.inl (fun _ => 0)))), (q8, .inl (tc 1, 1024, .inr (.inl (fun _ => 0)))), (q9, .inl (tc 0, 1024, .inl (fun _ => 0)))] ++ ([(q10, .inr (0, [.null, .int 0]))] ++ [])) := V
  refine x_midG (w0 := [(o, .inr (5, [.ref q1, .int 0, .ref q2, .int 0, .ref q3, .null, .int 0, .null, .int 0, .int 0])), (q1, .inl (tc 3, 4, .inr (.inr (.inr (.inr (fun _ => none)))))), (q2, .inl (tc 2, 12, .inr (.inr (.inr (.inr (fun _ => none)))))), (q3, .inr (3, [.ref q4, .int 0, .int 0, .ref q5, .int 0, .ref q6])), (q5, .inl (tc 0, 10, .inl (fun _ => 0))), (q6, .inr (2, [.ref q7, .ref q8, .ref q9, .int 0])), (q7, .inl (tc 1, 1024, .inr (.inl (fun _ => 0)))), (q8, .inl (tc 1, 1024, .inr (.inl (fun _ => 0)))), (q9, .inl (tc 0, 1024, .inl (fun _ => 0)))]) (wr := []) V (x_runIN (n := 0) (rest := [.ref q10, .ref o]) C V _ (mid_map _ _ _) (mid_nd _ _) (kc_X0_init l D tc q10) hN.2.2.1 tw_128 tw_5 tw_129 rfl (by decide +kernel) ⟨(Nat.le_of_ble_eq_true rfl), (Nat.le_of_ble_eq_true rfl)⟩ ⟨(Nat.le_of_ble_eq_true rfl), (Nat.le_of_ble_eq_true rfl)⟩ rfl hl.1 rfl (Nat.le_of_ble_eq_true rfl) dX6_init_37) (fun v0 w1 H locs hRT _ V2 => ?_)
  clear V
  obtain ⟨rfl, q11, rfl⟩ := hRT
  have V : Wd D tc A s H locs ([(o, .inr (5, [.ref q1, .int 0, .ref q2, .int 0, .ref q3, .null, .int 0, .null, .int 0, .int 0])), (q1, .inl (tc 3, 4, .inr (.inr (.inr (.inr (fun _ => none)))))), (q2, .inl (tc 2, 12, .inr (.inr (.inr (.inr (fun _ => none)))))), (q3, .inr (3, [.ref q4, .int 0, .int 0, .ref q5, .int 0, .ref q6])), (q5, .inl (tc 0, 10, .inl (fun _ => 0))), (q6, .inr (2, [.ref q7, .ref q8, .ref q9, .int 0])), (q7, .inl (tc 1, 1024, .inr (.inl (fun _ => 0)))), (q8, .inl (tc 1, 1024, .inr (.inl (fun _ => 0)))), (q9, .inl (tc 0, 1024, .inl (fun _ => 0))), (q10, .inr (0, [.ref q11, .int 0])), (q11, .inl (tc 0, 64, .inl (fun _ => 0)))]) := V2
  refine x_putF hx hb hts hown V inX6 tyX6_ok nmX6 0 rfl rfl 5 (by decide) tw_146 rfl rfl hin rfl rfl rfl (Nat.le_of_ble_eq_true rfl) dX6_init_40 (fun H locs V => ?_)
  replace V : Wd D tc A s H locs ([(o, .inr (5, [.ref q1, .int 0, .ref q2, .int 0, .ref q3, .ref q10, .int 0, .null, .int 0, .int 0])), (q1, .inl (tc 3, 4, .inr (.inr (.inr (.inr (fun _ => none)))))), (q2, .inl (tc 2, 12, .inr (.inr (.inr (.inr (fun _ => none)))))), (q3, .inr (3, [.ref q4, .int 0, .int 0, .ref q5, .int 0, .ref q6])), (q5, .inl (tc 0, 10, .inl (fun _ => 0))), (q6, .inr (2, [.ref q7, .ref q8, .ref q9, .int 0])), (q7, .inl (tc 1, 1024, .inr (.inl (fun _ => 0)))), (q8, .inl (tc 1, 1024, .inr (.inl (fun _ => 0)))), (q9, .inl (tc 0, 1024, .inl (fun _ => 0))), (q10, .inr (0, [.ref q11, .int 0])), (q11, .inl (tc 0, 64, .inl (fun _ => 0)))]) := V
  refine lv_aload_n hx hb dX6_init_43 rfl (lv_at hl 0 rfl) ?_
  refine lv_bipush (v := 10) hx hb dX6_init_44 (by decide) ?_
  refine x_newI (N := 10) hx hb hts V (by decide) (by decide) (by decide) (Nat.le_of_ble_eq_true rfl) (Nat.le_of_ble_eq_true rfl) dX6_init_46 (fun q12 H V => ?_)
  replace V : Wd D tc A s H locs ([(o, .inr (5, [.ref q1, .int 0, .ref q2, .int 0, .ref q3, .ref q10, .int 0, .null, .int 0, .int 0])), (q1, .inl (tc 3, 4, .inr (.inr (.inr (.inr (fun _ => none)))))), (q2, .inl (tc 2, 12, .inr (.inr (.inr (.inr (fun _ => none)))))), (q3, .inr (3, [.ref q4, .int 0, .int 0, .ref q5, .int 0, .ref q6])), (q5, .inl (tc 0, 10, .inl (fun _ => 0))), (q6, .inr (2, [.ref q7, .ref q8, .ref q9, .int 0])), (q7, .inl (tc 1, 1024, .inr (.inl (fun _ => 0)))), (q8, .inl (tc 1, 1024, .inr (.inl (fun _ => 0)))), (q9, .inl (tc 0, 1024, .inl (fun _ => 0))), (q10, .inr (0, [.ref q11, .int 0])), (q11, .inl (tc 0, 64, .inl (fun _ => 0))), (q12, .inl (tc 0, 10, .inl (fun _ => 0)))]) := V
  refine x_putF hx hb hts hown V inX6 tyX6_ok nmX6 0 rfl rfl 7 (by decide) tw_148 rfl rfl hin rfl rfl rfl (Nat.le_of_ble_eq_true rfl) dX6_init_48 (fun H locs V => ?_)
  replace V : Wd D tc A s H locs ([(o, .inr (5, [.ref q1, .int 0, .ref q2, .int 0, .ref q3, .ref q10, .int 0, .ref q12, .int 0, .int 0])), (q1, .inl (tc 3, 4, .inr (.inr (.inr (.inr (fun _ => none)))))), (q2, .inl (tc 2, 12, .inr (.inr (.inr (.inr (fun _ => none)))))), (q3, .inr (3, [.ref q4, .int 0, .int 0, .ref q5, .int 0, .ref q6])), (q5, .inl (tc 0, 10, .inl (fun _ => 0))), (q6, .inr (2, [.ref q7, .ref q8, .ref q9, .int 0])), (q7, .inl (tc 1, 1024, .inr (.inl (fun _ => 0)))), (q8, .inl (tc 1, 1024, .inr (.inl (fun _ => 0)))), (q9, .inl (tc 0, 1024, .inl (fun _ => 0))), (q10, .inr (0, [.ref q11, .int 0])), (q11, .inl (tc 0, 64, .inl (fun _ => 0))), (q12, .inl (tc 0, 10, .inl (fun _ => 0)))]) := V
  exact x_vreti (RT := _) (Nat.le_of_ble_eq_true rfl) (Nat.le_of_ble_eq_true rfl) C hA ⟨rfl, (fun p => if p = 0 then q1 else q2), (fun p => if p = 0 then q3 else if p = 1 then q5 else if p = 2 then q6 else if p = 3 then q7 else if p = 4 then q8 else if p = 5 then q9 else if p = 14 then q10 else if p = 15 then q11 else if p = 16 then q12 else 0), q4, rfl⟩ V dX6_init_51)

set_option maxHeartbeats 4000000 in
set_option maxRecDepth 100000 in
theorem kc_X7_init (l : Launch) (D : va_G) (tc : Nat → ClassId) (o : Nat) : MetG l D tc yX7_init cX7_init 1 none 1 19 9318 12 [.ref o] ([(o, .inr (6, [.int 0, .null, .null, .int 0, .int 0, .null, .null, .null, .null, .null, .null, .null, .null, .null, .null, .null, .int 0, .null, .null, .null, .null, .int 0, .long 0, .int 0, .int 0, .null, .int 0, .int 0, .null, .int 0]))]) (fun v w => v = none ∧ ∃ (ad : Nat → Nat), w = Mw tc o ad St0) :=
  x_ent (by decide) (own := RX7) rfl (Nat.le_of_ble_eq_true rfl) (fun p e s m args below meth c A sz ls hA _ hin C V hl => by
  obtain ⟨hx, hb, hr, hml, hown, hts, hlk, hN⟩ := id C
  replace hin := hin rfl
  try replace hin := hin rfl
  have hl : lv_has ls 1 [(0, .ref o)] := hl
  generalize s.heap = H at V ⊢
  generalize ([] : List Loc) = locs at V ⊢
  refine lv_aload_n hx hb dX7_init_0 rfl (lv_at hl 0 rfl) ?_
  refine W.objInit hx hb hown (hts _ tw_520) (hts _ tw_18) (hts _ tw_19) rfl (by rw [hml]; exact hl.1) rfl dX7_init_1 (Nat.le_of_ble_eq_true rfl) (Nat.le_of_ble_eq_true rfl) ?_
  refine W.eq (g2 := F0 m 4 ls []) rfl ?_
  refine lv_aload_n hx hb dX7_init_4 rfl (lv_at hl 0 rfl) ?_
  refine lv_sipush (v := 128) hx hb dX7_init_5 (by decide) ?_
  refine x_newI (N := 128) hx hb hts V (by decide) (by decide) (by decide) (Nat.le_of_ble_eq_true rfl) (Nat.le_of_ble_eq_true rfl) dX7_init_8 (fun q1 H V => ?_)
  replace V : Wd D tc A s H locs ([(o, .inr (6, [.int 0, .null, .null, .int 0, .int 0, .null, .null, .null, .null, .null, .null, .null, .null, .null, .null, .null, .int 0, .null, .null, .null, .null, .int 0, .long 0, .int 0, .int 0, .null, .int 0, .int 0, .null, .int 0])), (q1, .inl (tc 0, 128, .inl (fun _ => 0)))]) := V
  refine x_putF hx hb hts hown V inX7 tyX7_ok nmX7 0 rfl rfl 1 (by decide) tw_521 rfl rfl hin rfl rfl rfl (Nat.le_of_ble_eq_true rfl) dX7_init_10 (fun H locs V => ?_)
  replace V : Wd D tc A s H locs ([(o, .inr (6, [.int 0, .ref q1, .null, .int 0, .int 0, .null, .null, .null, .null, .null, .null, .null, .null, .null, .null, .null, .int 0, .null, .null, .null, .null, .int 0, .long 0, .int 0, .int 0, .null, .int 0, .int 0, .null, .int 0])), (q1, .inl (tc 0, 128, .inl (fun _ => 0)))]) := V
  refine lv_aload_n hx hb dX7_init_13 rfl (lv_at hl 0 rfl) ?_
  refine lv_sipush (v := 128) hx hb dX7_init_14 (by decide) ?_
  refine x_newI (N := 128) hx hb hts V (by decide) (by decide) (by decide) (Nat.le_of_ble_eq_true rfl) (Nat.le_of_ble_eq_true rfl) dX7_init_17 (fun q2 H V => ?_)
  replace V : Wd D tc A s H locs ([(o, .inr (6, [.int 0, .ref q1, .null, .int 0, .int 0, .null, .null, .null, .null, .null, .null, .null, .null, .null, .null, .null, .int 0, .null, .null, .null, .null, .int 0, .long 0, .int 0, .int 0, .null, .int 0, .int 0, .null, .int 0])), (q1, .inl (tc 0, 128, .inl (fun _ => 0))), (q2, .inl (tc 0, 128, .inl (fun _ => 0)))]) := V
  refine x_putF hx hb hts hown V inX7 tyX7_ok nmX7 0 rfl rfl 2 (by decide) tw_522 rfl rfl hin rfl rfl rfl (Nat.le_of_ble_eq_true rfl) dX7_init_19 (fun H locs V => ?_)
  replace V : Wd D tc A s H locs ([(o, .inr (6, [.int 0, .ref q1, .ref q2, .int 0, .int 0, .null, .null, .null, .null, .null, .null, .null, .null, .null, .null, .null, .int 0, .null, .null, .null, .null, .int 0, .long 0, .int 0, .int 0, .null, .int 0, .int 0, .null, .int 0])), (q1, .inl (tc 0, 128, .inl (fun _ => 0))), (q2, .inl (tc 0, 128, .inl (fun _ => 0)))]) := V
  refine lv_aload_n hx hb dX7_init_22 rfl (lv_at hl 0 rfl) ?_
  refine lv_bipush (v := 12) hx hb dX7_init_23 (by decide) ?_
  refine x_newI (N := 12) hx hb hts V (by decide) (by decide) (by decide) (Nat.le_of_ble_eq_true rfl) (Nat.le_of_ble_eq_true rfl) dX7_init_25 (fun q3 H V => ?_)
  replace V : Wd D tc A s H locs ([(o, .inr (6, [.int 0, .ref q1, .ref q2, .int 0, .int 0, .null, .null, .null, .null, .null, .null, .null, .null, .null, .null, .null, .int 0, .null, .null, .null, .null, .int 0, .long 0, .int 0, .int 0, .null, .int 0, .int 0, .null, .int 0])), (q1, .inl (tc 0, 128, .inl (fun _ => 0))), (q2, .inl (tc 0, 128, .inl (fun _ => 0))), (q3, .inl (tc 0, 12, .inl (fun _ => 0)))]) := V
  refine x_putF hx hb hts hown V inX7 tyX7_ok nmX7 0 rfl rfl 5 (by decide) tw_525 rfl rfl hin rfl rfl rfl (Nat.le_of_ble_eq_true rfl) dX7_init_27 (fun H locs V => ?_)
  replace V : Wd D tc A s H locs ([(o, .inr (6, [.int 0, .ref q1, .ref q2, .int 0, .int 0, .ref q3, .null, .null, .null, .null, .null, .null, .null, .null, .null, .null, .int 0, .null, .null, .null, .null, .int 0, .long 0, .int 0, .int 0, .null, .int 0, .int 0, .null, .int 0])), (q1, .inl (tc 0, 128, .inl (fun _ => 0))), (q2, .inl (tc 0, 128, .inl (fun _ => 0))), (q3, .inl (tc 0, 12, .inl (fun _ => 0)))]) := V
  refine lv_aload_n hx hb dX7_init_30 rfl (lv_at hl 0 rfl) ?_
  refine lv_bipush (v := 12) hx hb dX7_init_31 (by decide) ?_
  refine x_newI (N := 12) hx hb hts V (by decide) (by decide) (by decide) (Nat.le_of_ble_eq_true rfl) (Nat.le_of_ble_eq_true rfl) dX7_init_33 (fun q4 H V => ?_)
  replace V : Wd D tc A s H locs ([(o, .inr (6, [.int 0, .ref q1, .ref q2, .int 0, .int 0, .ref q3, .null, .null, .null, .null, .null, .null, .null, .null, .null, .null, .int 0, .null, .null, .null, .null, .int 0, .long 0, .int 0, .int 0, .null, .int 0, .int 0, .null, .int 0])), (q1, .inl (tc 0, 128, .inl (fun _ => 0))), (q2, .inl (tc 0, 128, .inl (fun _ => 0))), (q3, .inl (tc 0, 12, .inl (fun _ => 0))), (q4, .inl (tc 0, 12, .inl (fun _ => 0)))]) := V
  refine x_putF hx hb hts hown V inX7 tyX7_ok nmX7 0 rfl rfl 6 (by decide) tw_526 rfl rfl hin rfl rfl rfl (Nat.le_of_ble_eq_true rfl) dX7_init_35 (fun H locs V => ?_)
  replace V : Wd D tc A s H locs ([(o, .inr (6, [.int 0, .ref q1, .ref q2, .int 0, .int 0, .ref q3, .ref q4, .null, .null, .null, .null, .null, .null, .null, .null, .null, .int 0, .null, .null, .null, .null, .int 0, .long 0, .int 0, .int 0, .null, .int 0, .int 0, .null, .int 0])), (q1, .inl (tc 0, 128, .inl (fun _ => 0))), (q2, .inl (tc 0, 128, .inl (fun _ => 0))), (q3, .inl (tc 0, 12, .inl (fun _ => 0))), (q4, .inl (tc 0, 12, .inl (fun _ => 0)))]) := V
  refine lv_aload_n hx hb dX7_init_38 rfl (lv_at hl 0 rfl) ?_
  refine lv_bipush (v := 12) hx hb dX7_init_39 (by decide) ?_
  refine x_newI (N := 12) hx hb hts V (by decide) (by decide) (by decide) (Nat.le_of_ble_eq_true rfl) (Nat.le_of_ble_eq_true rfl) dX7_init_41 (fun q5 H V => ?_)
  replace V : Wd D tc A s H locs ([(o, .inr (6, [.int 0, .ref q1, .ref q2, .int 0, .int 0, .ref q3, .ref q4, .null, .null, .null, .null, .null, .null, .null, .null, .null, .int 0, .null, .null, .null, .null, .int 0, .long 0, .int 0, .int 0, .null, .int 0, .int 0, .null, .int 0])), (q1, .inl (tc 0, 128, .inl (fun _ => 0))), (q2, .inl (tc 0, 128, .inl (fun _ => 0))), (q3, .inl (tc 0, 12, .inl (fun _ => 0))), (q4, .inl (tc 0, 12, .inl (fun _ => 0))), (q5, .inl (tc 0, 12, .inl (fun _ => 0)))]) := V
  refine x_putF hx hb hts hown V inX7 tyX7_ok nmX7 0 rfl rfl 7 (by decide) tw_527 rfl rfl hin rfl rfl rfl (Nat.le_of_ble_eq_true rfl) dX7_init_43 (fun H locs V => ?_)
  replace V : Wd D tc A s H locs ([(o, .inr (6, [.int 0, .ref q1, .ref q2, .int 0, .int 0, .ref q3, .ref q4, .ref q5, .null, .null, .null, .null, .null, .null, .null, .null, .int 0, .null, .null, .null, .null, .int 0, .long 0, .int 0, .int 0, .null, .int 0, .int 0, .null, .int 0])), (q1, .inl (tc 0, 128, .inl (fun _ => 0))), (q2, .inl (tc 0, 128, .inl (fun _ => 0))), (q3, .inl (tc 0, 12, .inl (fun _ => 0))), (q4, .inl (tc 0, 12, .inl (fun _ => 0))), (q5, .inl (tc 0, 12, .inl (fun _ => 0)))]) := V
  refine lv_aload_n hx hb dX7_init_46 rfl (lv_at hl 0 rfl) ?_
  refine lv_bipush (v := 12) hx hb dX7_init_47 (by decide) ?_
  refine x_newI (N := 12) hx hb hts V (by decide) (by decide) (by decide) (Nat.le_of_ble_eq_true rfl) (Nat.le_of_ble_eq_true rfl) dX7_init_49 (fun q6 H V => ?_)
  replace V : Wd D tc A s H locs ([(o, .inr (6, [.int 0, .ref q1, .ref q2, .int 0, .int 0, .ref q3, .ref q4, .ref q5, .null, .null, .null, .null, .null, .null, .null, .null, .int 0, .null, .null, .null, .null, .int 0, .long 0, .int 0, .int 0, .null, .int 0, .int 0, .null, .int 0])), (q1, .inl (tc 0, 128, .inl (fun _ => 0))), (q2, .inl (tc 0, 128, .inl (fun _ => 0))), (q3, .inl (tc 0, 12, .inl (fun _ => 0))), (q4, .inl (tc 0, 12, .inl (fun _ => 0))), (q5, .inl (tc 0, 12, .inl (fun _ => 0))), (q6, .inl (tc 0, 12, .inl (fun _ => 0)))]) := V
  refine x_putF hx hb hts hown V inX7 tyX7_ok nmX7 0 rfl rfl 8 (by decide) tw_528 rfl rfl hin rfl rfl rfl (Nat.le_of_ble_eq_true rfl) dX7_init_51 (fun H locs V => ?_)
  replace V : Wd D tc A s H locs ([(o, .inr (6, [.int 0, .ref q1, .ref q2, .int 0, .int 0, .ref q3, .ref q4, .ref q5, .ref q6, .null, .null, .null, .null, .null, .null, .null, .int 0, .null, .null, .null, .null, .int 0, .long 0, .int 0, .int 0, .null, .int 0, .int 0, .null, .int 0])), (q1, .inl (tc 0, 128, .inl (fun _ => 0))), (q2, .inl (tc 0, 128, .inl (fun _ => 0))), (q3, .inl (tc 0, 12, .inl (fun _ => 0))), (q4, .inl (tc 0, 12, .inl (fun _ => 0))), (q5, .inl (tc 0, 12, .inl (fun _ => 0))), (q6, .inl (tc 0, 12, .inl (fun _ => 0)))]) := V
  refine lv_aload_n hx hb dX7_init_54 rfl (lv_at hl 0 rfl) ?_
  refine lv_bipush (v := 120) hx hb dX7_init_55 (by decide) ?_
  refine x_newI (N := 120) hx hb hts V (by decide) (by decide) (by decide) (Nat.le_of_ble_eq_true rfl) (Nat.le_of_ble_eq_true rfl) dX7_init_57 (fun q7 H V => ?_)
  replace V : Wd D tc A s H locs ([(o, .inr (6, [.int 0, .ref q1, .ref q2, .int 0, .int 0, .ref q3, .ref q4, .ref q5, .ref q6, .null, .null, .null, .null, .null, .null, .null, .int 0, .null, .null, .null, .null, .int 0, .long 0, .int 0, .int 0, .null, .int 0, .int 0, .null, .int 0])), (q1, .inl (tc 0, 128, .inl (fun _ => 0))), (q2, .inl (tc 0, 128, .inl (fun _ => 0))), (q3, .inl (tc 0, 12, .inl (fun _ => 0))), (q4, .inl (tc 0, 12, .inl (fun _ => 0))), (q5, .inl (tc 0, 12, .inl (fun _ => 0))), (q6, .inl (tc 0, 12, .inl (fun _ => 0))), (q7, .inl (tc 0, 120, .inl (fun _ => 0)))]) := V
  refine x_putF hx hb hts hown V inX7 tyX7_ok nmX7 0 rfl rfl 9 (by decide) tw_529 rfl rfl hin rfl rfl rfl (Nat.le_of_ble_eq_true rfl) dX7_init_59 (fun H locs V => ?_)
  replace V : Wd D tc A s H locs ([(o, .inr (6, [.int 0, .ref q1, .ref q2, .int 0, .int 0, .ref q3, .ref q4, .ref q5, .ref q6, .ref q7, .null, .null, .null, .null, .null, .null, .int 0, .null, .null, .null, .null, .int 0, .long 0, .int 0, .int 0, .null, .int 0, .int 0, .null, .int 0])), (q1, .inl (tc 0, 128, .inl (fun _ => 0))), (q2, .inl (tc 0, 128, .inl (fun _ => 0))), (q3, .inl (tc 0, 12, .inl (fun _ => 0))), (q4, .inl (tc 0, 12, .inl (fun _ => 0))), (q5, .inl (tc 0, 12, .inl (fun _ => 0))), (q6, .inl (tc 0, 12, .inl (fun _ => 0))), (q7, .inl (tc 0, 120, .inl (fun _ => 0)))]) := V
  refine lv_aload_n hx hb dX7_init_62 rfl (lv_at hl 0 rfl) ?_
  refine lv_bipush (v := 120) hx hb dX7_init_63 (by decide) ?_
  refine x_newI (N := 120) hx hb hts V (by decide) (by decide) (by decide) (Nat.le_of_ble_eq_true rfl) (Nat.le_of_ble_eq_true rfl) dX7_init_65 (fun q8 H V => ?_)
  replace V : Wd D tc A s H locs ([(o, .inr (6, [.int 0, .ref q1, .ref q2, .int 0, .int 0, .ref q3, .ref q4, .ref q5, .ref q6, .ref q7, .null, .null, .null, .null, .null, .null, .int 0, .null, .null, .null, .null, .int 0, .long 0, .int 0, .int 0, .null, .int 0, .int 0, .null, .int 0])), (q1, .inl (tc 0, 128, .inl (fun _ => 0))), (q2, .inl (tc 0, 128, .inl (fun _ => 0))), (q3, .inl (tc 0, 12, .inl (fun _ => 0))), (q4, .inl (tc 0, 12, .inl (fun _ => 0))), (q5, .inl (tc 0, 12, .inl (fun _ => 0))), (q6, .inl (tc 0, 12, .inl (fun _ => 0))), (q7, .inl (tc 0, 120, .inl (fun _ => 0))), (q8, .inl (tc 0, 120, .inl (fun _ => 0)))]) := V
  refine x_putF hx hb hts hown V inX7 tyX7_ok nmX7 0 rfl rfl 10 (by decide) tw_530 rfl rfl hin rfl rfl rfl (Nat.le_of_ble_eq_true rfl) dX7_init_67 (fun H locs V => ?_)
  replace V : Wd D tc A s H locs ([(o, .inr (6, [.int 0, .ref q1, .ref q2, .int 0, .int 0, .ref q3, .ref q4, .ref q5, .ref q6, .ref q7, .ref q8, .null, .null, .null, .null, .null, .int 0, .null, .null, .null, .null, .int 0, .long 0, .int 0, .int 0, .null, .int 0, .int 0, .null, .int 0])), (q1, .inl (tc 0, 128, .inl (fun _ => 0))), (q2, .inl (tc 0, 128, .inl (fun _ => 0))), (q3, .inl (tc 0, 12, .inl (fun _ => 0))), (q4, .inl (tc 0, 12, .inl (fun _ => 0))), (q5, .inl (tc 0, 12, .inl (fun _ => 0))), (q6, .inl (tc 0, 12, .inl (fun _ => 0))), (q7, .inl (tc 0, 120, .inl (fun _ => 0))), (q8, .inl (tc 0, 120, .inl (fun _ => 0)))]) := V
  refine lv_aload_n hx hb dX7_init_70 rfl (lv_at hl 0 rfl) ?_
  refine lv_bipush (v := 120) hx hb dX7_init_71 (by decide) ?_
  refine x_newI (N := 120) hx hb hts V (by decide) (by decide) (by decide) (Nat.le_of_ble_eq_true rfl) (Nat.le_of_ble_eq_true rfl) dX7_init_73 (fun q9 H V => ?_)
  replace V : Wd D tc A s H locs ([(o, .inr (6, [.int 0, .ref q1, .ref q2, .int 0, .int 0, .ref q3, .ref q4, .ref q5, .ref q6, .ref q7, .ref q8, .null, .null, .null, .null, .null, .int 0, .null, .null, .null, .null, .int 0, .long 0, .int 0, .int 0, .null, .int 0, .int 0, .null, .int 0])), (q1, .inl (tc 0, 128, .inl (fun _ => 0))), (q2, .inl (tc 0, 128, .inl (fun _ => 0))), (q3, .inl (tc 0, 12, .inl (fun _ => 0))), (q4, .inl (tc 0, 12, .inl (fun _ => 0))), (q5, .inl (tc 0, 12, .inl (fun _ => 0))), (q6, .inl (tc 0, 12, .inl (fun _ => 0))), (q7, .inl (tc 0, 120, .inl (fun _ => 0))), (q8, .inl (tc 0, 120, .inl (fun _ => 0))), (q9, .inl (tc 0, 120, .inl (fun _ => 0)))]) := V
  refine x_putF hx hb hts hown V inX7 tyX7_ok nmX7 0 rfl rfl 11 (by decide) tw_531 rfl rfl hin rfl rfl rfl (Nat.le_of_ble_eq_true rfl) dX7_init_75 (fun H locs V => ?_)
  replace V : Wd D tc A s H locs ([(o, .inr (6, [.int 0, .ref q1, .ref q2, .int 0, .int 0, .ref q3, .ref q4, .ref q5, .ref q6, .ref q7, .ref q8, .ref q9, .null, .null, .null, .null, .int 0, .null, .null, .null, .null, .int 0, .long 0, .int 0, .int 0, .null, .int 0, .int 0, .null, .int 0])), (q1, .inl (tc 0, 128, .inl (fun _ => 0))), (q2, .inl (tc 0, 128, .inl (fun _ => 0))), (q3, .inl (tc 0, 12, .inl (fun _ => 0))), (q4, .inl (tc 0, 12, .inl (fun _ => 0))), (q5, .inl (tc 0, 12, .inl (fun _ => 0))), (q6, .inl (tc 0, 12, .inl (fun _ => 0))), (q7, .inl (tc 0, 120, .inl (fun _ => 0))), (q8, .inl (tc 0, 120, .inl (fun _ => 0))), (q9, .inl (tc 0, 120, .inl (fun _ => 0)))]) := V
  refine lv_aload_n hx hb dX7_init_78 rfl (lv_at hl 0 rfl) ?_
  refine lv_bipush (v := 120) hx hb dX7_init_79 (by decide) ?_
  refine x_newI (N := 120) hx hb hts V (by decide) (by decide) (by decide) (Nat.le_of_ble_eq_true rfl) (Nat.le_of_ble_eq_true rfl) dX7_init_81 (fun q10 H V => ?_)
  replace V : Wd D tc A s H locs ([(o, .inr (6, [.int 0, .ref q1, .ref q2, .int 0, .int 0, .ref q3, .ref q4, .ref q5, .ref q6, .ref q7, .ref q8, .ref q9, .null, .null, .null, .null, .int 0, .null, .null, .null, .null, .int 0, .long 0, .int 0, .int 0, .null, .int 0, .int 0, .null, .int 0])), (q1, .inl (tc 0, 128, .inl (fun _ => 0))), (q2, .inl (tc 0, 128, .inl (fun _ => 0))), (q3, .inl (tc 0, 12, .inl (fun _ => 0))), (q4, .inl (tc 0, 12, .inl (fun _ => 0))), (q5, .inl (tc 0, 12, .inl (fun _ => 0))), (q6, .inl (tc 0, 12, .inl (fun _ => 0))), (q7, .inl (tc 0, 120, .inl (fun _ => 0))), (q8, .inl (tc 0, 120, .inl (fun _ => 0))), (q9, .inl (tc 0, 120, .inl (fun _ => 0))), (q10, .inl (tc 0, 120, .inl (fun _ => 0)))]) := V
  refine x_putF hx hb hts hown V inX7 tyX7_ok nmX7 0 rfl rfl 12 (by decide) tw_532 rfl rfl hin rfl rfl rfl (Nat.le_of_ble_eq_true rfl) dX7_init_83 (fun H locs V => ?_)
  replace V : Wd D tc A s H locs ([(o, .inr (6, [.int 0, .ref q1, .ref q2, .int 0, .int 0, .ref q3, .ref q4, .ref q5, .ref q6, .ref q7, .ref q8, .ref q9, .ref q10, .null, .null, .null, .int 0, .null, .null, .null, .null, .int 0, .long 0, .int 0, .int 0, .null, .int 0, .int 0, .null, .int 0])), (q1, .inl (tc 0, 128, .inl (fun _ => 0))), (q2, .inl (tc 0, 128, .inl (fun _ => 0))), (q3, .inl (tc 0, 12, .inl (fun _ => 0))), (q4, .inl (tc 0, 12, .inl (fun _ => 0))), (q5, .inl (tc 0, 12, .inl (fun _ => 0))), (q6, .inl (tc 0, 12, .inl (fun _ => 0))), (q7, .inl (tc 0, 120, .inl (fun _ => 0))), (q8, .inl (tc 0, 120, .inl (fun _ => 0))), (q9, .inl (tc 0, 120, .inl (fun _ => 0))), (q10, .inl (tc 0, 120, .inl (fun _ => 0)))]) := V
  refine lv_aload_n hx hb dX7_init_86 rfl (lv_at hl 0 rfl) ?_
  refine lv_bipush (v := 120) hx hb dX7_init_87 (by decide) ?_
  refine x_newI (N := 120) hx hb hts V (by decide) (by decide) (by decide) (Nat.le_of_ble_eq_true rfl) (Nat.le_of_ble_eq_true rfl) dX7_init_89 (fun q11 H V => ?_)
  replace V : Wd D tc A s H locs ([(o, .inr (6, [.int 0, .ref q1, .ref q2, .int 0, .int 0, .ref q3, .ref q4, .ref q5, .ref q6, .ref q7, .ref q8, .ref q9, .ref q10, .null, .null, .null, .int 0, .null, .null, .null, .null, .int 0, .long 0, .int 0, .int 0, .null, .int 0, .int 0, .null, .int 0])), (q1, .inl (tc 0, 128, .inl (fun _ => 0))), (q2, .inl (tc 0, 128, .inl (fun _ => 0))), (q3, .inl (tc 0, 12, .inl (fun _ => 0))), (q4, .inl (tc 0, 12, .inl (fun _ => 0))), (q5, .inl (tc 0, 12, .inl (fun _ => 0))), (q6, .inl (tc 0, 12, .inl (fun _ => 0))), (q7, .inl (tc 0, 120, .inl (fun _ => 0))), (q8, .inl (tc 0, 120, .inl (fun _ => 0))), (q9, .inl (tc 0, 120, .inl (fun _ => 0))), (q10, .inl (tc 0, 120, .inl (fun _ => 0))), (q11, .inl (tc 0, 120, .inl (fun _ => 0)))]) := V
  refine x_putF hx hb hts hown V inX7 tyX7_ok nmX7 0 rfl rfl 13 (by decide) tw_533 rfl rfl hin rfl rfl rfl (Nat.le_of_ble_eq_true rfl) dX7_init_91 (fun H locs V => ?_)
  replace V : Wd D tc A s H locs ([(o, .inr (6, [.int 0, .ref q1, .ref q2, .int 0, .int 0, .ref q3, .ref q4, .ref q5, .ref q6, .ref q7, .ref q8, .ref q9, .ref q10, .ref q11, .null, .null, .int 0, .null, .null, .null, .null, .int 0, .long 0, .int 0, .int 0, .null, .int 0, .int 0, .null, .int 0])), (q1, .inl (tc 0, 128, .inl (fun _ => 0))), (q2, .inl (tc 0, 128, .inl (fun _ => 0))), (q3, .inl (tc 0, 12, .inl (fun _ => 0))), (q4, .inl (tc 0, 12, .inl (fun _ => 0))), (q5, .inl (tc 0, 12, .inl (fun _ => 0))), (q6, .inl (tc 0, 12, .inl (fun _ => 0))), (q7, .inl (tc 0, 120, .inl (fun _ => 0))), (q8, .inl (tc 0, 120, .inl (fun _ => 0))), (q9, .inl (tc 0, 120, .inl (fun _ => 0))), (q10, .inl (tc 0, 120, .inl (fun _ => 0))), (q11, .inl (tc 0, 120, .inl (fun _ => 0)))]) := V
  refine lv_aload_n hx hb dX7_init_94 rfl (lv_at hl 0 rfl) ?_
  refine lv_bipush (v := 120) hx hb dX7_init_95 (by decide) ?_
  refine x_newI (N := 120) hx hb hts V (by decide) (by decide) (by decide) (Nat.le_of_ble_eq_true rfl) (Nat.le_of_ble_eq_true rfl) dX7_init_97 (fun q12 H V => ?_)
  replace V : Wd D tc A s H locs ([(o, .inr (6, [.int 0, .ref q1, .ref q2, .int 0, .int 0, .ref q3, .ref q4, .ref q5, .ref q6, .ref q7, .ref q8, .ref q9, .ref q10, .ref q11, .null, .null, .int 0, .null, .null, .null, .null, .int 0, .long 0, .int 0, .int 0, .null, .int 0, .int 0, .null, .int 0])), (q1, .inl (tc 0, 128, .inl (fun _ => 0))), (q2, .inl (tc 0, 128, .inl (fun _ => 0))), (q3, .inl (tc 0, 12, .inl (fun _ => 0))), (q4, .inl (tc 0, 12, .inl (fun _ => 0))), (q5, .inl (tc 0, 12, .inl (fun _ => 0))), (q6, .inl (tc 0, 12, .inl (fun _ => 0))), (q7, .inl (tc 0, 120, .inl (fun _ => 0))), (q8, .inl (tc 0, 120, .inl (fun _ => 0))), (q9, .inl (tc 0, 120, .inl (fun _ => 0))), (q10, .inl (tc 0, 120, .inl (fun _ => 0))), (q11, .inl (tc 0, 120, .inl (fun _ => 0))), (q12, .inl (tc 0, 120, .inl (fun _ => 0)))]) := V
  refine x_putF hx hb hts hown V inX7 tyX7_ok nmX7 0 rfl rfl 14 (by decide) tw_534 rfl rfl hin rfl rfl rfl (Nat.le_of_ble_eq_true rfl) dX7_init_99 (fun H locs V => ?_)
  replace V : Wd D tc A s H locs ([(o, .inr (6, [.int 0, .ref q1, .ref q2, .int 0, .int 0, .ref q3, .ref q4, .ref q5, .ref q6, .ref q7, .ref q8, .ref q9, .ref q10, .ref q11, .ref q12, .null, .int 0, .null, .null, .null, .null, .int 0, .long 0, .int 0, .int 0, .null, .int 0, .int 0, .null, .int 0])), (q1, .inl (tc 0, 128, .inl (fun _ => 0))), (q2, .inl (tc 0, 128, .inl (fun _ => 0))), (q3, .inl (tc 0, 12, .inl (fun _ => 0))), (q4, .inl (tc 0, 12, .inl (fun _ => 0))), (q5, .inl (tc 0, 12, .inl (fun _ => 0))), (q6, .inl (tc 0, 12, .inl (fun _ => 0))), (q7, .inl (tc 0, 120, .inl (fun _ => 0))), (q8, .inl (tc 0, 120, .inl (fun _ => 0))), (q9, .inl (tc 0, 120, .inl (fun _ => 0))), (q10, .inl (tc 0, 120, .inl (fun _ => 0))), (q11, .inl (tc 0, 120, .inl (fun _ => 0))), (q12, .inl (tc 0, 120, .inl (fun _ => 0)))]) := V
  refine lv_aload_n hx hb dX7_init_102 rfl (lv_at hl 0 rfl) ?_
  refine lv_bipush (v := 120) hx hb dX7_init_103 (by decide) ?_
  refine x_newI (N := 120) hx hb hts V (by decide) (by decide) (by decide) (Nat.le_of_ble_eq_true rfl) (Nat.le_of_ble_eq_true rfl) dX7_init_105 (fun q13 H V => ?_)
  replace V : Wd D tc A s H locs ([(o, .inr (6, [.int 0, .ref q1, .ref q2, .int 0, .int 0, .ref q3, .ref q4, .ref q5, .ref q6, .ref q7, .ref q8, .ref q9, .ref q10, .ref q11, .ref q12, .null, .int 0, .null, .null, .null, .null, .int 0, .long 0, .int 0, .int 0, .null, .int 0, .int 0, .null, .int 0])), (q1, .inl (tc 0, 128, .inl (fun _ => 0))), (q2, .inl (tc 0, 128, .inl (fun _ => 0))), (q3, .inl (tc 0, 12, .inl (fun _ => 0))), (q4, .inl (tc 0, 12, .inl (fun _ => 0))), (q5, .inl (tc 0, 12, .inl (fun _ => 0))), (q6, .inl (tc 0, 12, .inl (fun _ => 0))), (q7, .inl (tc 0, 120, .inl (fun _ => 0))), (q8, .inl (tc 0, 120, .inl (fun _ => 0))), (q9, .inl (tc 0, 120, .inl (fun _ => 0))), (q10, .inl (tc 0, 120, .inl (fun _ => 0))), (q11, .inl (tc 0, 120, .inl (fun _ => 0))), (q12, .inl (tc 0, 120, .inl (fun _ => 0))), (q13, .inl (tc 0, 120, .inl (fun _ => 0)))]) := V
  refine x_putF hx hb hts hown V inX7 tyX7_ok nmX7 0 rfl rfl 15 (by decide) tw_535 rfl rfl hin rfl rfl rfl (Nat.le_of_ble_eq_true rfl) dX7_init_107 (fun H locs V => ?_)
  replace V : Wd D tc A s H locs ([(o, .inr (6, [.int 0, .ref q1, .ref q2, .int 0, .int 0, .ref q3, .ref q4, .ref q5, .ref q6, .ref q7, .ref q8, .ref q9, .ref q10, .ref q11, .ref q12, .ref q13, .int 0, .null, .null, .null, .null, .int 0, .long 0, .int 0, .int 0, .null, .int 0, .int 0, .null, .int 0])), (q1, .inl (tc 0, 128, .inl (fun _ => 0))), (q2, .inl (tc 0, 128, .inl (fun _ => 0))), (q3, .inl (tc 0, 12, .inl (fun _ => 0))), (q4, .inl (tc 0, 12, .inl (fun _ => 0))), (q5, .inl (tc 0, 12, .inl (fun _ => 0))), (q6, .inl (tc 0, 12, .inl (fun _ => 0))), (q7, .inl (tc 0, 120, .inl (fun _ => 0))), (q8, .inl (tc 0, 120, .inl (fun _ => 0))), (q9, .inl (tc 0, 120, .inl (fun _ => 0))), (q10, .inl (tc 0, 120, .inl (fun _ => 0))), (q11, .inl (tc 0, 120, .inl (fun _ => 0))), (q12, .inl (tc 0, 120, .inl (fun _ => 0))), (q13, .inl (tc 0, 120, .inl (fun _ => 0)))]) := V
  refine lv_aload_n hx hb dX7_init_110 rfl (lv_at hl 0 rfl) ?_
  refine lv_sipush (v := 132) hx hb dX7_init_111 (by decide) ?_
  refine x_newI (N := 132) hx hb hts V (by decide) (by decide) (by decide) (Nat.le_of_ble_eq_true rfl) (Nat.le_of_ble_eq_true rfl) dX7_init_114 (fun q14 H V => ?_)
  replace V : Wd D tc A s H locs ([(o, .inr (6, [.int 0, .ref q1, .ref q2, .int 0, .int 0, .ref q3, .ref q4, .ref q5, .ref q6, .ref q7, .ref q8, .ref q9, .ref q10, .ref q11, .ref q12, .ref q13, .int 0, .null, .null, .null, .null, .int 0, .long 0, .int 0, .int 0, .null, .int 0, .int 0, .null, .int 0])), (q1, .inl (tc 0, 128, .inl (fun _ => 0))), (q2, .inl (tc 0, 128, .inl (fun _ => 0))), (q3, .inl (tc 0, 12, .inl (fun _ => 0))), (q4, .inl (tc 0, 12, .inl (fun _ => 0))), (q5, .inl (tc 0, 12, .inl (fun _ => 0))), (q6, .inl (tc 0, 12, .inl (fun _ => 0))), (q7, .inl (tc 0, 120, .inl (fun _ => 0))), (q8, .inl (tc 0, 120, .inl (fun _ => 0))), (q9, .inl (tc 0, 120, .inl (fun _ => 0))), (q10, .inl (tc 0, 120, .inl (fun _ => 0))), (q11, .inl (tc 0, 120, .inl (fun _ => 0))), (q12, .inl (tc 0, 120, .inl (fun _ => 0))), (q13, .inl (tc 0, 120, .inl (fun _ => 0))), (q14, .inl (tc 0, 132, .inl (fun _ => 0)))]) := V
  refine x_putF hx hb hts hown V inX7 tyX7_ok nmX7 0 rfl rfl 17 (by decide) tw_537 rfl rfl hin rfl rfl rfl (Nat.le_of_ble_eq_true rfl) dX7_init_116 (fun H locs V => ?_)
  replace V : Wd D tc A s H locs ([(o, .inr (6, [.int 0, .ref q1, .ref q2, .int 0, .int 0, .ref q3, .ref q4, .ref q5, .ref q6, .ref q7, .ref q8, .ref q9, .ref q10, .ref q11, .ref q12, .ref q13, .int 0, .ref q14, .null, .null, .null, .int 0, .long 0, .int 0, .int 0, .null, .int 0, .int 0, .null, .int 0])), (q1, .inl (tc 0, 128, .inl (fun _ => 0))), (q2, .inl (tc 0, 128, .inl (fun _ => 0))), (q3, .inl (tc 0, 12, .inl (fun _ => 0))), (q4, .inl (tc 0, 12, .inl (fun _ => 0))), (q5, .inl (tc 0, 12, .inl (fun _ => 0))), (q6, .inl (tc 0, 12, .inl (fun _ => 0))), (q7, .inl (tc 0, 120, .inl (fun _ => 0))), (q8, .inl (tc 0, 120, .inl (fun _ => 0))), (q9, .inl (tc 0, 120, .inl (fun _ => 0))), (q10, .inl (tc 0, 120, .inl (fun _ => 0))), (q11, .inl (tc 0, 120, .inl (fun _ => 0))), (q12, .inl (tc 0, 120, .inl (fun _ => 0))), (q13, .inl (tc 0, 120, .inl (fun _ => 0))), (q14, .inl (tc 0, 132, .inl (fun _ => 0)))]) := V
  refine lv_aload_n hx hb dX7_init_119 rfl (lv_at hl 0 rfl) ?_
  refine lv_bipush (v := 11) hx hb dX7_init_120 (by decide) ?_
  refine x_newI (N := 11) hx hb hts V (by decide) (by decide) (by decide) (Nat.le_of_ble_eq_true rfl) (Nat.le_of_ble_eq_true rfl) dX7_init_122 (fun q15 H V => ?_)
  replace V : Wd D tc A s H locs ([(o, .inr (6, [.int 0, .ref q1, .ref q2, .int 0, .int 0, .ref q3, .ref q4, .ref q5, .ref q6, .ref q7, .ref q8, .ref q9, .ref q10, .ref q11, .ref q12, .ref q13, .int 0, .ref q14, .null, .null, .null, .int 0, .long 0, .int 0, .int 0, .null, .int 0, .int 0, .null, .int 0])), (q1, .inl (tc 0, 128, .inl (fun _ => 0))), (q2, .inl (tc 0, 128, .inl (fun _ => 0))), (q3, .inl (tc 0, 12, .inl (fun _ => 0))), (q4, .inl (tc 0, 12, .inl (fun _ => 0))), (q5, .inl (tc 0, 12, .inl (fun _ => 0))), (q6, .inl (tc 0, 12, .inl (fun _ => 0))), (q7, .inl (tc 0, 120, .inl (fun _ => 0))), (q8, .inl (tc 0, 120, .inl (fun _ => 0))), (q9, .inl (tc 0, 120, .inl (fun _ => 0))), (q10, .inl (tc 0, 120, .inl (fun _ => 0))), (q11, .inl (tc 0, 120, .inl (fun _ => 0))), (q12, .inl (tc 0, 120, .inl (fun _ => 0))), (q13, .inl (tc 0, 120, .inl (fun _ => 0))), (q14, .inl (tc 0, 132, .inl (fun _ => 0))), (q15, .inl (tc 0, 11, .inl (fun _ => 0)))]) := V
  refine x_putF hx hb hts hown V inX7 tyX7_ok nmX7 0 rfl rfl 18 (by decide) tw_538 rfl rfl hin rfl rfl rfl (Nat.le_of_ble_eq_true rfl) dX7_init_124 (fun H locs V => ?_)
  replace V : Wd D tc A s H locs ([(o, .inr (6, [.int 0, .ref q1, .ref q2, .int 0, .int 0, .ref q3, .ref q4, .ref q5, .ref q6, .ref q7, .ref q8, .ref q9, .ref q10, .ref q11, .ref q12, .ref q13, .int 0, .ref q14, .ref q15, .null, .null, .int 0, .long 0, .int 0, .int 0, .null, .int 0, .int 0, .null, .int 0])), (q1, .inl (tc 0, 128, .inl (fun _ => 0))), (q2, .inl (tc 0, 128, .inl (fun _ => 0))), (q3, .inl (tc 0, 12, .inl (fun _ => 0))), (q4, .inl (tc 0, 12, .inl (fun _ => 0))), (q5, .inl (tc 0, 12, .inl (fun _ => 0))), (q6, .inl (tc 0, 12, .inl (fun _ => 0))), (q7, .inl (tc 0, 120, .inl (fun _ => 0))), (q8, .inl (tc 0, 120, .inl (fun _ => 0))), (q9, .inl (tc 0, 120, .inl (fun _ => 0))), (q10, .inl (tc 0, 120, .inl (fun _ => 0))), (q11, .inl (tc 0, 120, .inl (fun _ => 0))), (q12, .inl (tc 0, 120, .inl (fun _ => 0))), (q13, .inl (tc 0, 120, .inl (fun _ => 0))), (q14, .inl (tc 0, 132, .inl (fun _ => 0))), (q15, .inl (tc 0, 11, .inl (fun _ => 0)))]) := V
  refine lv_aload_n hx hb dX7_init_127 rfl (lv_at hl 0 rfl) ?_
  refine lv_bipush (v := 11) hx hb dX7_init_128 (by decide) ?_
  refine x_newI (N := 11) hx hb hts V (by decide) (by decide) (by decide) (Nat.le_of_ble_eq_true rfl) (Nat.le_of_ble_eq_true rfl) dX7_init_130 (fun q16 H V => ?_)
  replace V : Wd D tc A s H locs ([(o, .inr (6, [.int 0, .ref q1, .ref q2, .int 0, .int 0, .ref q3, .ref q4, .ref q5, .ref q6, .ref q7, .ref q8, .ref q9, .ref q10, .ref q11, .ref q12, .ref q13, .int 0, .ref q14, .ref q15, .null, .null, .int 0, .long 0, .int 0, .int 0, .null, .int 0, .int 0, .null, .int 0])), (q1, .inl (tc 0, 128, .inl (fun _ => 0))), (q2, .inl (tc 0, 128, .inl (fun _ => 0))), (q3, .inl (tc 0, 12, .inl (fun _ => 0))), (q4, .inl (tc 0, 12, .inl (fun _ => 0))), (q5, .inl (tc 0, 12, .inl (fun _ => 0))), (q6, .inl (tc 0, 12, .inl (fun _ => 0))), (q7, .inl (tc 0, 120, .inl (fun _ => 0))), (q8, .inl (tc 0, 120, .inl (fun _ => 0))), (q9, .inl (tc 0, 120, .inl (fun _ => 0))), (q10, .inl (tc 0, 120, .inl (fun _ => 0))), (q11, .inl (tc 0, 120, .inl (fun _ => 0))), (q12, .inl (tc 0, 120, .inl (fun _ => 0))), (q13, .inl (tc 0, 120, .inl (fun _ => 0))), (q14, .inl (tc 0, 132, .inl (fun _ => 0))), (q15, .inl (tc 0, 11, .inl (fun _ => 0))), (q16, .inl (tc 0, 11, .inl (fun _ => 0)))]) := V
  refine x_putF hx hb hts hown V inX7 tyX7_ok nmX7 0 rfl rfl 19 (by decide) tw_539 rfl rfl hin rfl rfl rfl (Nat.le_of_ble_eq_true rfl) dX7_init_132 (fun H locs V => ?_)
  replace V : Wd D tc A s H locs ([(o, .inr (6, [.int 0, .ref q1, .ref q2, .int 0, .int 0, .ref q3, .ref q4, .ref q5, .ref q6, .ref q7, .ref q8, .ref q9, .ref q10, .ref q11, .ref q12, .ref q13, .int 0, .ref q14, .ref q15, .ref q16, .null, .int 0, .long 0, .int 0, .int 0, .null, .int 0, .int 0, .null, .int 0])), (q1, .inl (tc 0, 128, .inl (fun _ => 0))), (q2, .inl (tc 0, 128, .inl (fun _ => 0))), (q3, .inl (tc 0, 12, .inl (fun _ => 0))), (q4, .inl (tc 0, 12, .inl (fun _ => 0))), (q5, .inl (tc 0, 12, .inl (fun _ => 0))), (q6, .inl (tc 0, 12, .inl (fun _ => 0))), (q7, .inl (tc 0, 120, .inl (fun _ => 0))), (q8, .inl (tc 0, 120, .inl (fun _ => 0))), (q9, .inl (tc 0, 120, .inl (fun _ => 0))), (q10, .inl (tc 0, 120, .inl (fun _ => 0))), (q11, .inl (tc 0, 120, .inl (fun _ => 0))), (q12, .inl (tc 0, 120, .inl (fun _ => 0))), (q13, .inl (tc 0, 120, .inl (fun _ => 0))), (q14, .inl (tc 0, 132, .inl (fun _ => 0))), (q15, .inl (tc 0, 11, .inl (fun _ => 0))), (q16, .inl (tc 0, 11, .inl (fun _ => 0)))]) := V
  refine lv_aload_n hx hb dX7_init_135 rfl (lv_at hl 0 rfl) ?_
  refine lv_bipush (v := 10) hx hb dX7_init_136 (by decide) ?_
  refine x_newI (N := 10) hx hb hts V (by decide) (by decide) (by decide) (Nat.le_of_ble_eq_true rfl) (Nat.le_of_ble_eq_true rfl) dX7_init_138 (fun q17 H V => ?_)
  replace V : Wd D tc A s H locs ([(o, .inr (6, [.int 0, .ref q1, .ref q2, .int 0, .int 0, .ref q3, .ref q4, .ref q5, .ref q6, .ref q7, .ref q8, .ref q9, .ref q10, .ref q11, .ref q12, .ref q13, .int 0, .ref q14, .ref q15, .ref q16, .null, .int 0, .long 0, .int 0, .int 0, .null, .int 0, .int 0, .null, .int 0])), (q1, .inl (tc 0, 128, .inl (fun _ => 0))), (q2, .inl (tc 0, 128, .inl (fun _ => 0))), (q3, .inl (tc 0, 12, .inl (fun _ => 0))), (q4, .inl (tc 0, 12, .inl (fun _ => 0))), (q5, .inl (tc 0, 12, .inl (fun _ => 0))), (q6, .inl (tc 0, 12, .inl (fun _ => 0))), (q7, .inl (tc 0, 120, .inl (fun _ => 0))), (q8, .inl (tc 0, 120, .inl (fun _ => 0))), (q9, .inl (tc 0, 120, .inl (fun _ => 0))), (q10, .inl (tc 0, 120, .inl (fun _ => 0))), (q11, .inl (tc 0, 120, .inl (fun _ => 0))), (q12, .inl (tc 0, 120, .inl (fun _ => 0))), (q13, .inl (tc 0, 120, .inl (fun _ => 0))), (q14, .inl (tc 0, 132, .inl (fun _ => 0))), (q15, .inl (tc 0, 11, .inl (fun _ => 0))), (q16, .inl (tc 0, 11, .inl (fun _ => 0))), (q17, .inl (tc 0, 10, .inl (fun _ => 0)))]) := V
  refine x_putF hx hb hts hown V inX7 tyX7_ok nmX7 0 rfl rfl 20 (by decide) tw_540 rfl rfl hin rfl rfl rfl (Nat.le_of_ble_eq_true rfl) dX7_init_140 (fun H locs V => ?_)
  replace V : Wd D tc A s H locs ([(o, .inr (6, [.int 0, .ref q1, .ref q2, .int 0, .int 0, .ref q3, .ref q4, .ref q5, .ref q6, .ref q7, .ref q8, .ref q9, .ref q10, .ref q11, .ref q12, .ref q13, .int 0, .ref q14, .ref q15, .ref q16, .ref q17, .int 0, .long 0, .int 0, .int 0, .null, .int 0, .int 0, .null, .int 0])), (q1, .inl (tc 0, 128, .inl (fun _ => 0))), (q2, .inl (tc 0, 128, .inl (fun _ => 0))), (q3, .inl (tc 0, 12, .inl (fun _ => 0))), (q4, .inl (tc 0, 12, .inl (fun _ => 0))), (q5, .inl (tc 0, 12, .inl (fun _ => 0))), (q6, .inl (tc 0, 12, .inl (fun _ => 0))), (q7, .inl (tc 0, 120, .inl (fun _ => 0))), (q8, .inl (tc 0, 120, .inl (fun _ => 0))), (q9, .inl (tc 0, 120, .inl (fun _ => 0))), (q10, .inl (tc 0, 120, .inl (fun _ => 0))), (q11, .inl (tc 0, 120, .inl (fun _ => 0))), (q12, .inl (tc 0, 120, .inl (fun _ => 0))), (q13, .inl (tc 0, 120, .inl (fun _ => 0))), (q14, .inl (tc 0, 132, .inl (fun _ => 0))), (q15, .inl (tc 0, 11, .inl (fun _ => 0))), (q16, .inl (tc 0, 11, .inl (fun _ => 0))), (q17, .inl (tc 0, 10, .inl (fun _ => 0)))]) := V
  refine lv_aload_n hx hb dX7_init_143 rfl (lv_at hl 0 rfl) ?_
  refine lv_sipush (v := 8000) hx hb dX7_init_144 (by decide) ?_
  refine x_newI (N := 8000) hx hb hts V (by decide) (by decide) (by decide) (Nat.le_of_ble_eq_true rfl) (Nat.le_of_ble_eq_true rfl) dX7_init_147 (fun q18 H V => ?_)
  replace V : Wd D tc A s H locs ([(o, .inr (6, [.int 0, .ref q1, .ref q2, .int 0, .int 0, .ref q3, .ref q4, .ref q5, .ref q6, .ref q7, .ref q8, .ref q9, .ref q10, .ref q11, .ref q12, .ref q13, .int 0, .ref q14, .ref q15, .ref q16, .ref q17, .int 0, .long 0, .int 0, .int 0, .null, .int 0, .int 0, .null, .int 0])), (q1, .inl (tc 0, 128, .inl (fun _ => 0))), (q2, .inl (tc 0, 128, .inl (fun _ => 0))), (q3, .inl (tc 0, 12, .inl (fun _ => 0))), (q4, .inl (tc 0, 12, .inl (fun _ => 0))), (q5, .inl (tc 0, 12, .inl (fun _ => 0))), (q6, .inl (tc 0, 12, .inl (fun _ => 0))), (q7, .inl (tc 0, 120, .inl (fun _ => 0))), (q8, .inl (tc 0, 120, .inl (fun _ => 0))), (q9, .inl (tc 0, 120, .inl (fun _ => 0))), (q10, .inl (tc 0, 120, .inl (fun _ => 0))), (q11, .inl (tc 0, 120, .inl (fun _ => 0))), (q12, .inl (tc 0, 120, .inl (fun _ => 0))), (q13, .inl (tc 0, 120, .inl (fun _ => 0))), (q14, .inl (tc 0, 132, .inl (fun _ => 0))), (q15, .inl (tc 0, 11, .inl (fun _ => 0))), (q16, .inl (tc 0, 11, .inl (fun _ => 0))), (q17, .inl (tc 0, 10, .inl (fun _ => 0))), (q18, .inl (tc 0, 8000, .inl (fun _ => 0)))]) := V
  refine x_putF hx hb hts hown V inX7 tyX7_ok nmX7 0 rfl rfl 25 (by decide) tw_545 rfl rfl hin rfl rfl rfl (Nat.le_of_ble_eq_true rfl) dX7_init_149 (fun H locs V => ?_)
  replace V : Wd D tc A s H locs ([(o, .inr (6, [.int 0, .ref q1, .ref q2, .int 0, .int 0, .ref q3, .ref q4, .ref q5, .ref q6, .ref q7, .ref q8, .ref q9, .ref q10, .ref q11, .ref q12, .ref q13, .int 0, .ref q14, .ref q15, .ref q16, .ref q17, .int 0, .long 0, .int 0, .int 0, .ref q18, .int 0, .int 0, .null, .int 0])), (q1, .inl (tc 0, 128, .inl (fun _ => 0))), (q2, .inl (tc 0, 128, .inl (fun _ => 0))), (q3, .inl (tc 0, 12, .inl (fun _ => 0))), (q4, .inl (tc 0, 12, .inl (fun _ => 0))), (q5, .inl (tc 0, 12, .inl (fun _ => 0))), (q6, .inl (tc 0, 12, .inl (fun _ => 0))), (q7, .inl (tc 0, 120, .inl (fun _ => 0))), (q8, .inl (tc 0, 120, .inl (fun _ => 0))), (q9, .inl (tc 0, 120, .inl (fun _ => 0))), (q10, .inl (tc 0, 120, .inl (fun _ => 0))), (q11, .inl (tc 0, 120, .inl (fun _ => 0))), (q12, .inl (tc 0, 120, .inl (fun _ => 0))), (q13, .inl (tc 0, 120, .inl (fun _ => 0))), (q14, .inl (tc 0, 132, .inl (fun _ => 0))), (q15, .inl (tc 0, 11, .inl (fun _ => 0))), (q16, .inl (tc 0, 11, .inl (fun _ => 0))), (q17, .inl (tc 0, 10, .inl (fun _ => 0))), (q18, .inl (tc 0, 8000, .inl (fun _ => 0)))]) := V
  refine lv_aload_n hx hb dX7_init_152 rfl (lv_at hl 0 rfl) ?_
  refine lv_bipush (v := 10) hx hb dX7_init_153 (by decide) ?_
  refine x_newI (N := 10) hx hb hts V (by decide) (by decide) (by decide) (Nat.le_of_ble_eq_true rfl) (Nat.le_of_ble_eq_true rfl) dX7_init_155 (fun q19 H V => ?_)
  replace V : Wd D tc A s H locs ([(o, .inr (6, [.int 0, .ref q1, .ref q2, .int 0, .int 0, .ref q3, .ref q4, .ref q5, .ref q6, .ref q7, .ref q8, .ref q9, .ref q10, .ref q11, .ref q12, .ref q13, .int 0, .ref q14, .ref q15, .ref q16, .ref q17, .int 0, .long 0, .int 0, .int 0, .ref q18, .int 0, .int 0, .null, .int 0])), (q1, .inl (tc 0, 128, .inl (fun _ => 0))), (q2, .inl (tc 0, 128, .inl (fun _ => 0))), (q3, .inl (tc 0, 12, .inl (fun _ => 0))), (q4, .inl (tc 0, 12, .inl (fun _ => 0))), (q5, .inl (tc 0, 12, .inl (fun _ => 0))), (q6, .inl (tc 0, 12, .inl (fun _ => 0))), (q7, .inl (tc 0, 120, .inl (fun _ => 0))), (q8, .inl (tc 0, 120, .inl (fun _ => 0))), (q9, .inl (tc 0, 120, .inl (fun _ => 0))), (q10, .inl (tc 0, 120, .inl (fun _ => 0))), (q11, .inl (tc 0, 120, .inl (fun _ => 0))), (q12, .inl (tc 0, 120, .inl (fun _ => 0))), (q13, .inl (tc 0, 120, .inl (fun _ => 0))), (q14, .inl (tc 0, 132, .inl (fun _ => 0))), (q15, .inl (tc 0, 11, .inl (fun _ => 0))), (q16, .inl (tc 0, 11, .inl (fun _ => 0))), (q17, .inl (tc 0, 10, .inl (fun _ => 0))), (q18, .inl (tc 0, 8000, .inl (fun _ => 0))), (q19, .inl (tc 0, 10, .inl (fun _ => 0)))]) := V
  refine x_putF hx hb hts hown V inX7 tyX7_ok nmX7 0 rfl rfl 28 (by decide) tw_548 rfl rfl hin rfl rfl rfl (Nat.le_of_ble_eq_true rfl) dX7_init_157 (fun H locs V => ?_)
  replace V : Wd D tc A s H locs ([(o, .inr (6, [.int 0, .ref q1, .ref q2, .int 0, .int 0, .ref q3, .ref q4, .ref q5, .ref q6, .ref q7, .ref q8, .ref q9, .ref q10, .ref q11, .ref q12, .ref q13, .int 0, .ref q14, .ref q15, .ref q16, .ref q17, .int 0, .long 0, .int 0, .int 0, .ref q18, .int 0, .int 0, .ref q19, .int 0])), (q1, .inl (tc 0, 128, .inl (fun _ => 0))), (q2, .inl (tc 0, 128, .inl (fun _ => 0))), (q3, .inl (tc 0, 12, .inl (fun _ => 0))), (q4, .inl (tc 0, 12, .inl (fun _ => 0))), (q5, .inl (tc 0, 12, .inl (fun _ => 0))), (q6, .inl (tc 0, 12, .inl (fun _ => 0))), (q7, .inl (tc 0, 120, .inl (fun _ => 0))), (q8, .inl (tc 0, 120, .inl (fun _ => 0))), (q9, .inl (tc 0, 120, .inl (fun _ => 0))), (q10, .inl (tc 0, 120, .inl (fun _ => 0))), (q11, .inl (tc 0, 120, .inl (fun _ => 0))), (q12, .inl (tc 0, 120, .inl (fun _ => 0))), (q13, .inl (tc 0, 120, .inl (fun _ => 0))), (q14, .inl (tc 0, 132, .inl (fun _ => 0))), (q15, .inl (tc 0, 11, .inl (fun _ => 0))), (q16, .inl (tc 0, 11, .inl (fun _ => 0))), (q17, .inl (tc 0, 10, .inl (fun _ => 0))), (q18, .inl (tc 0, 8000, .inl (fun _ => 0))), (q19, .inl (tc 0, 10, .inl (fun _ => 0)))]) := V
  exact x_vreti (RT := _) (Nat.le_of_ble_eq_true rfl) (Nat.le_of_ble_eq_true rfl) C hA ⟨rfl, (fun p => if p = 1 then q1 else if p = 2 then q2 else if p = 5 then q3 else if p = 6 then q4 else if p = 7 then q5 else if p = 8 then q6 else if p = 9 then q7 else if p = 10 then q8 else if p = 11 then q9 else if p = 12 then q10 else if p = 13 then q11 else if p = 14 then q12 else if p = 15 then q13 else if p = 17 then q14 else if p = 18 then q15 else if p = 19 then q16 else if p = 20 then q17 else if p = 25 then q18 else if p = 28 then q19 else 0), rfl⟩ V dX7_init_160)
