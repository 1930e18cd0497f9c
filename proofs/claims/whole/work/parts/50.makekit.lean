/-! constructors: contracts that make cells -/
def PcN (D : va_G) (ty : List (ClassId × FieldType)) (w0 : va_W) (sz : Nat) (av : List Value) : Array Value → State → Prop := va_Pc av (fun U => U.heap.size = sz ∧ va_P D classes w0 U.heap ∧ va_K D classes ty U ∧ NWs U ∧ va_D (fun _ => True) w0 ∧ va_AO RX2 U)
def QN (D : va_G) (Post : va_W → Prop) (A : Nat → Prop) : Array Value → State → Outcome → State → Prop := fun _ st oc t => (oc = .returned none ∧ ∃ w1, Post w1 ∧ va_P D classes w1 t.heap ∧ va_D A w1) ∧ va_F A st t
def CtN (l : Launch) (D : va_G) (ty : List (ClassId × FieldType)) (y : MethodName) (cc : ByteArray) (mx : Nat) (rm : Room) (mc ms : Nat) (av : List Value) (w0 : va_W) (Post : va_W → Prop) : Prop := ∀ sz : Nat, Met l y (Cond.code y cc mx none :: tbg) rm (PcN D ty w0 sz av) (QN D Post (va_A w0 sz)) mc ms (va_A w0 sz)
def RmN (d mc ms : Nat) : Room := { frames := d, cells := mc, slots := ms, locals := 33 * d }
theorem CtN_of {l : Launch} {D : va_G} {ty : List (ClassId × FieldType)} {y : MethodName} {cc : ByteArray} {mx : Nat} {rm : Room} {mc ms : Nat} {av : List Value} {w0 : va_W} {Post : va_W → Prop} (hy : plainName y.cls = true) (hlen : (lg_sl av).length ≤ mx) (hyn : y.name = "<init>")
    (body : ∀ (p : Program) (e : Env) (s : State) (m : MethodId) (args : Array Value) (below : List Frame) (meth : Method) (c : Code) (A : Nat → Prop) (ls : Array Slot), Cx p s m args meth c y.cls cc mx none → va_AO RX2 s → meth.name = "<init>" → va_K D classes ty s → (∀ q, s.heap.size ≤ q → A q) → va_P D classes w0 s.heap → va_D A w0 → va_S A s.heap s.heap [] → lv_has ls mx (lv_args 0 av) → W p l e rm s m args below meth c s.heap [] 0 0 (MQ below (QN D Post A) args s mc ms A) (F0 m 0 ls [])) : CtN l D ty y cc mx rm mc ms av w0 Post := by
  intro sz
  refine Met.ofW (cc := cc) (maxL := mx) (ret := none) hy rfl ?_
  intro p e s m args below meth c s₁ B hml hv
  obtain ⟨rfl, hsz, hP, hK, hN, hD0, hao⟩ := hv
  subst hsz
  have hts := atoms_spec (ws := Cond.code y cc mx none :: tbg) B.pre
  have hl := lv_entry av (n := mx) hlen
  have hin : meth.name = "<init>" := ((name_of_methodNamed B.named B.method).1).trans hyn
  rw [lg_entry_eq]
  exact body p e s m _ below meth c (va_A w0 s.heap.size) _ ⟨B.exec, B.bytes, B.returns, hml, findClass_of_methodNamed B.named, fun w h => hts w (List.mem_cons_of_mem _ h), B.notSynchronized, hN⟩ hao hin hK (fun q h => Or.inr h) hP hD0.self va_S.rf hl
section KN
variable {p : Program} {l : Launch} {e : Env} {R : Room} {s : State} {m : MethodId} {args : Array Value} {below : List Frame} {meth : Method} {c : Code} {H : Heap} {locs : List Loc} {cells slots : Nat} {Q : State → Prop}
variable {cc : ByteArray} {pc mx : Nat} {ls : Array Slot} {rest : List Value} {A : Nat → Prop} {D : va_G} {ty : List (ClassId × FieldType)} {own : String} {w1 ws : va_W} {cI cS : ClassId} {ret : Option FieldType}
theorem rt_n {Post : va_W → Prop} (C : Cx p s m args meth c own cc mx none) (hP : va_P D classes w1 H) (hD : va_D A w1) (hS : va_S A s.heap H locs) (hpost : Post w1) (hdg : decode cc pc = .ok (.return_, 1)) : W p l e R s m args below meth c H locs cells slots (MQ below (QN D Post A) args s cells slots A) (F0 m pc ls []) :=
  W.vret C.1 C.2.1 C.2.2.1 (fun t ht hW => ⟨⟨rfl, w1, hpost, by rw [ht]; exact hP, hD⟩, hS.F ht⟩) hS.2.2 hdg (hlocks := C.2.2.2.2.2.2.1)
theorem ob_n {idx a : Nat} (C : Cx p s m args meth c own cc mx ret) (hl : ls.size = mx) (hlink : Cond.methodLink own idx objectInit ∈ tbg) (hdg : decode cc pc = .ok (.invokespecial idx, 3)) (hf : 1 ≤ R.frames) (hlo : 2 * (F0 m pc ls (.ref a :: rest)).monitorRoom + (rest.map fun v => v.category).sum + 12 ≤ R.locals)
    (kk : W p l e R s m args below meth c H locs cells slots Q (F0 m (pc + 3) ls rest)) : W p l e R s m args below meth c H locs cells slots Q (F0 m pc ls (.ref a :: rest)) := by
  obtain ⟨hx, hb, hr, hml, hown, hts, hlk, hnw⟩ := C
  exact W.objInit hx hb hown (hts _ hlink) (hts _ tw_16) (hts _ tw_17) rfl (by rw [hml]; exact hl) rfl hdg hf hlo kk
/-- a row of ints is made -/
theorem nw_a {nn : Int32} {N : Nat} (C : Cx p s m args meth c own cc mx ret) (hK : va_K D classes (tysA cI cS) s) (hP : va_P D classes ws H) (hD : va_D A ws) (hS : va_S A s.heap H locs) (hA : ∀ q, s.heap.size ≤ q → A q) (hn : ¬ nn < 0) (hN : nn.toNatClampNeg = N) (hby : N * 4 ≤ 536870912) (hcells : cells + 1 ≤ R.cells) (hslots : slots + N ≤ R.slots) (hdg : decode cc pc = .ok (.newarray .int, 2))
    (kk : ∀ (q : Nat) (H1 : Heap), va_P D classes (ws ++ [(q, .inl (cI, N, .inl (fun _ => 0)))]) H1 → va_D A (ws ++ [(q, .inl (cI, N, .inl (fun _ => 0)))]) → va_S A s.heap H1 locs → W p l e R s m args below meth c H1 locs (cells + 1) (slots + N) Q (F0 m (pc + 2) ls (.ref q :: rest))) : W p l e R s m args below meth c H locs cells slots Q (F0 m pc ls (.int nn :: rest)) := by
  obtain ⟨hx, hb, hr, hml, hown, hts, hlk, hnw⟩ := C
  refine va_newa (a0 := (N, .inl (fun _ => 0))) (ty := .int) hx hb (atype := .int) (hts _ tw_61) rfl hK hP hD hS hA (fun _ => rfl) hn hN hby hcells hslots hdg (fun q cA H1 hK1 hP1 hD1 hS1 => ?_)
  have e1 : s.vm.findClass ("[" ++ FieldType.int.toString) = some cA := (hK1.2 2 (cA, .int) rfl).2
  have e2 : s.vm.findClass ("[" ++ FieldType.int.toString) = some cI := (hK.2 0 (cI, .int) rfl).2
  have e3 : cA = cI := Option.some.inj (e1.symm.trans e2)
  subst e3
  exact kk q H1 hP1 hD1 hS1
/-- a row of sheets is made -/
theorem nw_q {nn : Int32} {N idx : Nat} (C : Cx p s m args meth c own cc mx ret) (hao : va_AO RX2 s) (hcl : Cond.classLink own idx RX2 ∈ tbg) (hK : va_K D classes (tysA cI cS) s) (hP : va_P D classes ws H) (hD : va_D A ws) (hS : va_S A s.heap H locs) (hA : ∀ q, s.heap.size ≤ q → A q) (hn : ¬ nn < 0) (hN : nn.toNatClampNeg = N) (hby : N * 4 ≤ 536870912) (hcells : cells + 1 ≤ R.cells) (hslots : slots + N ≤ R.slots) (hdg : decode cc pc = .ok (.anewarray idx, 3))
    (kk : ∀ (q : Nat) (H1 : Heap), va_P D classes (ws ++ [(q, .inl (cS, N, .inr (.inr (.inr (.inr (fun _ => none))))))]) H1 → va_D A (ws ++ [(q, .inl (cS, N, .inr (.inr (.inr (.inr (fun _ => none))))))]) → va_S A s.heap H1 locs → W p l e R s m args below meth c H1 locs (cells + 1) (slots + N) Q (F0 m (pc + 3) ls (.ref q :: rest))) : W p l e R s m args below meth c H locs cells slots Q (F0 m pc ls (.int nn :: rest)) := by
  obtain ⟨hx, hb, hr, hml, hown, hts, hlk, hnw⟩ := C
  refine va_newq hx hb hown (hts _ hcl) hao hK hP hD hS hA hn hN hby hcells hslots hdg (fun q cA H1 hK1 hP1 hD1 hS1 => ?_)
  obtain ⟨-, -, -, -, -, e1⟩ := (hK1.2 2 (cA, .object RX2) rfl).2
  obtain ⟨-, -, -, -, -, e2⟩ := (hK.2 1 (cS, .object RX2) rfl).2
  have e3 : cA = cS := Option.some.inj (e1.symm.trans e2)
  subst e3
  exact kk q H1 hP1 hD1 hS1
theorem kn_call {Post : va_W → Prop} {wc : va_W} {st0 : List Value} {a : Array Value} {mc ms : Nat} (hr : va_Run p l e R s m args below meth c H locs cells slots mc ms (F0 m pc ls st0) rest (QN D Post (va_A wc H.size) a) (va_A wc H.size)) (hS : va_S A s.heap H locs) (hF : ∀ q, va_A wc H.size q → A q)
    (kk : ∀ (w1 : va_W) (H1 : Heap) (locs1 : List Loc), Post w1 → va_P D classes w1 H1 → va_D (va_A wc H.size) w1 → (∀ q : Nat, q < H.size → ¬ va_A wc H.size q → H1[q]? = H[q]?) → va_S A s.heap H1 locs1 → W p l e R s m args below meth c H1 locs1 (cells + mc) (slots + ms) Q (F0 m (pc + 3) ls rest)) : W p l e R s m args below meth c H locs cells slots Q (F0 m pc ls st0) := by
  intro T hT X
  obtain ⟨v', st₀, t, T', L, h0, X', hL, e1, e2, ⟨⟨hv, w1, hpost, hP1, hD1⟩, hz, hk⟩, st⟩ := hr T hT X
  cases hv
  rw [h0] at hz hk
  rw [← e1] at hP1
  obtain ⟨t2, a1, b1⟩ := kk w1 T'.heap (locs ++ L) hpost hP1 hD1 (fun q h1 h2 => by rw [e1]; exact hk q h1 h2)
    ⟨Nat.le_trans hS.1 (by rw [e1]; exact hz), fun q h1 h2 => by rw [e1, hk q (Nat.lt_of_lt_of_le h1 hS.1) (fun z => h2 (hF q z))]; exact hS.2.1 q h1 h2, fun q hq => by
      rcases List.mem_append.mp hq with h | h
      · exact hS.2.2 q h
      · exact hF _ (hL q h)⟩ T' rfl X'
  exact ⟨t2, st t2 a1, b1⟩
theorem kn_blind {w0 : va_W} {sz : Nat} {av : List Value} : FrameBlind (PcN D ty w0 sz av) := by
  intro a U g mk q
  obtain ⟨q0, q1, qP, qK, qN, qD, qa⟩ := q
  exact ⟨q0, q1, qP, va_K.moved (u := U) (U := U.calling g mk a) (Vm.Alike.refl U.vm) qK, NWs.same (u := U) rfl qN, qD, va_AO.moved (u := U) (U := U.calling g mk a) (Vm.Alike.refl U.vm) qa⟩
/-- a constructor is called: its cell stands at isC, the rest at isR; behind it the world is the rest, then what it made -/
theorem cNew {y : MethodName} {bytes : ByteArray} {mx' idx b mc ms : Nat} {rm : Room} {Post : va_W → Prop} {wc : va_W} {st0 : List Value}
    (Cc : Cx p s m args meth c own cc mx ret) (hao : va_AO RX2 s) (hK : va_K D classes ty s) (hA : ∀ q, s.heap.size ≤ q → A q) (hP : va_P D classes ws H) (hD : va_D A ws) (hS : va_S A s.heap H locs) (hl : ls.size = mx)
    (ct : CtN l D ty y bytes mx' rm mc ms [.ref b] wc Post) (wd : Cond.code y bytes mx' none ∈ tbg ∧ Cond.methodLink own idx y ∈ tbg ∧ Cond.instanceMethod y ∈ tbg ∧ Cond.initialized y.cls ∈ tbg)
    (hd : y.name = "<init>" ∧ y.cls ≠ "java/lang/invoke/MethodHandle" ∧ y.cls ≠ "java/lang/invoke/VarHandle" ∧ (parseMethodDescriptor y.desc).map (fun d => d.parameters.length) = some 0)
    (hR : rm.cells = mc ∧ rm.slots = ms ∧ rm.frames + 1 ≤ R.frames ∧ 8 + (mx' + 11) + rm.locals ≤ R.locals) (hdg : decode cc pc = .ok (.invokespecial idx, 3)) (hst : st0 = .ref b :: rest) (hW : (rest.map fun v => v.category).sum ≤ 8) (hf : cells + mc ≤ R.cells ∧ slots + ms ≤ R.slots)
    (isC isR : List Nat) (hC : isC.map (fun i => ws[i]?) = wc.map some) (hR1 : isR.map (fun i => ws[i]?) = (isR.filterMap (fun i => ws[i]?)).map some) (hnn : va_nd isC = true ∧ va_nd isR = true ∧ ∀ i ∈ isR, i ∉ isC)
    (kk : ∀ (w1 : va_W) (H1 : Heap) (locs1 : List Loc), Post w1 → va_P D classes (isR.filterMap (fun i => ws[i]?) ++ w1) H1 → va_D A (isR.filterMap (fun i => ws[i]?) ++ w1) → va_S A s.heap H1 locs1 → W p l e R s m args below meth c H1 locs1 (cells + mc) (slots + ms) Q (F0 m (pc + 3) ls rest)) : W p l e R s m args below meth c H locs cells slots Q (F0 m pc ls st0) := by
  obtain ⟨hx, hb, hr, hml, hown, hts, hlk, hnw⟩ := Cc
  obtain ⟨w1c, w2c, w3c, w5c⟩ := wd
  have hDc := hD.sub isC hnn.1 hC
  have hPc : va_P D classes wc H := by
    intro k q hk
    have h1 : (isC.map (fun i => ws[i]?))[k]? = some (some q) := by rw [hC, List.getElem?_map, hk]; rfl
    rw [List.getElem?_map] at h1
    obtain ⟨i, -, hi⟩ := Option.map_eq_some_iff.mp h1
    exact hP i q hi
  have hFc := va_free (wc := wc) hD hS hA isC hC
  have cb : CallB R s args own idx y bytes mx' none (Cond.code y bytes mx' none :: tbg) rm mc ms 0 ∧ y.name = "<init>" ∧ (Cond.instanceMethod y).before args s = true := ⟨callB_of 0 hts (kx_pay hts w1c) rfl hR.1 hR.2.1 (hts _ w5c) (hts _ w2c) hd.2 hR.2.2, hd.1, hts _ w3c⟩
  refine kn_call (va_runI (As := []) (b := b) (rest := rest) (g := F0 m pc ls st0) ⟨hx, hb, hml, hown, hts⟩ (ct H.size) cb ⟨kn_blind, fun U hU hW => ⟨rfl, by rw [hU], by rw [hU]; exact hPc, va_K.moved hW.alike hK, NWs.warm hW hnw, hDc.weaken (fun _ _ _ _ => trivial), va_AO.moved hW.alike hao⟩⟩ rfl rfl hl hst (lv_room hW) hdg hf) hS hFc (fun w1 H1 locs1 hpost hP1 hD1 hk1 hS1 => ?_)
  obtain ⟨hP2, hD2⟩ := va_join (wr := isR.filterMap (fun i => ws[i]?)) (w1 := w1) hP hD isC isR hC hR1 hnn.2.1 hnn.2.2 hk1 hFc hP1 hD1
  exact kk w1 H1 locs1 hpost hP2 hD2 hS1
end KN
