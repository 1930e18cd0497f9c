theorem tb_good : ∀ w ∈ tbg, goodWord w = true := fun w h => (List.mem_filter.mp h).2
abbrev classes : List vw_C := [(RX0, TX0, 9), (RX1, TX1, 4), (RX2, TX2, 3), (RX3, TX3, 4), (RX4, TX4, 7), (RX5, TX5, 25)]
abbrev tysA (cI cS : ClassId) : List (ClassId × FieldType) := [(cI, .int), (cS, .object RX2)]
theorem inl0 : ∀ w ∈ wsX00, w ∈ lw_tbl := by decide +kernel
theorem ing0 : wsX00.all goodWord = true := by decide +kernel
theorem inX0 : ∀ w ∈ wsX00, w ∈ tbg := fun w h => List.mem_filter.mpr ⟨inl0 w h, List.all_eq_true.mp ing0 w h⟩
theorem inl1 : ∀ w ∈ wsX10, w ∈ lw_tbl := by decide +kernel
theorem ing1 : wsX10.all goodWord = true := by decide +kernel
theorem inX1 : ∀ w ∈ wsX10, w ∈ tbg := fun w h => List.mem_filter.mpr ⟨inl1 w h, List.all_eq_true.mp ing1 w h⟩
theorem inl2 : ∀ w ∈ wsX20, w ∈ lw_tbl := by decide +kernel
theorem ing2 : wsX20.all goodWord = true := by decide +kernel
theorem inX2 : ∀ w ∈ wsX20, w ∈ tbg := fun w h => List.mem_filter.mpr ⟨inl2 w h, List.all_eq_true.mp ing2 w h⟩
theorem inl3 : ∀ w ∈ wsX30, w ∈ lw_tbl := by decide +kernel
theorem ing3 : wsX30.all goodWord = true := by decide +kernel
theorem inX3 : ∀ w ∈ wsX30, w ∈ tbg := fun w h => List.mem_filter.mpr ⟨inl3 w h, List.all_eq_true.mp ing3 w h⟩
theorem inl4 : ∀ w ∈ wsX40, w ∈ lw_tbl := by decide +kernel
theorem ing4 : wsX40.all goodWord = true := by decide +kernel
theorem inX4 : ∀ w ∈ wsX40, w ∈ tbg := fun w h => List.mem_filter.mpr ⟨inl4 w h, List.all_eq_true.mp ing4 w h⟩
theorem inl5 : ∀ w ∈ wsX50, w ∈ lw_tbl := by decide +kernel
theorem ing5 : wsX50.all goodWord = true := by decide +kernel
theorem inX5 : ∀ w ∈ wsX50, w ∈ tbg := fun w h => List.mem_filter.mpr ⟨inl5 w h, List.all_eq_true.mp ing5 w h⟩
def NWs (U : State) : Prop := ∀ w ∈ nws, va_Nw w U
theorem NWs.warm {s U : State} (hW : s.WarmedH U.vm) (h : NWs s) : NWs U := by
  intro w hw
  have h1 := h w hw
  simp only [nws, List.mem_cons, List.not_mem_nil, or_false] at hw
  rcases hw with rfl | rfl | rfl | rfl | rfl | rfl | rfl | rfl | rfl | rfl | rfl | rfl | rfl | rfl | rfl <;> first | exact va_Nw.warmF hW h1 | exact va_Nw.warmM hW h1
theorem NWs.same {u U : State} (e : u.vm = U.vm) (h : NWs u) : NWs U := by
  intro w hw
  have h1 := h w hw
  simp only [nws, List.mem_cons, List.not_mem_nil, or_false] at hw
  rcases hw with rfl | rfl | rfl | rfl | rfl | rfl | rfl | rfl | rfl | rfl | rfl | rfl | rfl | rfl | rfl <;> exact va_Nw.same rfl e h1
def PcW (D : va_G) (ty : List (ClassId × FieldType)) (w0 : va_W) (sz : Nat) (av : List Value) : Array Value → State → Prop := va_Pc av (fun U => U.heap.size = sz ∧ va_P D classes w0 U.heap ∧ va_K D classes ty U ∧ NWs U ∧ va_D (fun _ => True) w0)
def QW (D : va_G) (ty : List (ClassId × FieldType)) (v : Option Value) (w1 : va_W) (A : Nat → Prop) : Array Value → State → Outcome → State → Prop := fun _ st oc t => (oc = .returned v ∧ va_P D classes w1 t.heap ∧ va_D A w1) ∧ va_F A st t
def Ct (l : Launch) (D : va_G) (ty : List (ClassId × FieldType)) (y : MethodName) (cc : ByteArray) (mx : Nat) (ret : Option FieldType) (rm : Room) (av : List Value) (w0 : va_W) (v : Option Value) (w1 : va_W) : Prop := ∀ sz : Nat, Met l y (Cond.code y cc mx ret :: tbg) rm (PcW D ty w0 sz av) (QW D ty v w1 (va_A w0 sz)) 0 0 (va_A w0 sz)
def Cx (p : Program) (s : State) (m : MethodId) (args : Array Value) (meth : Method) (c : Code) (own : String) (cc : ByteArray) (mx : Nat) (ret : Option FieldType) : Prop :=
  p.tables.exec = Jvm.exec ∧ c.code = cc ∧ meth.sig.returnType = ret ∧ c.maxLocals = mx ∧ s.vm.findClass own = some m.cls ∧ (∀ w ∈ tbg, w.before args s = true) ∧ meth.locks = false ∧ NWs s
def Rm (d : Nat) : Room := { frames := d, cells := 0, slots := 0, locals := 33 * d }
theorem Ct_of {l : Launch} {D : va_G} {ty : List (ClassId × FieldType)} {y : MethodName} {cc : ByteArray} {mx : Nat} {ret : Option FieldType} {rm : Room} {av : List Value} {w0 : va_W} {v : Option Value} {w1 : va_W} (hy : plainName y.cls = true) (hlen : (lg_sl av).length ≤ mx)
    (body : ∀ (p : Program) (e : Env) (s : State) (m : MethodId) (args : Array Value) (below : List Frame) (meth : Method) (c : Code) (A : Nat → Prop) (ls : Array Slot), Cx p s m args meth c y.cls cc mx ret → va_K D classes ty s → (∀ q, s.heap.size ≤ q → A q) → va_P D classes w0 s.heap → va_D A w0 → va_S A s.heap s.heap [] → lv_has ls mx (lv_args 0 av) → W p l e rm s m args below meth c s.heap [] 0 0 (MQ below (QW D ty v w1 A) args s 0 0 A) (F0 m 0 ls [])) : Ct l D ty y cc mx ret rm av w0 v w1 := by
  intro sz
  refine Met.ofW (cc := cc) (maxL := mx) (ret := ret) hy rfl ?_
  intro p e s m args below meth c s₁ B hml hv
  obtain ⟨rfl, hsz, hP, hK, hN, hD0⟩ := hv
  subst hsz
  have hts := atoms_spec (ws := Cond.code y cc mx ret :: tbg) B.pre
  have hl := lv_entry av (n := mx) hlen
  rw [lg_entry_eq]
  exact body p e s m _ below meth c (va_A w0 s.heap.size) _ ⟨B.exec, B.bytes, B.returns, hml, findClass_of_methodNamed B.named, fun w h => hts w (List.mem_cons_of_mem _ h), B.notSynchronized, hN⟩ hK (fun q h => Or.inr h) hP hD0.self va_S.rf hl
section KX
variable {p : Program} {l : Launch} {e : Env} {R : Room} {s : State} {m : MethodId} {args : Array Value} {below : List Frame} {meth : Method} {c : Code} {H : Heap} {locs : List Loc} {cells slots : Nat} {Q : State → Prop}
variable {cc : ByteArray} {pc mx : Nat} {ls : Array Slot} {rest : List Value} {A : Nat → Prop} {D : va_G} {ty : List (ClassId × FieldType)} {own : String} {w1 : va_W}
theorem rt_i {v : Int32} (C : Cx p s m args meth c own cc mx (some .int)) (hK : va_K D classes ty s) (hP : va_P D classes w1 H) (hD : va_D A w1) (hS : va_S A s.heap H locs) (hdg : decode cc pc = .ok (.ireturn, 1)) : W p l e R s m args below meth c H locs 0 0 (MQ below (QW D ty (some (.int v)) w1 A) args s 0 0 A) (F0 m pc ls [.int v]) :=
  W.iret (v := v) C.1 C.2.1 C.2.2.1 (fun t ht hW => ⟨⟨rfl, by rw [ht]; exact hP, hD⟩, hS.F ht⟩) hS.2.2 hdg (hlocks := C.2.2.2.2.2.2.1)
theorem rt_z {v : Int32} (C : Cx p s m args meth c own cc mx (some .boolean)) (hn : narrow .boolean (.int v) = .int v) (hK : va_K D classes ty s) (hP : va_P D classes w1 H) (hD : va_D A w1) (hS : va_S A s.heap H locs) (hdg : decode cc pc = .ok (.ireturn, 1)) : W p l e R s m args below meth c H locs 0 0 (MQ below (QW D ty (some (.int v)) w1 A) args s 0 0 A) (F0 m pc ls [.int v]) :=
  W.zret (v := v) C.1 C.2.1 C.2.2.1 hn (fun t ht hW => ⟨⟨rfl, by rw [ht]; exact hP, hD⟩, hS.F ht⟩) hS.2.2 hdg (hlocks := C.2.2.2.2.2.2.1)
theorem rt_l {v : Int64} (C : Cx p s m args meth c own cc mx (some .long)) (hK : va_K D classes ty s) (hP : va_P D classes w1 H) (hD : va_D A w1) (hS : va_S A s.heap H locs) (hdg : decode cc pc = .ok (.lreturn, 1)) : W p l e R s m args below meth c H locs 0 0 (MQ below (QW D ty (some (.long v)) w1 A) args s 0 0 A) (F0 m pc ls [.long v]) :=
  W.lret (v := v) C.1 C.2.1 C.2.2.1 (fun t ht hW => ⟨⟨rfl, by rw [ht]; exact hP, hD⟩, hS.F ht⟩) hS.2.2 hdg (hlocks := C.2.2.2.2.2.2.1)
theorem rt_v (C : Cx p s m args meth c own cc mx none) (hK : va_K D classes ty s) (hP : va_P D classes w1 H) (hD : va_D A w1) (hS : va_S A s.heap H locs) (hdg : decode cc pc = .ok (.return_, 1)) : W p l e R s m args below meth c H locs 0 0 (MQ below (QW D ty none w1 A) args s 0 0 A) (F0 m pc ls []) :=
  W.vret C.1 C.2.1 C.2.2.1 (fun t ht hW => ⟨⟨rfl, by rw [ht]; exact hP, hD⟩, hS.F ht⟩) hS.2.2 hdg (hlocks := C.2.2.2.2.2.2.1)
theorem kx_call {v : Option Value} {wc : va_W} {st0 : List Value} {a : Array Value} (hr : va_Run p l e R s m args below meth c H locs cells slots 0 0 (F0 m pc ls st0) rest (QW D ty v w1 (va_A wc H.size) a) (va_A wc H.size)) (hS : va_S A s.heap H locs) (hF : ∀ q, va_A wc H.size q → A q)
    (kk : ∀ (H1 : Heap) (locs1 : List Loc), va_P D classes w1 H1 → va_D (va_A wc H.size) w1 → (∀ q : Nat, q < H.size → ¬ va_A wc H.size q → H1[q]? = H[q]?) → va_S A s.heap H1 locs1 → W p l e R s m args below meth c H1 locs1 cells slots Q (F0 m (pc + 3) ls (v.toList ++ rest))) : W p l e R s m args below meth c H locs cells slots Q (F0 m pc ls st0) := by
  intro T hT X
  obtain ⟨v', st₀, t, T', L, h0, X', hL, e1, e2, ⟨⟨hv, hP1, hD1⟩, hz, hk⟩, st⟩ := hr T hT X
  cases hv
  rw [h0] at hz hk
  rw [← e1] at hP1
  obtain ⟨t2, a1, b1⟩ := kk T'.heap (locs ++ L) hP1 hD1 (fun q h1 h2 => by rw [e1]; exact hk q h1 h2)
    ⟨Nat.le_trans hS.1 (by rw [e1]; exact hz), fun q h1 h2 => by rw [e1, hk q (Nat.lt_of_lt_of_le h1 hS.1) (fun z => h2 (hF q z))]; exact hS.2.1 q h1 h2, fun q hq => by
      rcases List.mem_append.mp hq with h | h
      · exact hS.2.2 q h
      · exact hF _ (hL q h)⟩ T' rfl X'
  exact ⟨t2, st t2 a1, b1⟩
theorem kx_blind {w0 : va_W} {sz : Nat} {av : List Value} : FrameBlind (PcW D ty w0 sz av) := by
  intro a U g mk q
  obtain ⟨q0, q1, qP, qK, qN, qD⟩ := q
  exact ⟨q0, q1, qP, va_K.moved (u := U) (U := U.calling g mk a) (Vm.Alike.refl U.vm) qK, NWs.same (u := U) rfl qN, qD⟩
theorem kx_pay (hts : ∀ w ∈ tbg, w.before args s = true) {y : MethodName} {bytes : ByteArray} {mx' : Nat} {ret' : Option FieldType} (hc : Cond.code y bytes mx' ret' ∈ tbg) : GoodIn tbg (Cond.code y bytes mx' ret' :: tbg) := by
  have h1 : ∀ w ∈ tbg, w ∈ tbg ∧ ((w.onTables && w.keeps) = true ∨ ∃ ty, w = .arrayClass ty) := fun w h => ⟨h, good_of_word (tb_good w h)⟩
  intro w hw
  rcases List.mem_cons.mp hw with rfl | h
  · exact h1 _ hc
  · exact h1 _ h
/-- a call of an instance method: its cells wc stand in ws at isC, the rest wr at isR; behind it the world is ws' -/
theorem cV {y : MethodName} {bytes : ByteArray} {mx' n idx ci NN b : Nat} {ret ret' : Option FieldType} {rm : Room} {C : String} {TT : u_T} {fs As st0 : List Value} {v : Option Value} {ws wc ws' : va_W} {st1 : List Value}
    (Cc : Cx p s m args meth c own cc mx ret) (hK : va_K D classes ty s) (hA : ∀ q, s.heap.size ≤ q → A q) (hP : va_P D classes ws H) (hD : va_D A ws) (hS : va_S A s.heap H locs) (hl : ls.size = mx)
    (ct : Ct l D ty y bytes mx' ret' rm (.ref b :: As) wc v w1) (wd : Cond.code y bytes mx' ret' ∈ tbg ∧ Cond.methodLink own idx y ∈ tbg ∧ Cond.instanceMethod y ∈ tbg ∧ Cond.selects C y y ∈ tbg ∧ Cond.initialized C ∈ tbg)
    (hd : y.cls = C ∧ y.cls ≠ "java/lang/invoke/MethodHandle" ∧ y.cls ≠ "java/lang/invoke/VarHandle" ∧ (parseMethodDescriptor y.desc).map (fun d => d.parameters.length) = some n)
    (hR : rm.cells = 0 ∧ rm.slots = 0 ∧ rm.frames + 1 ≤ R.frames ∧ 8 + (mx' + 11) + rm.locals ≤ R.locals) (hn : As.length = n) (hdg : decode cc pc = .ok (.invokevirtual idx, 3)) (hst : st0 = As.reverse ++ .ref b :: rest) (hW : (rest.map fun v => v.category).sum ≤ 8) (hf : cells ≤ R.cells ∧ slots ≤ R.slots) (hs1 : v.toList ++ rest = st1)
    (hr0 : wc[0]? = some (b, .inr (ci, fs))) (hcc : classes[ci]? = some (C, TT, NN))
    (isC isR pm : List Nat) (hC : isC.map (fun i => ws[i]?) = wc.map some) (hR1 : isR.map (fun i => ws[i]?) = (isR.filterMap (fun i => ws[i]?)).map some) (hnn : va_nd isC = true ∧ va_nd isR = true ∧ va_nd pm = true ∧ ∀ i ∈ isR, i ∉ isC) (hpm : pm.map (fun i => (isR.filterMap (fun i => ws[i]?) ++ w1)[i]?) = ws'.map some)
    (kk : ∀ (H1 : Heap) (locs1 : List Loc), va_P D classes ws' H1 → va_D A ws' → va_S A s.heap H1 locs1 → W p l e R s m args below meth c H1 locs1 cells slots Q (F0 m (pc + 3) ls st1)) : W p l e R s m args below meth c H locs cells slots Q (F0 m pc ls st0) := by
  subst hs1
  obtain ⟨hx, hb, hr, hml, hown, hts, hlk, hnw⟩ := Cc
  obtain ⟨w1c, w2c, w3c, w4c, w5c⟩ := wd
  obtain ⟨rfl, hd⟩ := hd
  have hDc := hD.sub isC hnn.1 hC
  have hPc : va_P D classes wc H := by
    intro k q hk
    have h1 : (isC.map (fun i => ws[i]?))[k]? = some (some q) := by rw [hC, List.getElem?_map, hk]; rfl
    rw [List.getElem?_map] at h1
    obtain ⟨i, -, hi⟩ := Option.map_eq_some_iff.mp h1
    exact hP i q hi
  have hFc := va_free (wc := wc) hD hS hA isC hC
  have cb : CallW R s args own y.cls idx y bytes mx' ret' (Cond.code y bytes mx' ret' :: tbg) rm 0 0 n := ⟨callB_of n hts (kx_pay hts w1c) rfl hR.1 hR.2.1 (hts _ w5c) (hts _ w2c) hd hR.2.2, hts _ w3c, hts _ w4c⟩
  refine kx_call (va_runV (As := As) (b := b) (rest := rest) (g := F0 m pc ls st0) ⟨hx, hb, hml, hown, hts⟩ (ct H.size) cb ⟨kx_blind, va_recv hK hPc hcc hr0, fun U hU hW => ⟨rfl, by rw [hU], by rw [hU]; exact hPc, va_K.moved hW.alike hK, NWs.warm hW hnw, hDc.weaken (fun _ _ _ _ => trivial)⟩⟩ rfl hn hl hst (lv_room hW) hdg hf) hS hFc (fun H1 locs1 hP1 hD1 hk1 hS1 => ?_)
  obtain ⟨hP2, hD2⟩ := va_join (wr := isR.filterMap (fun i => ws[i]?)) (w1 := w1) hP hD isC isR hC hR1 hnn.2.1 hnn.2.2.2 hk1 hFc hP1 hD1
  refine kk H1 locs1 ?_ (hD2.sub pm hnn.2.2.1 hpm) hS1
  intro k q hk
  have h1 : (pm.map (fun i => (isR.filterMap (fun i => ws[i]?) ++ w1)[i]?))[k]? = some (some q) := by rw [hpm, List.getElem?_map, hk]; rfl
  rw [List.getElem?_map] at h1
  obtain ⟨i, -, hi⟩ := Option.map_eq_some_iff.mp h1
  exact hP2 i q hi
/-- the same of a static method -/
theorem cSt {y : MethodName} {bytes : ByteArray} {mx' n idx : Nat} {ret ret' : Option FieldType} {rm : Room} {As st0 : List Value} {v : Option Value} {ws wc ws' : va_W} {st1 : List Value}
    (Cc : Cx p s m args meth c own cc mx ret) (hK : va_K D classes ty s) (hA : ∀ q, s.heap.size ≤ q → A q) (hP : va_P D classes ws H) (hD : va_D A ws) (hS : va_S A s.heap H locs) (hl : ls.size = mx)
    (ct : Ct l D ty y bytes mx' ret' rm As wc v w1) (wd : Cond.code y bytes mx' ret' ∈ tbg ∧ Cond.methodLink own idx y ∈ tbg ∧ Cond.static y ∈ tbg ∧ Cond.initialized y.cls ∈ tbg)
    (hd : y.cls ≠ "java/lang/invoke/MethodHandle" ∧ y.cls ≠ "java/lang/invoke/VarHandle" ∧ (parseMethodDescriptor y.desc).map (fun d => d.parameters.length) = some n)
    (hR : rm.cells = 0 ∧ rm.slots = 0 ∧ rm.frames + 1 ≤ R.frames ∧ 8 + (mx' + 11) + rm.locals ≤ R.locals) (hn : As.length = n) (hdg : decode cc pc = .ok (.invokestatic idx, 3)) (hst : st0 = As.reverse ++ rest) (hW : (rest.map fun v => v.category).sum ≤ 8) (hf : cells ≤ R.cells ∧ slots ≤ R.slots) (hs1 : v.toList ++ rest = st1)
    (isC isR pm : List Nat) (hC : isC.map (fun i => ws[i]?) = wc.map some) (hR1 : isR.map (fun i => ws[i]?) = (isR.filterMap (fun i => ws[i]?)).map some) (hnn : va_nd isC = true ∧ va_nd isR = true ∧ va_nd pm = true ∧ ∀ i ∈ isR, i ∉ isC) (hpm : pm.map (fun i => (isR.filterMap (fun i => ws[i]?) ++ w1)[i]?) = ws'.map some)
    (kk : ∀ (H1 : Heap) (locs1 : List Loc), va_P D classes ws' H1 → va_D A ws' → va_S A s.heap H1 locs1 → W p l e R s m args below meth c H1 locs1 cells slots Q (F0 m (pc + 3) ls st1)) : W p l e R s m args below meth c H locs cells slots Q (F0 m pc ls st0) := by
  subst hs1
  obtain ⟨hx, hb, hr, hml, hown, hts, hlk, hnw⟩ := Cc
  obtain ⟨w1c, w2c, w3c, w4c⟩ := wd
  have hDc := hD.sub isC hnn.1 hC
  have hPc : va_P D classes wc H := by
    intro k q hk
    have h1 : (isC.map (fun i => ws[i]?))[k]? = some (some q) := by rw [hC, List.getElem?_map, hk]; rfl
    rw [List.getElem?_map] at h1
    obtain ⟨i, -, hi⟩ := Option.map_eq_some_iff.mp h1
    exact hP i q hi
  have hFc := va_free (wc := wc) hD hS hA isC hC
  have cb : CallB R s args own idx y bytes mx' ret' (Cond.code y bytes mx' ret' :: tbg) rm 0 0 n ∧ (Cond.static y).before args s = true := ⟨callB_of n hts (kx_pay hts w1c) rfl hR.1 hR.2.1 (hts _ w4c) (hts _ w2c) hd hR.2.2, hts _ w3c⟩
  refine kx_call (va_runS (As := As) (rest := rest) (g := F0 m pc ls st0) ⟨hx, hb, hml, hown, hts⟩ (ct H.size) cb ⟨kx_blind, fun U hU hW => ⟨rfl, by rw [hU], by rw [hU]; exact hPc, va_K.moved hW.alike hK, NWs.warm hW hnw, hDc.weaken (fun _ _ _ _ => trivial)⟩⟩ rfl hn hl hst (lv_room hW) hdg hf) hS hFc (fun H1 locs1 hP1 hD1 hk1 hS1 => ?_)
  obtain ⟨hP2, hD2⟩ := va_join (wr := isR.filterMap (fun i => ws[i]?)) (w1 := w1) hP hD isC isR hC hR1 hnn.2.1 hnn.2.2.2 hk1 hFc hP1 hD1
  refine kk H1 locs1 ?_ (hD2.sub pm hnn.2.2.1 hpm) hS1
  intro k q hk
  have h1 : (pm.map (fun i => (isR.filterMap (fun i => ws[i]?) ++ w1)[i]?))[k]? = some (some q) := by rw [hpm, List.getElem?_map, hk]; rfl
  rw [List.getElem?_map] at h1
  obtain ⟨i, -, hi⟩ := Option.map_eq_some_iff.mp h1
  exact hP2 i q hi
/-- of a nest mate's static method -/
theorem cStN {y : MethodName} {bytes : ByteArray} {mx' n idx : Nat} {host : String} {ret ret' : Option FieldType} {rm : Room} {As st0 : List Value} {v : Option Value} {ws wc ws' : va_W} {st1 : List Value}
    (Cc : Cx p s m args meth c own cc mx ret) (hK : va_K D classes ty s) (hA : ∀ q, s.heap.size ≤ q → A q) (hP : va_P D classes ws H) (hD : va_D A ws) (hS : va_S A s.heap H locs) (hl : ls.size = mx)
    (ct : Ct l D ty y bytes mx' ret' rm As wc v w1) (wd : Cond.code y bytes mx' ret' ∈ tbg ∧ Cond.methodLinkNest own idx y host ∈ nws ∧ Cond.static y ∈ tbg ∧ Cond.initialized y.cls ∈ tbg)
    (hd : y.cls ≠ "java/lang/invoke/MethodHandle" ∧ y.cls ≠ "java/lang/invoke/VarHandle" ∧ (parseMethodDescriptor y.desc).map (fun d => d.parameters.length) = some n)
    (hR : rm.cells = 0 ∧ rm.slots = 0 ∧ rm.frames + 1 ≤ R.frames ∧ 8 + (mx' + 11) + rm.locals ≤ R.locals) (hn : As.length = n) (hdg : decode cc pc = .ok (.invokestatic idx, 3)) (hst : st0 = As.reverse ++ rest) (hW : (rest.map fun v => v.category).sum ≤ 8) (hf : cells ≤ R.cells ∧ slots ≤ R.slots) (hs1 : v.toList ++ rest = st1)
    (isC isR pm : List Nat) (hC : isC.map (fun i => ws[i]?) = wc.map some) (hR1 : isR.map (fun i => ws[i]?) = (isR.filterMap (fun i => ws[i]?)).map some) (hnn : va_nd isC = true ∧ va_nd isR = true ∧ va_nd pm = true ∧ ∀ i ∈ isR, i ∉ isC) (hpm : pm.map (fun i => (isR.filterMap (fun i => ws[i]?) ++ w1)[i]?) = ws'.map some)
    (kk : ∀ (H1 : Heap) (locs1 : List Loc), va_P D classes ws' H1 → va_D A ws' → va_S A s.heap H1 locs1 → W p l e R s m args below meth c H1 locs1 cells slots Q (F0 m (pc + 3) ls st1)) : W p l e R s m args below meth c H locs cells slots Q (F0 m pc ls st0) := by
  subst hs1
  obtain ⟨hx, hb, hr, hml, hown, hts, hlk, hnw⟩ := Cc
  obtain ⟨w1c, w2c, w3c, w4c⟩ := wd
  have hDc := hD.sub isC hnn.1 hC
  have hPc : va_P D classes wc H := by
    intro k q hk
    have h1 : (isC.map (fun i => ws[i]?))[k]? = some (some q) := by rw [hC, List.getElem?_map, hk]; rfl
    rw [List.getElem?_map] at h1
    obtain ⟨i, -, hi⟩ := Option.map_eq_some_iff.mp h1
    exact hP i q hi
  have hFc := va_free (wc := wc) hD hS hA isC hC
  have cb : va_CN R s args own idx y host bytes mx' ret' (Cond.code y bytes mx' ret' :: tbg) rm 0 0 n ∧ (Cond.static y).before args s = true ∧ True := ⟨va_cnB n hts (kx_pay hts w1c) rfl hR.1 hR.2.1 (hnw _ w2c) (hts _ w4c) hd hR.2.2, hts _ w3c, trivial⟩
  refine kx_call (va_runSN (As := As) (rest := rest) (g := F0 m pc ls st0) ⟨hx, hb, hml, hown, hts⟩ (ct H.size) cb ⟨kx_blind, fun U hU hW => ⟨rfl, by rw [hU], by rw [hU]; exact hPc, va_K.moved hW.alike hK, NWs.warm hW hnw, hDc.weaken (fun _ _ _ _ => trivial)⟩⟩ rfl hn hl hst (lv_room hW) hdg hf) hS hFc (fun H1 locs1 hP1 hD1 hk1 hS1 => ?_)
  obtain ⟨hP2, hD2⟩ := va_join (wr := isR.filterMap (fun i => ws[i]?)) (w1 := w1) hP hD isC isR hC hR1 hnn.2.1 hnn.2.2.2 hk1 hFc hP1 hD1
  refine kk H1 locs1 ?_ (hD2.sub pm hnn.2.2.1 hpm) hS1
  intro k q hk
  have h1 : (pm.map (fun i => (isR.filterMap (fun i => ws[i]?) ++ w1)[i]?))[k]? = some (some q) := by rw [hpm, List.getElem?_map, hk]; rfl
  rw [List.getElem?_map] at h1
  obtain ⟨i, -, hi⟩ := Option.map_eq_some_iff.mp h1
  exact hP2 i q hi
end KX
/-- an index is looked at -/
def gd {α : Type} (i : Int32) (n : Nat) (k : Option α) : Option α := if i < 0 ∨ n ≤ i.toNatClampNeg then none else k
theorem gd_some {α : Type} {i : Int32} {n : Nat} {k : Option α} {r : α} (h : gd i n k = some r) : vp_in i n ∧ k = some r := by
  unfold gd at h
  by_cases q : i < 0 ∨ n ≤ i.toNatClampNeg
  · rw [if_pos q] at h; cases h
  · rw [if_neg q] at h; exact ⟨q, h⟩
def nz {α : Type} (i : Int32) (k : Option α) : Option α := if i = 0 then none else k
theorem nz_some {α : Type} {i : Int32} {k : Option α} {r : α} (h : nz i k = some r) : ¬ i = 0 ∧ k = some r := by
  unfold nz at h
  by_cases q : i = 0
  · rw [if_pos q] at h; cases h
  · rw [if_neg q] at h; exact ⟨q, h⟩
def nzl {α : Type} (i : Int64) (k : Option α) : Option α := if i = 0 then none else k
theorem nzl_some {α : Type} {i : Int64} {k : Option α} {r : α} (h : nzl i k = some r) : ¬ i = 0 ∧ k = some r := by
  unfold nzl at h
  by_cases q : i = 0
  · rw [if_pos q] at h; cases h
  · rw [if_neg q] at h; exact ⟨q, h⟩
/-- arraycopy's places are looked at -/
def cpg {α : Type} (sp dp n : Int32) (n0 n1 : Nat) (k : Option α) : Option α := if sp < 0 ∨ dp < 0 ∨ n < 0 ∨ n0 < sp.toNatClampNeg + n.toNatClampNeg ∨ n1 < dp.toNatClampNeg + n.toNatClampNeg then none else k
theorem cpg_some {α : Type} {sp dp n : Int32} {n0 n1 : Nat} {k : Option α} {r : α} (h : cpg sp dp n n0 n1 k = some r) : (¬ sp < 0 ∧ ¬ dp < 0 ∧ ¬ n < 0 ∧ sp.toNatClampNeg + n.toNatClampNeg ≤ n0 ∧ dp.toNatClampNeg + n.toNatClampNeg ≤ n1) ∧ k = some r := by
  unfold cpg at h
  by_cases q : sp < 0 ∨ dp < 0 ∨ n < 0 ∨ n0 < sp.toNatClampNeg + n.toNatClampNeg ∨ n1 < dp.toNatClampNeg + n.toNatClampNeg
  · rw [if_pos q] at h; cases h
  · rw [if_neg q] at h
    refine ⟨⟨fun z => q (Or.inl z), fun z => q (Or.inr (Or.inl z)), fun z => q (Or.inr (Or.inr (Or.inl z))), Nat.not_lt.mp fun z => q (Or.inr (Or.inr (Or.inr (Or.inl z)))), Nat.not_lt.mp fun z => q (Or.inr (Or.inr (Or.inr (Or.inr z))))⟩, h⟩
theorem tb_out {x : Int32} {N : Nat} (hN : N < 1000) (h : ∀ i : Nat, i ≤ N → ¬ x = nI i) : x.toInt < 0 ∨ (N : Int) < x.toInt := by
  by_cases h0 : x.toInt < 0
  · exact Or.inl h0
  · by_cases h1 : (N : Int) < x.toInt
    · exact Or.inr h1
    · exfalso
      refine h x.toInt.toNat (by omega) ?_
      apply Int32.toInt_inj.mp
      rw [nI_toInt (by omega)]
      omega
theorem nei {x y : Int32} (h : ¬ x = y) : ¬ x.toInt = y.toInt := fun q => h (Int32.toInt_inj.mp q)
theorem tw_native : Cond.native ⟨"java/lang/System", "arraycopy", "(Ljava/lang/Object;ILjava/lang/Object;II)V"⟩ ∈ tbg := List.mem_filter.mpr ⟨tw_456, rfl⟩
theorem lk_out2 {k0 k1 o0 o1 d : Int} {x : Int32} (h0 : ¬ x.toInt = k0) (h1 : ¬ x.toInt = k1) : Op.lookupswitch.offset [(k0, o0), (k1, o1)] d x.toInt = d := by
  simp [Op.lookupswitch.offset, Ne.symm h0, Ne.symm h1, h0, h1]
theorem lk_out3 {k0 k1 k2 o0 o1 o2 d : Int} {x : Int32} (h0 : ¬ x.toInt = k0) (h1 : ¬ x.toInt = k1) (h2 : ¬ x.toInt = k2) : Op.lookupswitch.offset [(k0, o0), (k1, o1), (k2, o2)] d x.toInt = d := by
  simp [Op.lookupswitch.offset, Ne.symm h0, Ne.symm h1, Ne.symm h2, h0, h1, h2]
/-- a truth value is 0 or 1 -/
def bz {α : Type} (i : Int32) (k : Option α) : Option α := if i = 0 ∨ i = 1 then k else none
theorem bz_some {α : Type} {i : Int32} {k : Option α} {r : α} (h : bz i k = some r) : narrow .boolean (.int i) = .int i ∧ k = some r := by
  unfold bz at h
  by_cases q : i = 0 ∨ i = 1
  · rw [if_pos q] at h
    rcases q with rfl | rfl
    · exact ⟨by decide, h⟩
    · exact ⟨by decide, h⟩
  · rw [if_neg q] at h; cases h
