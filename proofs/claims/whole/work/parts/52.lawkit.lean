/-! calls on the first or on the second half of a world -/
theorem hf_lo {u v : va_W} {a : Nat} (h : u.length = a) : (List.range' 0 a).map (fun i => (u ++ v)[i]?) = u.map some := by
  apply List.ext_getElem?
  intro i
  rw [List.getElem?_map, List.getElem?_map]
  by_cases hi : i < a
  · rw [List.getElem?_range' (by omega)]
    have h1 : i < u.length := by omega
    simp [List.getElem?_append_left h1, List.getElem?_eq_getElem h1]
  · rw [List.getElem?_eq_none (by simp; omega), List.getElem?_eq_none (by omega)]
    rfl
theorem hf_hi {u v : va_W} {a n : Nat} (h : u.length = a) (hn : v.length = n) : (List.range' a n).map (fun i => (u ++ v)[i]?) = v.map some := by
  apply List.ext_getElem?
  intro i
  rw [List.getElem?_map, List.getElem?_map]
  by_cases hi : i < n
  · rw [List.getElem?_range' (by omega)]
    have h1 : i < v.length := by omega
    have h2 : u.length ≤ a + 1 * i := by omega
    have h3 : a + 1 * i - u.length = i := by omega
    simp only [Option.map_some, List.getElem?_append_right h2, h3, List.getElem?_eq_getElem h1]
  · rw [List.getElem?_eq_none (by simp; omega), List.getElem?_eq_none (by omega)]
    rfl
theorem hf_fm {xs : List Nat} {ws u : va_W} (h : xs.map (fun i => ws[i]?) = u.map some) : xs.filterMap (fun i => ws[i]?) = u := by
  have h1 : (xs.map (fun i => ws[i]?)).filterMap id = xs.filterMap (fun i => ws[i]?) := by rw [List.filterMap_map]; rfl
  rw [← h1, h, List.filterMap_map]
  simp
section KL
variable {p : Program} {l : Launch} {e : Env} {R : Room} {s : State} {m : MethodId} {args : Array Value} {below : List Frame} {meth : Method} {c : Code} {H : Heap} {locs : List Loc} {cells slots : Nat} {Q : State → Prop}
variable {cc : ByteArray} {pc mx : Nat} {ls : Array Slot} {rest : List Value} {A : Nat → Prop} {D : va_G} {ty : List (ClassId × FieldType)} {own : String}
theorem cVl {y : MethodName} {bytes : ByteArray} {mx' n idx ci NN b : Nat} {ret ret' : Option FieldType} {rm : Room} {C : String} {TT : u_T} {fs As st0 : List Value} {v : Option Value} {wD wM wD' : va_W} {st1 : List Value}
    (Cc : Cx p s m args meth c own cc mx ret) (hK : va_K D classes ty s) (hA : ∀ q, s.heap.size ≤ q → A q) (hP : va_P D classes (wD ++ wM) H) (hD : va_D A (wD ++ wM)) (hS : va_S A s.heap H locs) (hl : ls.size = mx) (n1 : wD.length = 21) (n2 : wM.length = 12) (n3 : wD'.length = 21)
    (ct : Ct l D ty y bytes mx' ret' rm (.ref b :: As) wD v wD') (wd : Cond.code y bytes mx' ret' ∈ tbg ∧ Cond.methodLink own idx y ∈ tbg ∧ Cond.instanceMethod y ∈ tbg ∧ Cond.selects C y y ∈ tbg ∧ Cond.initialized C ∈ tbg)
    (hd : y.cls = C ∧ y.cls ≠ "java/lang/invoke/MethodHandle" ∧ y.cls ≠ "java/lang/invoke/VarHandle" ∧ (parseMethodDescriptor y.desc).map (fun d => d.parameters.length) = some n)
    (hR : rm.cells = 0 ∧ rm.slots = 0 ∧ rm.frames + 1 ≤ R.frames ∧ 8 + (mx' + 11) + rm.locals ≤ R.locals) (hn : As.length = n) (hdg : decode cc pc = .ok (.invokevirtual idx, 3)) (hst : st0 = As.reverse ++ .ref b :: rest) (hW : (rest.map fun v => v.category).sum ≤ 8) (hf : cells ≤ R.cells ∧ slots ≤ R.slots) (hs1 : v.toList ++ rest = st1)
    (hr0 : wD[0]? = some (b, .inr (ci, fs))) (hcc : classes[ci]? = some (C, TT, NN))
    (kk : ∀ (H1 : Heap) (locs1 : List Loc), va_P D classes (wD' ++ wM) H1 → va_D A (wD' ++ wM) → va_S A s.heap H1 locs1 → W p l e R s m args below meth c H1 locs1 cells slots Q (F0 m (pc + 3) ls st1)) : W p l e R s m args below meth c H locs cells slots Q (F0 m pc ls st0) := by
  have e1 := hf_hi (v := wM) n1 n2
  have e2 := hf_fm e1
  refine cV (ws' := wD' ++ wM) Cc hK hA hP hD hS hl ct wd hd hR hn hdg hst hW hf hs1 hr0 hcc (List.range' 0 21) (List.range' 21 12) (List.range' 12 21 ++ List.range' 0 12) (hf_lo n1) (by rw [e2]; exact e1) (by decide) ?_ kk
  rw [e2, List.map_append, hf_hi n2 n3, hf_lo n2, List.map_append]
theorem cVr {y : MethodName} {bytes : ByteArray} {mx' n idx ci NN b : Nat} {ret ret' : Option FieldType} {rm : Room} {C : String} {TT : u_T} {fs As st0 : List Value} {v : Option Value} {wD wM wM' : va_W} {st1 : List Value}
    (Cc : Cx p s m args meth c own cc mx ret) (hK : va_K D classes ty s) (hA : ∀ q, s.heap.size ≤ q → A q) (hP : va_P D classes (wD ++ wM) H) (hD : va_D A (wD ++ wM)) (hS : va_S A s.heap H locs) (hl : ls.size = mx) (n1 : wD.length = 21) (n2 : wM.length = 12) (n3 : wM'.length = 12)
    (ct : Ct l D ty y bytes mx' ret' rm (.ref b :: As) wM v wM') (wd : Cond.code y bytes mx' ret' ∈ tbg ∧ Cond.methodLink own idx y ∈ tbg ∧ Cond.instanceMethod y ∈ tbg ∧ Cond.selects C y y ∈ tbg ∧ Cond.initialized C ∈ tbg)
    (hd : y.cls = C ∧ y.cls ≠ "java/lang/invoke/MethodHandle" ∧ y.cls ≠ "java/lang/invoke/VarHandle" ∧ (parseMethodDescriptor y.desc).map (fun d => d.parameters.length) = some n)
    (hR : rm.cells = 0 ∧ rm.slots = 0 ∧ rm.frames + 1 ≤ R.frames ∧ 8 + (mx' + 11) + rm.locals ≤ R.locals) (hn : As.length = n) (hdg : decode cc pc = .ok (.invokevirtual idx, 3)) (hst : st0 = As.reverse ++ .ref b :: rest) (hW : (rest.map fun v => v.category).sum ≤ 8) (hf : cells ≤ R.cells ∧ slots ≤ R.slots) (hs1 : v.toList ++ rest = st1)
    (hr0 : wM[0]? = some (b, .inr (ci, fs))) (hcc : classes[ci]? = some (C, TT, NN))
    (kk : ∀ (H1 : Heap) (locs1 : List Loc), va_P D classes (wD ++ wM') H1 → va_D A (wD ++ wM') → va_S A s.heap H1 locs1 → W p l e R s m args below meth c H1 locs1 cells slots Q (F0 m (pc + 3) ls st1)) : W p l e R s m args below meth c H locs cells slots Q (F0 m pc ls st0) := by
  have e1 := hf_lo (v := wM) n1
  have e2 := hf_fm e1
  refine cV (ws' := wD ++ wM') Cc hK hA hP hD hS hl ct wd hd hR hn hdg hst hW hf hs1 hr0 hcc (List.range' 21 12) (List.range' 0 21) (List.range' 0 33) (hf_hi n1 n2) (by rw [e2]; exact e1) (by decide) ?_ kk
  have h9 := hf_lo (u := wD ++ wM') (v := []) (a := 33) (by rw [List.length_append, n1, n3])
  rw [List.append_nil] at h9
  rw [e2]
  exact h9
/-- a number of the script is laid on the stack -/
theorem ld_a {b L i k : Nat} {xs : Nat → Int32} {kz : Int} {q1 q2 : Nat} (hx : p.tables.exec = Jvm.exec) (hb : c.code = cc) (hX : va_X b L xs s s.heap) (hbl : b < s.heap.size) (hbA : ¬ A b) (hS : va_S A s.heap H locs) (hl : lv_has ls 4 [(0, .ref b), (1, .ref q1), (2, .ref q2), (3, .int (nI i))]) (hk : i + k < L) (hL : L ≤ 384)
    (d0 : decode cc pc = .ok (.aload_n 0, 1)) (d1 : decode cc (pc + 1) = .ok (.iload_n 3, 1)) (d2 : decode cc (pc + 1 + 1) = .ok (.iconst kz, 1)) (hkz : Int32.ofInt kz = nI k) (d3 : decode cc (pc + 1 + 1 + 1) = .ok (.iadd, 1)) (d4 : decode cc (pc + 1 + 1 + 1 + 1) = .ok (.iaload, 1))
    (kk : W p l e R s m args below meth c H locs cells slots Q (F0 m (pc + 1 + 1 + 1 + 1 + 1) ls (.int (xs (i + k)) :: rest))) : W p l e R s m args below meth c H locs cells slots Q (F0 m pc ls rest) := by
  refine lv_aload_n hx hb d0 rfl (lv_at hl 0 rfl) ?_
  refine lv_iload_n hx hb d1 rfl (lv_at hl 3 rfl) ?_
  refine lv_iconst (v := nI k) hx hb d2 hkz ?_
  refine lv_iadd hx hb d3 ?_
  rw [nI_add]
  refine va_sld hx hb hX hbl hbA hS (vp_in_nI hk (by omega)) d4 ?_
  rw [nI_clamp (by omega)]
  exact kk
end KL
