/-! the law's cases -/
theorem lg_cmp_self (x : Int64) : lg_cmp x x = 0 := by
  unfold lg_cmp
  rw [if_neg (show ¬ x > x from fun h => absurd h (by simp)), if_pos rfl]
section CS
variable {p : Program} {l : Launch} {e : Env} {s : State} {m : MethodId} {args : Array Value} {below : List Frame} {meth : Method} {c : Code} {H : Heap} {locs : List Loc} {Q : State → Prop} {ls : Array Slot} {A : Nat → Prop} {D : va_G} {cI cS : ClassId} {ret : Option FieldType} {b L i ad am : Nat} {xs : Nat → Int32} {wD wM : va_W}
set_option maxRecDepth 20000 in
theorem cs_0 (Cc : Cx p s m args meth c RL cL_law 4 ret) (hK : va_K D classes (tysA cI cS) s) (hA : ∀ q, s.heap.size ≤ q → A q) (hX : va_X b L xs s s.heap) (hbl : b < s.heap.size) (hbA : ¬ A b) (hL : L ≤ 384) (hi : i + 6 ≤ L) (hl : lv_has ls 4 [(0, .ref b), (1, .ref ad), (2, .ref am), (3, .int (nI i))]) (hI : Iv cI cS ad am wD wM) (hP : va_P D classes (wD ++ wM) H) (hD : va_D A (wD ++ wM)) (hS : va_S A s.heap H locs)
    (kk : ∀ (wD' wM' : va_W) (H1 : Heap) (locs1 : List Loc), Iv cI cS ad am wD' wM' → va_P D classes (wD' ++ wM') H1 → va_D A (wD' ++ wM') → va_S A s.heap H1 locs1 → W p l e room_1 s m args below meth c H1 locs1 33 718 Q (F0 m 1060 ls [])) : W p l e room_1 s m args below meth c H locs 33 718 Q (F0 m 168 ls []) := by
  obtain ⟨hx, hb, hr, hml, hown, hts, hlk, hnw⟩ := id Cc
  obtain ⟨i1, i2, ⟨f4, e1⟩, ⟨f5, e2⟩⟩ := Iv_face hI
  obtain ⟨r, wD', wM', c4, c5, hI2⟩ := ag_bay l D hI (xs (i + 1)) (xs (i + 2)) (xs (i + 3)) (xs (i + 4))
  obtain ⟨j1, j2, -, -⟩ := Iv_face hI2
  refine lv_aload_n hx hb dL_law_168 rfl (lv_at hl 1 rfl) ?_
  refine ld_a (k := 1) hx hb hX hbl hbA hS hl (by omega) hL dL_law_169 dL_law_170 dL_law_171 (by decide) dL_law_172 dL_law_173 ?_
  refine ld_a (k := 2) hx hb hX hbl hbA hS hl (by omega) hL dL_law_174 dL_law_175 dL_law_176 (by decide) dL_law_177 dL_law_178 ?_
  refine ld_a (k := 3) hx hb hX hbl hbA hS hl (by omega) hL dL_law_179 dL_law_180 dL_law_181 (by decide) dL_law_182 dL_law_183 ?_
  refine ld_a (k := 4) hx hb hX hbl hbA hS hl (by omega) hL dL_law_184 dL_law_185 dL_law_186 (by decide) dL_law_187 dL_law_188 ?_
  refine cVl (R := room_1) (rest := []) (st1 := [.int r]) Cc hK hA hP hD hS hl.1 i1 i2 j1 c4 ⟨tw_148, tw_145, tw_146, tw_147, tw_1⟩ mdX4_bay ⟨rfl, rfl, Nat.le_of_ble_eq_true rfl, Nat.le_of_ble_eq_true rfl⟩ rfl dL_law_189 rfl (Nat.le_of_ble_eq_true rfl) ⟨Nat.le_of_ble_eq_true rfl, Nat.le_of_ble_eq_true rfl⟩ rfl e1 (ci := 4) (C := RX4) (TT := TX4) (NN := 7) rfl (fun H locs hP hD hS => ?_)
  refine lv_aload_n hx hb dL_law_192 rfl (lv_at hl 2 rfl) ?_
  refine ld_a (k := 1) hx hb hX hbl hbA hS hl (by omega) hL dL_law_193 dL_law_194 dL_law_195 (by decide) dL_law_196 dL_law_197 ?_
  refine ld_a (k := 2) hx hb hX hbl hbA hS hl (by omega) hL dL_law_198 dL_law_199 dL_law_200 (by decide) dL_law_201 dL_law_202 ?_
  refine ld_a (k := 3) hx hb hX hbl hbA hS hl (by omega) hL dL_law_203 dL_law_204 dL_law_205 (by decide) dL_law_206 dL_law_207 ?_
  refine ld_a (k := 4) hx hb hX hbl hbA hS hl (by omega) hL dL_law_208 dL_law_209 dL_law_210 (by decide) dL_law_211 dL_law_212 ?_
  refine cVr (R := room_1) (rest := [.int r]) (st1 := [.int r, .int r]) Cc hK hA hP hD hS hl.1 j1 i2 j2 c5 ⟨tw_582, tw_579, tw_580, tw_581, tw_6⟩ mdX5_bay ⟨rfl, rfl, Nat.le_of_ble_eq_true rfl, Nat.le_of_ble_eq_true rfl⟩ rfl dL_law_213 rfl (Nat.le_of_ble_eq_true rfl) ⟨Nat.le_of_ble_eq_true rfl, Nat.le_of_ble_eq_true rfl⟩ rfl e2 (ci := 5) (C := RX5) (TT := TX5) (NN := 25) rfl (fun H locs hP hD hS => ?_)
  exact lv_icmp_eq (tgt := 1060) hx hb dL_law_216 (by decide) (fun _ => kk _ _ _ _ hI2 hP hD hS) (fun h9 => absurd rfl h9)
set_option maxRecDepth 20000 in
theorem cs_1 (Cc : Cx p s m args meth c RL cL_law 4 ret) (hK : va_K D classes (tysA cI cS) s) (hA : ∀ q, s.heap.size ≤ q → A q) (hX : va_X b L xs s s.heap) (hbl : b < s.heap.size) (hbA : ¬ A b) (hL : L ≤ 384) (hi : i + 6 ≤ L) (hl : lv_has ls 4 [(0, .ref b), (1, .ref ad), (2, .ref am), (3, .int (nI i))]) (hI : Iv cI cS ad am wD wM) (hP : va_P D classes (wD ++ wM) H) (hD : va_D A (wD ++ wM)) (hS : va_S A s.heap H locs)
    (kk : ∀ (wD' wM' : va_W) (H1 : Heap) (locs1 : List Loc), Iv cI cS ad am wD' wM' → va_P D classes (wD' ++ wM') H1 → va_D A (wD' ++ wM') → va_S A s.heap H1 locs1 → W p l e room_1 s m args below meth c H1 locs1 33 718 Q (F0 m 1060 ls [])) : W p l e room_1 s m args below meth c H locs 33 718 Q (F0 m 221 ls []) := by
  obtain ⟨hx, hb, hr, hml, hown, hts, hlk, hnw⟩ := id Cc
  obtain ⟨i1, i2, ⟨f4, e1⟩, ⟨f5, e2⟩⟩ := Iv_face hI
  obtain ⟨r, wD', wM', c4, c5, hI2⟩ := ag_ofCell l D hI (xs (i + 1)) (xs (i + 2))
  obtain ⟨j1, j2, -, -⟩ := Iv_face hI2
  refine lv_aload_n hx hb dL_law_221 rfl (lv_at hl 1 rfl) ?_
  refine ld_a (k := 1) hx hb hX hbl hbA hS hl (by omega) hL dL_law_222 dL_law_223 dL_law_224 (by decide) dL_law_225 dL_law_226 ?_
  refine ld_a (k := 2) hx hb hX hbl hbA hS hl (by omega) hL dL_law_227 dL_law_228 dL_law_229 (by decide) dL_law_230 dL_law_231 ?_
  refine cVl (R := room_1) (rest := []) (st1 := [.int r]) Cc hK hA hP hD hS hl.1 i1 i2 j1 c4 ⟨tw_214, tw_211, tw_212, tw_213, tw_1⟩ mdX4_ofCell ⟨rfl, rfl, Nat.le_of_ble_eq_true rfl, Nat.le_of_ble_eq_true rfl⟩ rfl dL_law_232 rfl (Nat.le_of_ble_eq_true rfl) ⟨Nat.le_of_ble_eq_true rfl, Nat.le_of_ble_eq_true rfl⟩ rfl e1 (ci := 4) (C := RX4) (TT := TX4) (NN := 7) rfl (fun H locs hP hD hS => ?_)
  refine lv_aload_n hx hb dL_law_235 rfl (lv_at hl 2 rfl) ?_
  refine ld_a (k := 1) hx hb hX hbl hbA hS hl (by omega) hL dL_law_236 dL_law_237 dL_law_238 (by decide) dL_law_239 dL_law_240 ?_
  refine ld_a (k := 2) hx hb hX hbl hbA hS hl (by omega) hL dL_law_241 dL_law_242 dL_law_243 (by decide) dL_law_244 dL_law_245 ?_
  refine cVr (R := room_1) (rest := [.int r]) (st1 := [.int r, .int r]) Cc hK hA hP hD hS hl.1 j1 i2 j2 c5 ⟨tw_623, tw_620, tw_621, tw_622, tw_6⟩ mdX5_ofCell ⟨rfl, rfl, Nat.le_of_ble_eq_true rfl, Nat.le_of_ble_eq_true rfl⟩ rfl dL_law_246 rfl (Nat.le_of_ble_eq_true rfl) ⟨Nat.le_of_ble_eq_true rfl, Nat.le_of_ble_eq_true rfl⟩ rfl e2 (ci := 5) (C := RX5) (TT := TX5) (NN := 25) rfl (fun H locs hP hD hS => ?_)
  exact lv_icmp_eq (tgt := 1060) hx hb dL_law_249 (by decide) (fun _ => kk _ _ _ _ hI2 hP hD hS) (fun h9 => absurd rfl h9)
set_option maxRecDepth 20000 in
theorem cs_2 (Cc : Cx p s m args meth c RL cL_law 4 ret) (hK : va_K D classes (tysA cI cS) s) (hA : ∀ q, s.heap.size ≤ q → A q) (hX : va_X b L xs s s.heap) (hbl : b < s.heap.size) (hbA : ¬ A b) (hL : L ≤ 384) (hi : i + 6 ≤ L) (hl : lv_has ls 4 [(0, .ref b), (1, .ref ad), (2, .ref am), (3, .int (nI i))]) (hI : Iv cI cS ad am wD wM) (hP : va_P D classes (wD ++ wM) H) (hD : va_D A (wD ++ wM)) (hS : va_S A s.heap H locs)
    (kk : ∀ (wD' wM' : va_W) (H1 : Heap) (locs1 : List Loc), Iv cI cS ad am wD' wM' → va_P D classes (wD' ++ wM') H1 → va_D A (wD' ++ wM') → va_S A s.heap H1 locs1 → W p l e room_1 s m args below meth c H1 locs1 33 718 Q (F0 m 1060 ls [])) : W p l e room_1 s m args below meth c H locs 33 718 Q (F0 m 254 ls []) := by
  obtain ⟨hx, hb, hr, hml, hown, hts, hlk, hnw⟩ := id Cc
  obtain ⟨i1, i2, ⟨f4, e1⟩, ⟨f5, e2⟩⟩ := Iv_face hI
  obtain ⟨r, wD', wM', c4, c5, hI2⟩ := ag_shine l D hI (xs (i + 1))
  obtain ⟨j1, j2, -, -⟩ := Iv_face hI2
  refine lv_aload_n hx hb dL_law_254 rfl (lv_at hl 1 rfl) ?_
  refine ld_a (k := 1) hx hb hX hbl hbA hS hl (by omega) hL dL_law_255 dL_law_256 dL_law_257 (by decide) dL_law_258 dL_law_259 ?_
  refine cVl (R := room_1) (rest := []) (st1 := [.int r]) Cc hK hA hP hD hS hl.1 i1 i2 j1 c4 ⟨tw_248, tw_245, tw_246, tw_247, tw_1⟩ mdX4_shine ⟨rfl, rfl, Nat.le_of_ble_eq_true rfl, Nat.le_of_ble_eq_true rfl⟩ rfl dL_law_260 rfl (Nat.le_of_ble_eq_true rfl) ⟨Nat.le_of_ble_eq_true rfl, Nat.le_of_ble_eq_true rfl⟩ rfl e1 (ci := 4) (C := RX4) (TT := TX4) (NN := 7) rfl (fun H locs hP hD hS => ?_)
  refine lv_aload_n hx hb dL_law_263 rfl (lv_at hl 2 rfl) ?_
  refine ld_a (k := 1) hx hb hX hbl hbA hS hl (by omega) hL dL_law_264 dL_law_265 dL_law_266 (by decide) dL_law_267 dL_law_268 ?_
  refine cVr (R := room_1) (rest := [.int r]) (st1 := [.int r, .int r]) Cc hK hA hP hD hS hl.1 j1 i2 j2 c5 ⟨tw_661, tw_658, tw_659, tw_660, tw_6⟩ mdX5_shine ⟨rfl, rfl, Nat.le_of_ble_eq_true rfl, Nat.le_of_ble_eq_true rfl⟩ rfl dL_law_269 rfl (Nat.le_of_ble_eq_true rfl) ⟨Nat.le_of_ble_eq_true rfl, Nat.le_of_ble_eq_true rfl⟩ rfl e2 (ci := 5) (C := RX5) (TT := TX5) (NN := 25) rfl (fun H locs hP hD hS => ?_)
  exact lv_icmp_eq (tgt := 1060) hx hb dL_law_272 (by decide) (fun _ => kk _ _ _ _ hI2 hP hD hS) (fun h9 => absurd rfl h9)
set_option maxRecDepth 20000 in
theorem cs_3 (Cc : Cx p s m args meth c RL cL_law 4 ret) (hK : va_K D classes (tysA cI cS) s) (hA : ∀ q, s.heap.size ≤ q → A q) (hX : va_X b L xs s s.heap) (hbl : b < s.heap.size) (hbA : ¬ A b) (hL : L ≤ 384) (hi : i + 6 ≤ L) (hl : lv_has ls 4 [(0, .ref b), (1, .ref ad), (2, .ref am), (3, .int (nI i))]) (hI : Iv cI cS ad am wD wM) (hP : va_P D classes (wD ++ wM) H) (hD : va_D A (wD ++ wM)) (hS : va_S A s.heap H locs)
    (kk : ∀ (wD' wM' : va_W) (H1 : Heap) (locs1 : List Loc), Iv cI cS ad am wD' wM' → va_P D classes (wD' ++ wM') H1 → va_D A (wD' ++ wM') → va_S A s.heap H1 locs1 → W p l e room_1 s m args below meth c H1 locs1 33 718 Q (F0 m 1060 ls [])) : W p l e room_1 s m args below meth c H locs 33 718 Q (F0 m 277 ls []) := by
  obtain ⟨hx, hb, hr, hml, hown, hts, hlk, hnw⟩ := id Cc
  obtain ⟨i1, i2, ⟨f4, e1⟩, ⟨f5, e2⟩⟩ := Iv_face hI
  obtain ⟨r, wD', wM', c4, c5, hI2⟩ := ag_silt l D hI (xs (i + 1)) (xs (i + 2))
  obtain ⟨j1, j2, -, -⟩ := Iv_face hI2
  refine lv_aload_n hx hb dL_law_277 rfl (lv_at hl 1 rfl) ?_
  refine ld_a (k := 1) hx hb hX hbl hbA hS hl (by omega) hL dL_law_278 dL_law_279 dL_law_280 (by decide) dL_law_281 dL_law_282 ?_
  refine ld_a (k := 2) hx hb hX hbl hbA hS hl (by omega) hL dL_law_283 dL_law_284 dL_law_285 (by decide) dL_law_286 dL_law_287 ?_
  refine cVl (R := room_1) (rest := []) (st1 := [.int r]) Cc hK hA hP hD hS hl.1 i1 i2 j1 c4 ⟨tw_256, tw_253, tw_254, tw_255, tw_1⟩ mdX4_silt ⟨rfl, rfl, Nat.le_of_ble_eq_true rfl, Nat.le_of_ble_eq_true rfl⟩ rfl dL_law_288 rfl (Nat.le_of_ble_eq_true rfl) ⟨Nat.le_of_ble_eq_true rfl, Nat.le_of_ble_eq_true rfl⟩ rfl e1 (ci := 4) (C := RX4) (TT := TX4) (NN := 7) rfl (fun H locs hP hD hS => ?_)
  refine lv_aload_n hx hb dL_law_291 rfl (lv_at hl 2 rfl) ?_
  refine ld_a (k := 1) hx hb hX hbl hbA hS hl (by omega) hL dL_law_292 dL_law_293 dL_law_294 (by decide) dL_law_295 dL_law_296 ?_
  refine ld_a (k := 2) hx hb hX hbl hbA hS hl (by omega) hL dL_law_297 dL_law_298 dL_law_299 (by decide) dL_law_300 dL_law_301 ?_
  refine cVr (R := room_1) (rest := [.int r]) (st1 := [.int r, .int r]) Cc hK hA hP hD hS hl.1 j1 i2 j2 c5 ⟨tw_668, tw_665, tw_666, tw_667, tw_6⟩ mdX5_silt ⟨rfl, rfl, Nat.le_of_ble_eq_true rfl, Nat.le_of_ble_eq_true rfl⟩ rfl dL_law_302 rfl (Nat.le_of_ble_eq_true rfl) ⟨Nat.le_of_ble_eq_true rfl, Nat.le_of_ble_eq_true rfl⟩ rfl e2 (ci := 5) (C := RX5) (TT := TX5) (NN := 25) rfl (fun H locs hP hD hS => ?_)
  exact lv_icmp_eq (tgt := 1060) hx hb dL_law_305 (by decide) (fun _ => kk _ _ _ _ hI2 hP hD hS) (fun h9 => absurd rfl h9)
set_option maxRecDepth 20000 in
theorem cs_4 (Cc : Cx p s m args meth c RL cL_law 4 ret) (hK : va_K D classes (tysA cI cS) s) (hA : ∀ q, s.heap.size ≤ q → A q) (hX : va_X b L xs s s.heap) (hbl : b < s.heap.size) (hbA : ¬ A b) (hL : L ≤ 384) (hi : i + 6 ≤ L) (hl : lv_has ls 4 [(0, .ref b), (1, .ref ad), (2, .ref am), (3, .int (nI i))]) (hI : Iv cI cS ad am wD wM) (hP : va_P D classes (wD ++ wM) H) (hD : va_D A (wD ++ wM)) (hS : va_S A s.heap H locs)
    (kk : ∀ (wD' wM' : va_W) (H1 : Heap) (locs1 : List Loc), Iv cI cS ad am wD' wM' → va_P D classes (wD' ++ wM') H1 → va_D A (wD' ++ wM') → va_S A s.heap H1 locs1 → W p l e room_1 s m args below meth c H1 locs1 33 718 Q (F0 m 1060 ls [])) : W p l e room_1 s m args below meth c H locs 33 718 Q (F0 m 310 ls []) := by
  obtain ⟨hx, hb, hr, hml, hown, hts, hlk, hnw⟩ := id Cc
  obtain ⟨i1, i2, ⟨f4, e1⟩, ⟨f5, e2⟩⟩ := Iv_face hI
  obtain ⟨r, wD', wM', c4, c5, hI2⟩ := ag_dry l D hI (xs (i + 1))
  obtain ⟨j1, j2, -, -⟩ := Iv_face hI2
  refine lv_aload_n hx hb dL_law_310 rfl (lv_at hl 1 rfl) ?_
  refine ld_a (k := 1) hx hb hX hbl hbA hS hl (by omega) hL dL_law_311 dL_law_312 dL_law_313 (by decide) dL_law_314 dL_law_315 ?_
  refine cVl (R := room_1) (rest := []) (st1 := [.int r]) Cc hK hA hP hD hS hl.1 i1 i2 j1 c4 ⟨tw_260, tw_257, tw_258, tw_259, tw_1⟩ mdX4_dry ⟨rfl, rfl, Nat.le_of_ble_eq_true rfl, Nat.le_of_ble_eq_true rfl⟩ rfl dL_law_316 rfl (Nat.le_of_ble_eq_true rfl) ⟨Nat.le_of_ble_eq_true rfl, Nat.le_of_ble_eq_true rfl⟩ rfl e1 (ci := 4) (C := RX4) (TT := TX4) (NN := 7) rfl (fun H locs hP hD hS => ?_)
  refine lv_aload_n hx hb dL_law_319 rfl (lv_at hl 2 rfl) ?_
  refine ld_a (k := 1) hx hb hX hbl hbA hS hl (by omega) hL dL_law_320 dL_law_321 dL_law_322 (by decide) dL_law_323 dL_law_324 ?_
  refine cVr (R := room_1) (rest := [.int r]) (st1 := [.int r, .int r]) Cc hK hA hP hD hS hl.1 j1 i2 j2 c5 ⟨tw_672, tw_669, tw_670, tw_671, tw_6⟩ mdX5_dry ⟨rfl, rfl, Nat.le_of_ble_eq_true rfl, Nat.le_of_ble_eq_true rfl⟩ rfl dL_law_325 rfl (Nat.le_of_ble_eq_true rfl) ⟨Nat.le_of_ble_eq_true rfl, Nat.le_of_ble_eq_true rfl⟩ rfl e2 (ci := 5) (C := RX5) (TT := TX5) (NN := 25) rfl (fun H locs hP hD hS => ?_)
  exact lv_icmp_eq (tgt := 1060) hx hb dL_law_328 (by decide) (fun _ => kk _ _ _ _ hI2 hP hD hS) (fun h9 => absurd rfl h9)
set_option maxRecDepth 20000 in
theorem cs_5 (Cc : Cx p s m args meth c RL cL_law 4 ret) (hK : va_K D classes (tysA cI cS) s) (hA : ∀ q, s.heap.size ≤ q → A q) (hX : va_X b L xs s s.heap) (hbl : b < s.heap.size) (hbA : ¬ A b) (hL : L ≤ 384) (hi : i + 6 ≤ L) (hl : lv_has ls 4 [(0, .ref b), (1, .ref ad), (2, .ref am), (3, .int (nI i))]) (hI : Iv cI cS ad am wD wM) (hP : va_P D classes (wD ++ wM) H) (hD : va_D A (wD ++ wM)) (hS : va_S A s.heap H locs)
    (kk : ∀ (wD' wM' : va_W) (H1 : Heap) (locs1 : List Loc), Iv cI cS ad am wD' wM' → va_P D classes (wD' ++ wM') H1 → va_D A (wD' ++ wM') → va_S A s.heap H1 locs1 → W p l e room_1 s m args below meth c H1 locs1 33 718 Q (F0 m 1060 ls [])) : W p l e room_1 s m args below meth c H locs 33 718 Q (F0 m 333 ls []) := by
  obtain ⟨hx, hb, hr, hml, hown, hts, hlk, hnw⟩ := id Cc
  obtain ⟨i1, i2, ⟨f4, e1⟩, ⟨f5, e2⟩⟩ := Iv_face hI
  obtain ⟨r, wD', wM', c4, c5, hI2⟩ := ag_pour l D hI (xs (i + 1)) (xs (i + 2))
  obtain ⟨j1, j2, -, -⟩ := Iv_face hI2
  refine lv_aload_n hx hb dL_law_333 rfl (lv_at hl 1 rfl) ?_
  refine ld_a (k := 1) hx hb hX hbl hbA hS hl (by omega) hL dL_law_334 dL_law_335 dL_law_336 (by decide) dL_law_337 dL_law_338 ?_
  refine ld_a (k := 2) hx hb hX hbl hbA hS hl (by omega) hL dL_law_339 dL_law_340 dL_law_341 (by decide) dL_law_342 dL_law_343 ?_
  refine cVl (R := room_1) (rest := []) (st1 := [.int r]) Cc hK hA hP hD hS hl.1 i1 i2 j1 c4 ⟨tw_273, tw_270, tw_271, tw_272, tw_1⟩ mdX4_pour ⟨rfl, rfl, Nat.le_of_ble_eq_true rfl, Nat.le_of_ble_eq_true rfl⟩ rfl dL_law_344 rfl (Nat.le_of_ble_eq_true rfl) ⟨Nat.le_of_ble_eq_true rfl, Nat.le_of_ble_eq_true rfl⟩ rfl e1 (ci := 4) (C := RX4) (TT := TX4) (NN := 7) rfl (fun H locs hP hD hS => ?_)
  refine lv_aload_n hx hb dL_law_347 rfl (lv_at hl 2 rfl) ?_
  refine ld_a (k := 1) hx hb hX hbl hbA hS hl (by omega) hL dL_law_348 dL_law_349 dL_law_350 (by decide) dL_law_351 dL_law_352 ?_
  refine ld_a (k := 2) hx hb hX hbl hbA hS hl (by omega) hL dL_law_353 dL_law_354 dL_law_355 (by decide) dL_law_356 dL_law_357 ?_
  refine cVr (R := room_1) (rest := [.int r]) (st1 := [.int r, .int r]) Cc hK hA hP hD hS hl.1 j1 i2 j2 c5 ⟨tw_680, tw_677, tw_678, tw_679, tw_6⟩ mdX5_pour ⟨rfl, rfl, Nat.le_of_ble_eq_true rfl, Nat.le_of_ble_eq_true rfl⟩ rfl dL_law_358 rfl (Nat.le_of_ble_eq_true rfl) ⟨Nat.le_of_ble_eq_true rfl, Nat.le_of_ble_eq_true rfl⟩ rfl e2 (ci := 5) (C := RX5) (TT := TX5) (NN := 25) rfl (fun H locs hP hD hS => ?_)
  exact lv_icmp_eq (tgt := 1060) hx hb dL_law_361 (by decide) (fun _ => kk _ _ _ _ hI2 hP hD hS) (fun h9 => absurd rfl h9)
set_option maxRecDepth 20000 in
theorem cs_6 (Cc : Cx p s m args meth c RL cL_law 4 ret) (hK : va_K D classes (tysA cI cS) s) (hA : ∀ q, s.heap.size ≤ q → A q) (hX : va_X b L xs s s.heap) (hbl : b < s.heap.size) (hbA : ¬ A b) (hL : L ≤ 384) (hi : i + 6 ≤ L) (hl : lv_has ls 4 [(0, .ref b), (1, .ref ad), (2, .ref am), (3, .int (nI i))]) (hI : Iv cI cS ad am wD wM) (hP : va_P D classes (wD ++ wM) H) (hD : va_D A (wD ++ wM)) (hS : va_S A s.heap H locs)
    (kk : ∀ (wD' wM' : va_W) (H1 : Heap) (locs1 : List Loc), Iv cI cS ad am wD' wM' → va_P D classes (wD' ++ wM') H1 → va_D A (wD' ++ wM') → va_S A s.heap H1 locs1 → W p l e room_1 s m args below meth c H1 locs1 33 718 Q (F0 m 1060 ls [])) : W p l e room_1 s m args below meth c H locs 33 718 Q (F0 m 366 ls []) := by
  obtain ⟨hx, hb, hr, hml, hown, hts, hlk, hnw⟩ := id Cc
  obtain ⟨i1, i2, ⟨f4, e1⟩, ⟨f5, e2⟩⟩ := Iv_face hI
  obtain ⟨r, wD', wM', c4, c5, hI2⟩ := ag_cracks l D hI (xs (i + 1))
  obtain ⟨j1, j2, -, -⟩ := Iv_face hI2
  refine lv_aload_n hx hb dL_law_366 rfl (lv_at hl 1 rfl) ?_
  refine ld_a (k := 1) hx hb hX hbl hbA hS hl (by omega) hL dL_law_367 dL_law_368 dL_law_369 (by decide) dL_law_370 dL_law_371 ?_
  refine cVl (R := room_1) (rest := []) (st1 := [.int r]) Cc hK hA hP hD hS hl.1 i1 i2 j1 c4 ⟨tw_282, tw_279, tw_280, tw_281, tw_1⟩ mdX4_cracks ⟨rfl, rfl, Nat.le_of_ble_eq_true rfl, Nat.le_of_ble_eq_true rfl⟩ rfl dL_law_372 rfl (Nat.le_of_ble_eq_true rfl) ⟨Nat.le_of_ble_eq_true rfl, Nat.le_of_ble_eq_true rfl⟩ rfl e1 (ci := 4) (C := RX4) (TT := TX4) (NN := 7) rfl (fun H locs hP hD hS => ?_)
  refine lv_aload_n hx hb dL_law_375 rfl (lv_at hl 2 rfl) ?_
  refine ld_a (k := 1) hx hb hX hbl hbA hS hl (by omega) hL dL_law_376 dL_law_377 dL_law_378 (by decide) dL_law_379 dL_law_380 ?_
  refine cVr (R := room_1) (rest := [.int r]) (st1 := [.int r, .int r]) Cc hK hA hP hD hS hl.1 j1 i2 j2 c5 ⟨tw_688, tw_685, tw_686, tw_687, tw_6⟩ mdX5_cracks ⟨rfl, rfl, Nat.le_of_ble_eq_true rfl, Nat.le_of_ble_eq_true rfl⟩ rfl dL_law_381 rfl (Nat.le_of_ble_eq_true rfl) ⟨Nat.le_of_ble_eq_true rfl, Nat.le_of_ble_eq_true rfl⟩ rfl e2 (ci := 5) (C := RX5) (TT := TX5) (NN := 25) rfl (fun H locs hP hD hS => ?_)
  exact lv_icmp_eq (tgt := 1060) hx hb dL_law_384 (by decide) (fun _ => kk _ _ _ _ hI2 hP hD hS) (fun h9 => absurd rfl h9)
set_option maxRecDepth 20000 in
theorem cs_7 (Cc : Cx p s m args meth c RL cL_law 4 ret) (hK : va_K D classes (tysA cI cS) s) (hA : ∀ q, s.heap.size ≤ q → A q) (hX : va_X b L xs s s.heap) (hbl : b < s.heap.size) (hbA : ¬ A b) (hL : L ≤ 384) (hi : i + 6 ≤ L) (hl : lv_has ls 4 [(0, .ref b), (1, .ref ad), (2, .ref am), (3, .int (nI i))]) (hI : Iv cI cS ad am wD wM) (hP : va_P D classes (wD ++ wM) H) (hD : va_D A (wD ++ wM)) (hS : va_S A s.heap H locs)
    (kk : ∀ (wD' wM' : va_W) (H1 : Heap) (locs1 : List Loc), Iv cI cS ad am wD' wM' → va_P D classes (wD' ++ wM') H1 → va_D A (wD' ++ wM') → va_S A s.heap H1 locs1 → W p l e room_1 s m args below meth c H1 locs1 33 718 Q (F0 m 1060 ls [])) : W p l e room_1 s m args below meth c H locs 33 718 Q (F0 m 389 ls []) := by
  obtain ⟨hx, hb, hr, hml, hown, hts, hlk, hnw⟩ := id Cc
  obtain ⟨i1, i2, ⟨f4, e1⟩, ⟨f5, e2⟩⟩ := Iv_face hI
  obtain ⟨r, wD', wM', c4, c5, hI2⟩ := ag_way l D hI (xs (i + 1)) (xs (i + 2))
  obtain ⟨j1, j2, -, -⟩ := Iv_face hI2
  refine lv_aload_n hx hb dL_law_389 rfl (lv_at hl 1 rfl) ?_
  refine ld_a (k := 1) hx hb hX hbl hbA hS hl (by omega) hL dL_law_390 dL_law_391 dL_law_392 (by decide) dL_law_393 dL_law_394 ?_
  refine ld_a (k := 2) hx hb hX hbl hbA hS hl (by omega) hL dL_law_395 dL_law_396 dL_law_397 (by decide) dL_law_398 dL_law_399 ?_
  refine cVl (R := room_1) (rest := []) (st1 := [.int r]) Cc hK hA hP hD hS hl.1 i1 i2 j1 c4 ⟨tw_304, tw_301, tw_302, tw_303, tw_1⟩ mdX4_way ⟨rfl, rfl, Nat.le_of_ble_eq_true rfl, Nat.le_of_ble_eq_true rfl⟩ rfl dL_law_400 rfl (Nat.le_of_ble_eq_true rfl) ⟨Nat.le_of_ble_eq_true rfl, Nat.le_of_ble_eq_true rfl⟩ rfl e1 (ci := 4) (C := RX4) (TT := TX4) (NN := 7) rfl (fun H locs hP hD hS => ?_)
  refine lv_aload_n hx hb dL_law_403 rfl (lv_at hl 2 rfl) ?_
  refine ld_a (k := 1) hx hb hX hbl hbA hS hl (by omega) hL dL_law_404 dL_law_405 dL_law_406 (by decide) dL_law_407 dL_law_408 ?_
  refine ld_a (k := 2) hx hb hX hbl hbA hS hl (by omega) hL dL_law_409 dL_law_410 dL_law_411 (by decide) dL_law_412 dL_law_413 ?_
  refine cVr (R := room_1) (rest := [.int r]) (st1 := [.int r, .int r]) Cc hK hA hP hD hS hl.1 j1 i2 j2 c5 ⟨tw_696, tw_693, tw_694, tw_695, tw_6⟩ mdX5_way ⟨rfl, rfl, Nat.le_of_ble_eq_true rfl, Nat.le_of_ble_eq_true rfl⟩ rfl dL_law_414 rfl (Nat.le_of_ble_eq_true rfl) ⟨Nat.le_of_ble_eq_true rfl, Nat.le_of_ble_eq_true rfl⟩ rfl e2 (ci := 5) (C := RX5) (TT := TX5) (NN := 25) rfl (fun H locs hP hD hS => ?_)
  exact lv_icmp_eq (tgt := 1060) hx hb dL_law_417 (by decide) (fun _ => kk _ _ _ _ hI2 hP hD hS) (fun h9 => absurd rfl h9)
set_option maxRecDepth 20000 in
theorem cs_8 (Cc : Cx p s m args meth c RL cL_law 4 ret) (hK : va_K D classes (tysA cI cS) s) (hA : ∀ q, s.heap.size ≤ q → A q) (hX : va_X b L xs s s.heap) (hbl : b < s.heap.size) (hbA : ¬ A b) (hL : L ≤ 384) (hi : i + 6 ≤ L) (hl : lv_has ls 4 [(0, .ref b), (1, .ref ad), (2, .ref am), (3, .int (nI i))]) (hI : Iv cI cS ad am wD wM) (hP : va_P D classes (wD ++ wM) H) (hD : va_D A (wD ++ wM)) (hS : va_S A s.heap H locs)
    (kk : ∀ (wD' wM' : va_W) (H1 : Heap) (locs1 : List Loc), Iv cI cS ad am wD' wM' → va_P D classes (wD' ++ wM') H1 → va_D A (wD' ++ wM') → va_S A s.heap H1 locs1 → W p l e room_1 s m args below meth c H1 locs1 33 718 Q (F0 m 1060 ls [])) : W p l e room_1 s m args below meth c H locs 33 718 Q (F0 m 422 ls []) := by
  obtain ⟨hx, hb, hr, hml, hown, hts, hlk, hnw⟩ := id Cc
  obtain ⟨i1, i2, ⟨f4, e1⟩, ⟨f5, e2⟩⟩ := Iv_face hI
  obtain ⟨r, wD', wM', c4, c5, hI2⟩ := ag_plan l D hI (xs (i + 1)) (xs (i + 2)) (xs (i + 3)) (xs (i + 4)) (xs (i + 5))
  obtain ⟨j1, j2, -, -⟩ := Iv_face hI2
  refine lv_aload_n hx hb dL_law_422 rfl (lv_at hl 1 rfl) ?_
  refine ld_a (k := 1) hx hb hX hbl hbA hS hl (by omega) hL dL_law_423 dL_law_424 dL_law_425 (by decide) dL_law_426 dL_law_427 ?_
  refine ld_a (k := 2) hx hb hX hbl hbA hS hl (by omega) hL dL_law_428 dL_law_429 dL_law_430 (by decide) dL_law_431 dL_law_432 ?_
  refine ld_a (k := 3) hx hb hX hbl hbA hS hl (by omega) hL dL_law_433 dL_law_434 dL_law_435 (by decide) dL_law_436 dL_law_437 ?_
  refine ld_a (k := 4) hx hb hX hbl hbA hS hl (by omega) hL dL_law_438 dL_law_439 dL_law_440 (by decide) dL_law_441 dL_law_442 ?_
  refine ld_a (k := 5) hx hb hX hbl hbA hS hl (by omega) hL dL_law_443 dL_law_444 dL_law_445 (by decide) dL_law_446 dL_law_447 ?_
  refine cVl (R := room_1) (rest := []) (st1 := [.int r]) Cc hK hA hP hD hS hl.1 i1 i2 j1 c4 ⟨tw_312, tw_309, tw_310, tw_311, tw_1⟩ mdX4_plan ⟨rfl, rfl, Nat.le_of_ble_eq_true rfl, Nat.le_of_ble_eq_true rfl⟩ rfl dL_law_448 rfl (Nat.le_of_ble_eq_true rfl) ⟨Nat.le_of_ble_eq_true rfl, Nat.le_of_ble_eq_true rfl⟩ rfl e1 (ci := 4) (C := RX4) (TT := TX4) (NN := 7) rfl (fun H locs hP hD hS => ?_)
  refine lv_aload_n hx hb dL_law_451 rfl (lv_at hl 2 rfl) ?_
  refine ld_a (k := 1) hx hb hX hbl hbA hS hl (by omega) hL dL_law_452 dL_law_453 dL_law_454 (by decide) dL_law_455 dL_law_456 ?_
  refine ld_a (k := 2) hx hb hX hbl hbA hS hl (by omega) hL dL_law_457 dL_law_458 dL_law_459 (by decide) dL_law_460 dL_law_461 ?_
  refine ld_a (k := 3) hx hb hX hbl hbA hS hl (by omega) hL dL_law_462 dL_law_463 dL_law_464 (by decide) dL_law_465 dL_law_466 ?_
  refine ld_a (k := 4) hx hb hX hbl hbA hS hl (by omega) hL dL_law_467 dL_law_468 dL_law_469 (by decide) dL_law_470 dL_law_471 ?_
  refine ld_a (k := 5) hx hb hX hbl hbA hS hl (by omega) hL dL_law_472 dL_law_473 dL_law_474 (by decide) dL_law_475 dL_law_476 ?_
  refine cVr (R := room_1) (rest := [.int r]) (st1 := [.int r, .int r]) Cc hK hA hP hD hS hl.1 j1 i2 j2 c5 ⟨tw_700, tw_697, tw_698, tw_699, tw_6⟩ mdX5_plan ⟨rfl, rfl, Nat.le_of_ble_eq_true rfl, Nat.le_of_ble_eq_true rfl⟩ rfl dL_law_477 rfl (Nat.le_of_ble_eq_true rfl) ⟨Nat.le_of_ble_eq_true rfl, Nat.le_of_ble_eq_true rfl⟩ rfl e2 (ci := 5) (C := RX5) (TT := TX5) (NN := 25) rfl (fun H locs hP hD hS => ?_)
  exact lv_icmp_eq (tgt := 1060) hx hb dL_law_480 (by decide) (fun _ => kk _ _ _ _ hI2 hP hD hS) (fun h9 => absurd rfl h9)
set_option maxRecDepth 20000 in
theorem cs_9 (Cc : Cx p s m args meth c RL cL_law 4 ret) (hK : va_K D classes (tysA cI cS) s) (hA : ∀ q, s.heap.size ≤ q → A q) (hX : va_X b L xs s s.heap) (hbl : b < s.heap.size) (hbA : ¬ A b) (hL : L ≤ 384) (hi : i + 6 ≤ L) (hl : lv_has ls 4 [(0, .ref b), (1, .ref ad), (2, .ref am), (3, .int (nI i))]) (hI : Iv cI cS ad am wD wM) (hP : va_P D classes (wD ++ wM) H) (hD : va_D A (wD ++ wM)) (hS : va_S A s.heap H locs)
    (kk : ∀ (wD' wM' : va_W) (H1 : Heap) (locs1 : List Loc), Iv cI cS ad am wD' wM' → va_P D classes (wD' ++ wM') H1 → va_D A (wD' ++ wM') → va_S A s.heap H1 locs1 → W p l e room_1 s m args below meth c H1 locs1 33 718 Q (F0 m 1060 ls [])) : W p l e room_1 s m args below meth c H locs 33 718 Q (F0 m 485 ls []) := by
  obtain ⟨hx, hb, hr, hml, hown, hts, hlk, hnw⟩ := id Cc
  obtain ⟨i1, i2, ⟨f4, e1⟩, ⟨f5, e2⟩⟩ := Iv_face hI
  obtain ⟨r, wD', wM', c4, c5, hI2⟩ := ag_when l D hI (xs (i + 1))
  obtain ⟨j1, j2, -, -⟩ := Iv_face hI2
  refine lv_aload_n hx hb dL_law_485 rfl (lv_at hl 1 rfl) ?_
  refine ld_a (k := 1) hx hb hX hbl hbA hS hl (by omega) hL dL_law_486 dL_law_487 dL_law_488 (by decide) dL_law_489 dL_law_490 ?_
  refine cVl (R := room_1) (rest := []) (st1 := [.int r]) Cc hK hA hP hD hS hl.1 i1 i2 j1 c4 ⟨tw_350, tw_347, tw_348, tw_349, tw_1⟩ mdX4_when ⟨rfl, rfl, Nat.le_of_ble_eq_true rfl, Nat.le_of_ble_eq_true rfl⟩ rfl dL_law_491 rfl (Nat.le_of_ble_eq_true rfl) ⟨Nat.le_of_ble_eq_true rfl, Nat.le_of_ble_eq_true rfl⟩ rfl e1 (ci := 4) (C := RX4) (TT := TX4) (NN := 7) rfl (fun H locs hP hD hS => ?_)
  refine lv_aload_n hx hb dL_law_494 rfl (lv_at hl 2 rfl) ?_
  refine ld_a (k := 1) hx hb hX hbl hbA hS hl (by omega) hL dL_law_495 dL_law_496 dL_law_497 (by decide) dL_law_498 dL_law_499 ?_
  refine cVr (R := room_1) (rest := [.int r]) (st1 := [.int r, .int r]) Cc hK hA hP hD hS hl.1 j1 i2 j2 c5 ⟨tw_732, tw_729, tw_730, tw_731, tw_6⟩ mdX5_when ⟨rfl, rfl, Nat.le_of_ble_eq_true rfl, Nat.le_of_ble_eq_true rfl⟩ rfl dL_law_500 rfl (Nat.le_of_ble_eq_true rfl) ⟨Nat.le_of_ble_eq_true rfl, Nat.le_of_ble_eq_true rfl⟩ rfl e2 (ci := 5) (C := RX5) (TT := TX5) (NN := 25) rfl (fun H locs hP hD hS => ?_)
  exact lv_icmp_eq (tgt := 1060) hx hb dL_law_503 (by decide) (fun _ => kk _ _ _ _ hI2 hP hD hS) (fun h9 => absurd rfl h9)
set_option maxRecDepth 20000 in
theorem cs_10 (Cc : Cx p s m args meth c RL cL_law 4 ret) (hK : va_K D classes (tysA cI cS) s) (hA : ∀ q, s.heap.size ≤ q → A q) (hX : va_X b L xs s s.heap) (hbl : b < s.heap.size) (hbA : ¬ A b) (hL : L ≤ 384) (hi : i + 6 ≤ L) (hl : lv_has ls 4 [(0, .ref b), (1, .ref ad), (2, .ref am), (3, .int (nI i))]) (hI : Iv cI cS ad am wD wM) (hP : va_P D classes (wD ++ wM) H) (hD : va_D A (wD ++ wM)) (hS : va_S A s.heap H locs)
    (kk : ∀ (wD' wM' : va_W) (H1 : Heap) (locs1 : List Loc), Iv cI cS ad am wD' wM' → va_P D classes (wD' ++ wM') H1 → va_D A (wD' ++ wM') → va_S A s.heap H1 locs1 → W p l e room_1 s m args below meth c H1 locs1 33 718 Q (F0 m 1060 ls [])) : W p l e room_1 s m args below meth c H locs 33 718 Q (F0 m 508 ls []) := by
  obtain ⟨hx, hb, hr, hml, hown, hts, hlk, hnw⟩ := id Cc
  obtain ⟨i1, i2, ⟨f4, e1⟩, ⟨f5, e2⟩⟩ := Iv_face hI
  obtain ⟨r, wD', wM', c4, c5, hI2⟩ := ag_opens l D hI
  obtain ⟨j1, j2, -, -⟩ := Iv_face hI2
  refine lv_aload_n hx hb dL_law_508 rfl (lv_at hl 1 rfl) ?_
  refine cVl (R := room_1) (rest := []) (st1 := [.int r]) Cc hK hA hP hD hS hl.1 i1 i2 j1 c4 ⟨tw_358, tw_355, tw_356, tw_357, tw_1⟩ mdX4_opens ⟨rfl, rfl, Nat.le_of_ble_eq_true rfl, Nat.le_of_ble_eq_true rfl⟩ rfl dL_law_509 rfl (Nat.le_of_ble_eq_true rfl) ⟨Nat.le_of_ble_eq_true rfl, Nat.le_of_ble_eq_true rfl⟩ rfl e1 (ci := 4) (C := RX4) (TT := TX4) (NN := 7) rfl (fun H locs hP hD hS => ?_)
  refine lv_aload_n hx hb dL_law_512 rfl (lv_at hl 2 rfl) ?_
  refine cVr (R := room_1) (rest := [.int r]) (st1 := [.int r, .int r]) Cc hK hA hP hD hS hl.1 j1 i2 j2 c5 ⟨tw_736, tw_733, tw_734, tw_735, tw_6⟩ mdX5_opens ⟨rfl, rfl, Nat.le_of_ble_eq_true rfl, Nat.le_of_ble_eq_true rfl⟩ rfl dL_law_513 rfl (Nat.le_of_ble_eq_true rfl) ⟨Nat.le_of_ble_eq_true rfl, Nat.le_of_ble_eq_true rfl⟩ rfl e2 (ci := 5) (C := RX5) (TT := TX5) (NN := 25) rfl (fun H locs hP hD hS => ?_)
  exact lv_icmp_eq (tgt := 1060) hx hb dL_law_516 (by decide) (fun _ => kk _ _ _ _ hI2 hP hD hS) (fun h9 => absurd rfl h9)
set_option maxRecDepth 20000 in
theorem cs_11 (Cc : Cx p s m args meth c RL cL_law 4 ret) (hK : va_K D classes (tysA cI cS) s) (hA : ∀ q, s.heap.size ≤ q → A q) (hX : va_X b L xs s s.heap) (hbl : b < s.heap.size) (hbA : ¬ A b) (hL : L ≤ 384) (hi : i + 6 ≤ L) (hl : lv_has ls 4 [(0, .ref b), (1, .ref ad), (2, .ref am), (3, .int (nI i))]) (hI : Iv cI cS ad am wD wM) (hP : va_P D classes (wD ++ wM) H) (hD : va_D A (wD ++ wM)) (hS : va_S A s.heap H locs)
    (kk : ∀ (wD' wM' : va_W) (H1 : Heap) (locs1 : List Loc), Iv cI cS ad am wD' wM' → va_P D classes (wD' ++ wM') H1 → va_D A (wD' ++ wM') → va_S A s.heap H1 locs1 → W p l e room_1 s m args below meth c H1 locs1 33 718 Q (F0 m 1060 ls [])) : W p l e room_1 s m args below meth c H locs 33 718 Q (F0 m 521 ls []) := by
  obtain ⟨hx, hb, hr, hml, hown, hts, hlk, hnw⟩ := id Cc
  obtain ⟨i1, i2, ⟨f4, e1⟩, ⟨f5, e2⟩⟩ := Iv_face hI
  obtain ⟨r, wD', wM', c4, c5, hI2⟩ := ag_bars l D hI (xs (i + 1))
  obtain ⟨j1, j2, -, -⟩ := Iv_face hI2
  refine lv_aload_n hx hb dL_law_521 rfl (lv_at hl 1 rfl) ?_
  refine ld_a (k := 1) hx hb hX hbl hbA hS hl (by omega) hL dL_law_522 dL_law_523 dL_law_524 (by decide) dL_law_525 dL_law_526 ?_
  refine cVl (R := room_1) (rest := []) (st1 := [.int r]) Cc hK hA hP hD hS hl.1 i1 i2 j1 c4 ⟨tw_367, tw_364, tw_365, tw_366, tw_1⟩ mdX4_bars ⟨rfl, rfl, Nat.le_of_ble_eq_true rfl, Nat.le_of_ble_eq_true rfl⟩ rfl dL_law_527 rfl (Nat.le_of_ble_eq_true rfl) ⟨Nat.le_of_ble_eq_true rfl, Nat.le_of_ble_eq_true rfl⟩ rfl e1 (ci := 4) (C := RX4) (TT := TX4) (NN := 7) rfl (fun H locs hP hD hS => ?_)
  refine lv_aload_n hx hb dL_law_530 rfl (lv_at hl 2 rfl) ?_
  refine ld_a (k := 1) hx hb hX hbl hbA hS hl (by omega) hL dL_law_531 dL_law_532 dL_law_533 (by decide) dL_law_534 dL_law_535 ?_
  refine cVr (R := room_1) (rest := [.int r]) (st1 := [.int r, .int r]) Cc hK hA hP hD hS hl.1 j1 i2 j2 c5 ⟨tw_740, tw_737, tw_738, tw_739, tw_6⟩ mdX5_bars ⟨rfl, rfl, Nat.le_of_ble_eq_true rfl, Nat.le_of_ble_eq_true rfl⟩ rfl dL_law_536 rfl (Nat.le_of_ble_eq_true rfl) ⟨Nat.le_of_ble_eq_true rfl, Nat.le_of_ble_eq_true rfl⟩ rfl e2 (ci := 5) (C := RX5) (TT := TX5) (NN := 25) rfl (fun H locs hP hD hS => ?_)
  exact lv_icmp_eq (tgt := 1060) hx hb dL_law_539 (by decide) (fun _ => kk _ _ _ _ hI2 hP hD hS) (fun h9 => absurd rfl h9)
set_option maxRecDepth 20000 in
theorem cs_12 (Cc : Cx p s m args meth c RL cL_law 4 ret) (hK : va_K D classes (tysA cI cS) s) (hA : ∀ q, s.heap.size ≤ q → A q) (hX : va_X b L xs s s.heap) (hbl : b < s.heap.size) (hbA : ¬ A b) (hL : L ≤ 384) (hi : i + 6 ≤ L) (hl : lv_has ls 4 [(0, .ref b), (1, .ref ad), (2, .ref am), (3, .int (nI i))]) (hI : Iv cI cS ad am wD wM) (hP : va_P D classes (wD ++ wM) H) (hD : va_D A (wD ++ wM)) (hS : va_S A s.heap H locs)
    (kk : ∀ (wD' wM' : va_W) (H1 : Heap) (locs1 : List Loc), Iv cI cS ad am wD' wM' → va_P D classes (wD' ++ wM') H1 → va_D A (wD' ++ wM') → va_S A s.heap H1 locs1 → W p l e room_1 s m args below meth c H1 locs1 33 718 Q (F0 m 1060 ls [])) : W p l e room_1 s m args below meth c H locs 33 718 Q (F0 m 544 ls []) := by
  obtain ⟨hx, hb, hr, hml, hown, hts, hlk, hnw⟩ := id Cc
  obtain ⟨i1, i2, ⟨f4, e1⟩, ⟨f5, e2⟩⟩ := Iv_face hI
  obtain ⟨r, wD', wM', c4, c5, hI2⟩ := ag_dates l D hI (xs (i + 1))
  obtain ⟨j1, j2, -, -⟩ := Iv_face hI2
  refine lv_aload_n hx hb dL_law_544 rfl (lv_at hl 1 rfl) ?_
  refine ld_a (k := 1) hx hb hX hbl hbA hS hl (by omega) hL dL_law_545 dL_law_546 dL_law_547 (by decide) dL_law_548 dL_law_549 ?_
  refine cVl (R := room_1) (rest := []) (st1 := [.int r]) Cc hK hA hP hD hS hl.1 i1 i2 j1 c4 ⟨tw_376, tw_373, tw_374, tw_375, tw_1⟩ mdX4_dates ⟨rfl, rfl, Nat.le_of_ble_eq_true rfl, Nat.le_of_ble_eq_true rfl⟩ rfl dL_law_550 rfl (Nat.le_of_ble_eq_true rfl) ⟨Nat.le_of_ble_eq_true rfl, Nat.le_of_ble_eq_true rfl⟩ rfl e1 (ci := 4) (C := RX4) (TT := TX4) (NN := 7) rfl (fun H locs hP hD hS => ?_)
  refine lv_aload_n hx hb dL_law_553 rfl (lv_at hl 2 rfl) ?_
  refine ld_a (k := 1) hx hb hX hbl hbA hS hl (by omega) hL dL_law_554 dL_law_555 dL_law_556 (by decide) dL_law_557 dL_law_558 ?_
  refine cVr (R := room_1) (rest := [.int r]) (st1 := [.int r, .int r]) Cc hK hA hP hD hS hl.1 j1 i2 j2 c5 ⟨tw_744, tw_741, tw_742, tw_743, tw_6⟩ mdX5_dates ⟨rfl, rfl, Nat.le_of_ble_eq_true rfl, Nat.le_of_ble_eq_true rfl⟩ rfl dL_law_559 rfl (Nat.le_of_ble_eq_true rfl) ⟨Nat.le_of_ble_eq_true rfl, Nat.le_of_ble_eq_true rfl⟩ rfl e2 (ci := 5) (C := RX5) (TT := TX5) (NN := 25) rfl (fun H locs hP hD hS => ?_)
  exact lv_icmp_eq (tgt := 1060) hx hb dL_law_562 (by decide) (fun _ => kk _ _ _ _ hI2 hP hD hS) (fun h9 => absurd rfl h9)
set_option maxRecDepth 20000 in
theorem cs_13 (Cc : Cx p s m args meth c RL cL_law 4 ret) (hK : va_K D classes (tysA cI cS) s) (hA : ∀ q, s.heap.size ≤ q → A q) (hX : va_X b L xs s s.heap) (hbl : b < s.heap.size) (hbA : ¬ A b) (hL : L ≤ 384) (hi : i + 6 ≤ L) (hl : lv_has ls 4 [(0, .ref b), (1, .ref ad), (2, .ref am), (3, .int (nI i))]) (hI : Iv cI cS ad am wD wM) (hP : va_P D classes (wD ++ wM) H) (hD : va_D A (wD ++ wM)) (hS : va_S A s.heap H locs)
    (kk : ∀ (wD' wM' : va_W) (H1 : Heap) (locs1 : List Loc), Iv cI cS ad am wD' wM' → va_P D classes (wD' ++ wM') H1 → va_D A (wD' ++ wM') → va_S A s.heap H1 locs1 → W p l e room_1 s m args below meth c H1 locs1 33 718 Q (F0 m 1060 ls [])) : W p l e room_1 s m args below meth c H locs 33 718 Q (F0 m 567 ls []) := by
  obtain ⟨hx, hb, hr, hml, hown, hts, hlk, hnw⟩ := id Cc
  obtain ⟨i1, i2, ⟨f4, e1⟩, ⟨f5, e2⟩⟩ := Iv_face hI
  obtain ⟨r, wD', wM', c4, c5, hI2⟩ := ag_reading l D hI (xs (i + 1)) (xs (i + 2)) (xs (i + 3))
  obtain ⟨j1, j2, -, -⟩ := Iv_face hI2
  refine lv_aload_n hx hb dL_law_567 rfl (lv_at hl 1 rfl) ?_
  refine ld_a (k := 1) hx hb hX hbl hbA hS hl (by omega) hL dL_law_568 dL_law_569 dL_law_570 (by decide) dL_law_571 dL_law_572 ?_
  refine ld_a (k := 2) hx hb hX hbl hbA hS hl (by omega) hL dL_law_573 dL_law_574 dL_law_575 (by decide) dL_law_576 dL_law_577 ?_
  refine ld_a (k := 3) hx hb hX hbl hbA hS hl (by omega) hL dL_law_578 dL_law_579 dL_law_580 (by decide) dL_law_581 dL_law_582 ?_
  refine cVl (R := room_1) (rest := []) (st1 := [.int r]) Cc hK hA hP hD hS hl.1 i1 i2 j1 c4 ⟨tw_380, tw_377, tw_378, tw_379, tw_1⟩ mdX4_reading ⟨rfl, rfl, Nat.le_of_ble_eq_true rfl, Nat.le_of_ble_eq_true rfl⟩ rfl dL_law_583 rfl (Nat.le_of_ble_eq_true rfl) ⟨Nat.le_of_ble_eq_true rfl, Nat.le_of_ble_eq_true rfl⟩ rfl e1 (ci := 4) (C := RX4) (TT := TX4) (NN := 7) rfl (fun H locs hP hD hS => ?_)
  refine lv_aload_n hx hb dL_law_586 rfl (lv_at hl 2 rfl) ?_
  refine ld_a (k := 1) hx hb hX hbl hbA hS hl (by omega) hL dL_law_587 dL_law_588 dL_law_589 (by decide) dL_law_590 dL_law_591 ?_
  refine ld_a (k := 2) hx hb hX hbl hbA hS hl (by omega) hL dL_law_592 dL_law_593 dL_law_594 (by decide) dL_law_595 dL_law_596 ?_
  refine ld_a (k := 3) hx hb hX hbl hbA hS hl (by omega) hL dL_law_597 dL_law_598 dL_law_599 (by decide) dL_law_600 dL_law_601 ?_
  refine cVr (R := room_1) (rest := [.int r]) (st1 := [.int r, .int r]) Cc hK hA hP hD hS hl.1 j1 i2 j2 c5 ⟨tw_748, tw_745, tw_746, tw_747, tw_6⟩ mdX5_reading ⟨rfl, rfl, Nat.le_of_ble_eq_true rfl, Nat.le_of_ble_eq_true rfl⟩ rfl dL_law_602 rfl (Nat.le_of_ble_eq_true rfl) ⟨Nat.le_of_ble_eq_true rfl, Nat.le_of_ble_eq_true rfl⟩ rfl e2 (ci := 5) (C := RX5) (TT := TX5) (NN := 25) rfl (fun H locs hP hD hS => ?_)
  exact lv_icmp_eq (tgt := 1060) hx hb dL_law_605 (by decide) (fun _ => kk _ _ _ _ hI2 hP hD hS) (fun h9 => absurd rfl h9)
set_option maxRecDepth 20000 in
theorem cs_14 (Cc : Cx p s m args meth c RL cL_law 4 ret) (hK : va_K D classes (tysA cI cS) s) (hA : ∀ q, s.heap.size ≤ q → A q) (hX : va_X b L xs s s.heap) (hbl : b < s.heap.size) (hbA : ¬ A b) (hL : L ≤ 384) (hi : i + 6 ≤ L) (hl : lv_has ls 4 [(0, .ref b), (1, .ref ad), (2, .ref am), (3, .int (nI i))]) (hI : Iv cI cS ad am wD wM) (hP : va_P D classes (wD ++ wM) H) (hD : va_D A (wD ++ wM)) (hS : va_S A s.heap H locs)
    (kk : ∀ (wD' wM' : va_W) (H1 : Heap) (locs1 : List Loc), Iv cI cS ad am wD' wM' → va_P D classes (wD' ++ wM') H1 → va_D A (wD' ++ wM') → va_S A s.heap H1 locs1 → W p l e room_1 s m args below meth c H1 locs1 33 718 Q (F0 m 1060 ls [])) : W p l e room_1 s m args below meth c H locs 33 718 Q (F0 m 610 ls []) := by
  obtain ⟨hx, hb, hr, hml, hown, hts, hlk, hnw⟩ := id Cc
  obtain ⟨i1, i2, ⟨f4, e1⟩, ⟨f5, e2⟩⟩ := Iv_face hI
  obtain ⟨r, wD', wM', c4, c5, hI2⟩ := ag_back l D hI (xs (i + 1))
  obtain ⟨j1, j2, -, -⟩ := Iv_face hI2
  refine lv_aload_n hx hb dL_law_610 rfl (lv_at hl 1 rfl) ?_
  refine ld_a (k := 1) hx hb hX hbl hbA hS hl (by omega) hL dL_law_611 dL_law_612 dL_law_613 (by decide) dL_law_614 dL_law_615 ?_
  refine cVl (R := room_1) (rest := []) (st1 := [.int r]) Cc hK hA hP hD hS hl.1 i1 i2 j1 c4 ⟨tw_388, tw_385, tw_386, tw_387, tw_1⟩ mdX4_back ⟨rfl, rfl, Nat.le_of_ble_eq_true rfl, Nat.le_of_ble_eq_true rfl⟩ rfl dL_law_616 rfl (Nat.le_of_ble_eq_true rfl) ⟨Nat.le_of_ble_eq_true rfl, Nat.le_of_ble_eq_true rfl⟩ rfl e1 (ci := 4) (C := RX4) (TT := TX4) (NN := 7) rfl (fun H locs hP hD hS => ?_)
  refine lv_aload_n hx hb dL_law_619 rfl (lv_at hl 2 rfl) ?_
  refine ld_a (k := 1) hx hb hX hbl hbA hS hl (by omega) hL dL_law_620 dL_law_621 dL_law_622 (by decide) dL_law_623 dL_law_624 ?_
  refine cVr (R := room_1) (rest := [.int r]) (st1 := [.int r, .int r]) Cc hK hA hP hD hS hl.1 j1 i2 j2 c5 ⟨tw_752, tw_749, tw_750, tw_751, tw_6⟩ mdX5_back ⟨rfl, rfl, Nat.le_of_ble_eq_true rfl, Nat.le_of_ble_eq_true rfl⟩ rfl dL_law_625 rfl (Nat.le_of_ble_eq_true rfl) ⟨Nat.le_of_ble_eq_true rfl, Nat.le_of_ble_eq_true rfl⟩ rfl e2 (ci := 5) (C := RX5) (TT := TX5) (NN := 25) rfl (fun H locs hP hD hS => ?_)
  exact lv_icmp_eq (tgt := 1060) hx hb dL_law_628 (by decide) (fun _ => kk _ _ _ _ hI2 hP hD hS) (fun h9 => absurd rfl h9)
set_option maxRecDepth 20000 in
theorem cs_15 (Cc : Cx p s m args meth c RL cL_law 4 ret) (hK : va_K D classes (tysA cI cS) s) (hA : ∀ q, s.heap.size ≤ q → A q) (hX : va_X b L xs s s.heap) (hbl : b < s.heap.size) (hbA : ¬ A b) (hL : L ≤ 384) (hi : i + 6 ≤ L) (hl : lv_has ls 4 [(0, .ref b), (1, .ref ad), (2, .ref am), (3, .int (nI i))]) (hI : Iv cI cS ad am wD wM) (hP : va_P D classes (wD ++ wM) H) (hD : va_D A (wD ++ wM)) (hS : va_S A s.heap H locs)
    (kk : ∀ (wD' wM' : va_W) (H1 : Heap) (locs1 : List Loc), Iv cI cS ad am wD' wM' → va_P D classes (wD' ++ wM') H1 → va_D A (wD' ++ wM') → va_S A s.heap H1 locs1 → W p l e room_1 s m args below meth c H1 locs1 33 718 Q (F0 m 1060 ls [])) : W p l e room_1 s m args below meth c H locs 33 718 Q (F0 m 633 ls []) := by
  obtain ⟨hx, hb, hr, hml, hown, hts, hlk, hnw⟩ := id Cc
  obtain ⟨i1, i2, ⟨f4, e1⟩, ⟨f5, e2⟩⟩ := Iv_face hI
  obtain ⟨r, wD', wM', c4, c5, hI2⟩ := ag_wets l D hI (xs (i + 1))
  obtain ⟨j1, j2, -, -⟩ := Iv_face hI2
  refine lv_aload_n hx hb dL_law_633 rfl (lv_at hl 1 rfl) ?_
  refine ld_a (k := 1) hx hb hX hbl hbA hS hl (by omega) hL dL_law_634 dL_law_635 dL_law_636 (by decide) dL_law_637 dL_law_638 ?_
  refine cVl (R := room_1) (rest := []) (st1 := [.int r]) Cc hK hA hP hD hS hl.1 i1 i2 j1 c4 ⟨tw_392, tw_389, tw_390, tw_391, tw_1⟩ mdX4_wets ⟨rfl, rfl, Nat.le_of_ble_eq_true rfl, Nat.le_of_ble_eq_true rfl⟩ rfl dL_law_639 rfl (Nat.le_of_ble_eq_true rfl) ⟨Nat.le_of_ble_eq_true rfl, Nat.le_of_ble_eq_true rfl⟩ rfl e1 (ci := 4) (C := RX4) (TT := TX4) (NN := 7) rfl (fun H locs hP hD hS => ?_)
  refine lv_aload_n hx hb dL_law_642 rfl (lv_at hl 2 rfl) ?_
  refine ld_a (k := 1) hx hb hX hbl hbA hS hl (by omega) hL dL_law_643 dL_law_644 dL_law_645 (by decide) dL_law_646 dL_law_647 ?_
  refine cVr (R := room_1) (rest := [.int r]) (st1 := [.int r, .int r]) Cc hK hA hP hD hS hl.1 j1 i2 j2 c5 ⟨tw_756, tw_753, tw_754, tw_755, tw_6⟩ mdX5_wets ⟨rfl, rfl, Nat.le_of_ble_eq_true rfl, Nat.le_of_ble_eq_true rfl⟩ rfl dL_law_648 rfl (Nat.le_of_ble_eq_true rfl) ⟨Nat.le_of_ble_eq_true rfl, Nat.le_of_ble_eq_true rfl⟩ rfl e2 (ci := 5) (C := RX5) (TT := TX5) (NN := 25) rfl (fun H locs hP hD hS => ?_)
  exact lv_icmp_eq (tgt := 1060) hx hb dL_law_651 (by decide) (fun _ => kk _ _ _ _ hI2 hP hD hS) (fun h9 => absurd rfl h9)
set_option maxRecDepth 20000 in
theorem cs_16 (Cc : Cx p s m args meth c RL cL_law 4 ret) (hK : va_K D classes (tysA cI cS) s) (hA : ∀ q, s.heap.size ≤ q → A q) (hX : va_X b L xs s s.heap) (hbl : b < s.heap.size) (hbA : ¬ A b) (hL : L ≤ 384) (hi : i + 6 ≤ L) (hl : lv_has ls 4 [(0, .ref b), (1, .ref ad), (2, .ref am), (3, .int (nI i))]) (hI : Iv cI cS ad am wD wM) (hP : va_P D classes (wD ++ wM) H) (hD : va_D A (wD ++ wM)) (hS : va_S A s.heap H locs)
    (kk : ∀ (wD' wM' : va_W) (H1 : Heap) (locs1 : List Loc), Iv cI cS ad am wD' wM' → va_P D classes (wD' ++ wM') H1 → va_D A (wD' ++ wM') → va_S A s.heap H1 locs1 → W p l e room_1 s m args below meth c H1 locs1 33 718 Q (F0 m 1060 ls [])) : W p l e room_1 s m args below meth c H locs 33 718 Q (F0 m 656 ls []) := by
  obtain ⟨hx, hb, hr, hml, hown, hts, hlk, hnw⟩ := id Cc
  obtain ⟨i1, i2, ⟨f4, e1⟩, ⟨f5, e2⟩⟩ := Iv_face hI
  obtain ⟨r, wD', wM', c4, c5, hI2⟩ := ag_kinds l D hI (xs (i + 1))
  obtain ⟨j1, j2, -, -⟩ := Iv_face hI2
  refine lv_aload_n hx hb dL_law_656 rfl (lv_at hl 1 rfl) ?_
  refine ld_a (k := 1) hx hb hX hbl hbA hS hl (by omega) hL dL_law_657 dL_law_658 dL_law_659 (by decide) dL_law_660 dL_law_661 ?_
  refine cVl (R := room_1) (rest := []) (st1 := [.int r]) Cc hK hA hP hD hS hl.1 i1 i2 j1 c4 ⟨tw_402, tw_399, tw_400, tw_401, tw_1⟩ mdX4_kinds ⟨rfl, rfl, Nat.le_of_ble_eq_true rfl, Nat.le_of_ble_eq_true rfl⟩ rfl dL_law_662 rfl (Nat.le_of_ble_eq_true rfl) ⟨Nat.le_of_ble_eq_true rfl, Nat.le_of_ble_eq_true rfl⟩ rfl e1 (ci := 4) (C := RX4) (TT := TX4) (NN := 7) rfl (fun H locs hP hD hS => ?_)
  refine lv_aload_n hx hb dL_law_665 rfl (lv_at hl 2 rfl) ?_
  refine ld_a (k := 1) hx hb hX hbl hbA hS hl (by omega) hL dL_law_666 dL_law_667 dL_law_668 (by decide) dL_law_669 dL_law_670 ?_
  refine cVr (R := room_1) (rest := [.int r]) (st1 := [.int r, .int r]) Cc hK hA hP hD hS hl.1 j1 i2 j2 c5 ⟨tw_764, tw_761, tw_762, tw_763, tw_6⟩ mdX5_kinds ⟨rfl, rfl, Nat.le_of_ble_eq_true rfl, Nat.le_of_ble_eq_true rfl⟩ rfl dL_law_671 rfl (Nat.le_of_ble_eq_true rfl) ⟨Nat.le_of_ble_eq_true rfl, Nat.le_of_ble_eq_true rfl⟩ rfl e2 (ci := 5) (C := RX5) (TT := TX5) (NN := 25) rfl (fun H locs hP hD hS => ?_)
  exact lv_icmp_eq (tgt := 1060) hx hb dL_law_674 (by decide) (fun _ => kk _ _ _ _ hI2 hP hD hS) (fun h9 => absurd rfl h9)
set_option maxRecDepth 20000 in
theorem cs_17 (Cc : Cx p s m args meth c RL cL_law 4 ret) (hK : va_K D classes (tysA cI cS) s) (hA : ∀ q, s.heap.size ≤ q → A q) (hX : va_X b L xs s s.heap) (hbl : b < s.heap.size) (hbA : ¬ A b) (hL : L ≤ 384) (hi : i + 6 ≤ L) (hl : lv_has ls 4 [(0, .ref b), (1, .ref ad), (2, .ref am), (3, .int (nI i))]) (hI : Iv cI cS ad am wD wM) (hP : va_P D classes (wD ++ wM) H) (hD : va_D A (wD ++ wM)) (hS : va_S A s.heap H locs)
    (kk : ∀ (wD' wM' : va_W) (H1 : Heap) (locs1 : List Loc), Iv cI cS ad am wD' wM' → va_P D classes (wD' ++ wM') H1 → va_D A (wD' ++ wM') → va_S A s.heap H1 locs1 → W p l e room_1 s m args below meth c H1 locs1 33 718 Q (F0 m 1060 ls [])) : W p l e room_1 s m args below meth c H locs 33 718 Q (F0 m 679 ls []) := by
  obtain ⟨hx, hb, hr, hml, hown, hts, hlk, hnw⟩ := id Cc
  obtain ⟨i1, i2, ⟨f4, e1⟩, ⟨f5, e2⟩⟩ := Iv_face hI
  obtain ⟨r, wD', wM', c4, c5, hI2⟩ := ag_suns l D hI
  obtain ⟨j1, j2, -, -⟩ := Iv_face hI2
  refine lv_aload_n hx hb dL_law_679 rfl (lv_at hl 1 rfl) ?_
  refine cVl (R := room_1) (rest := []) (st1 := [.int r]) Cc hK hA hP hD hS hl.1 i1 i2 j1 c4 ⟨tw_406, tw_403, tw_404, tw_405, tw_1⟩ mdX4_suns ⟨rfl, rfl, Nat.le_of_ble_eq_true rfl, Nat.le_of_ble_eq_true rfl⟩ rfl dL_law_680 rfl (Nat.le_of_ble_eq_true rfl) ⟨Nat.le_of_ble_eq_true rfl, Nat.le_of_ble_eq_true rfl⟩ rfl e1 (ci := 4) (C := RX4) (TT := TX4) (NN := 7) rfl (fun H locs hP hD hS => ?_)
  refine lv_aload_n hx hb dL_law_683 rfl (lv_at hl 2 rfl) ?_
  refine cVr (R := room_1) (rest := [.int r]) (st1 := [.int r, .int r]) Cc hK hA hP hD hS hl.1 j1 i2 j2 c5 ⟨tw_768, tw_765, tw_766, tw_767, tw_6⟩ mdX5_suns ⟨rfl, rfl, Nat.le_of_ble_eq_true rfl, Nat.le_of_ble_eq_true rfl⟩ rfl dL_law_684 rfl (Nat.le_of_ble_eq_true rfl) ⟨Nat.le_of_ble_eq_true rfl, Nat.le_of_ble_eq_true rfl⟩ rfl e2 (ci := 5) (C := RX5) (TT := TX5) (NN := 25) rfl (fun H locs hP hD hS => ?_)
  exact lv_icmp_eq (tgt := 1060) hx hb dL_law_687 (by decide) (fun _ => kk _ _ _ _ hI2 hP hD hS) (fun h9 => absurd rfl h9)
set_option maxRecDepth 20000 in
theorem cs_18 (Cc : Cx p s m args meth c RL cL_law 4 ret) (hK : va_K D classes (tysA cI cS) s) (hA : ∀ q, s.heap.size ≤ q → A q) (hX : va_X b L xs s s.heap) (hbl : b < s.heap.size) (hbA : ¬ A b) (hL : L ≤ 384) (hi : i + 6 ≤ L) (hl : lv_has ls 4 [(0, .ref b), (1, .ref ad), (2, .ref am), (3, .int (nI i))]) (hI : Iv cI cS ad am wD wM) (hP : va_P D classes (wD ++ wM) H) (hD : va_D A (wD ++ wM)) (hS : va_S A s.heap H locs)
    (kk : ∀ (wD' wM' : va_W) (H1 : Heap) (locs1 : List Loc), Iv cI cS ad am wD' wM' → va_P D classes (wD' ++ wM') H1 → va_D A (wD' ++ wM') → va_S A s.heap H1 locs1 → W p l e room_1 s m args below meth c H1 locs1 33 718 Q (F0 m 1060 ls [])) : W p l e room_1 s m args below meth c H locs 33 718 Q (F0 m 692 ls []) := by
  obtain ⟨hx, hb, hr, hml, hown, hts, hlk, hnw⟩ := id Cc
  obtain ⟨i1, i2, ⟨f4, e1⟩, ⟨f5, e2⟩⟩ := Iv_face hI
  obtain ⟨r, wD', wM', c4, c5, hI2⟩ := ag_odds l D hI (xs (i + 1))
  obtain ⟨j1, j2, -, -⟩ := Iv_face hI2
  refine lv_aload_n hx hb dL_law_692 rfl (lv_at hl 1 rfl) ?_
  refine ld_a (k := 1) hx hb hX hbl hbA hS hl (by omega) hL dL_law_693 dL_law_694 dL_law_695 (by decide) dL_law_696 dL_law_697 ?_
  refine cVl (R := room_1) (rest := []) (st1 := [.long r]) Cc hK hA hP hD hS hl.1 i1 i2 j1 c4 ⟨tw_410, tw_407, tw_408, tw_409, tw_1⟩ mdX4_odds ⟨rfl, rfl, Nat.le_of_ble_eq_true rfl, Nat.le_of_ble_eq_true rfl⟩ rfl dL_law_698 rfl (Nat.le_of_ble_eq_true rfl) ⟨Nat.le_of_ble_eq_true rfl, Nat.le_of_ble_eq_true rfl⟩ rfl e1 (ci := 4) (C := RX4) (TT := TX4) (NN := 7) rfl (fun H locs hP hD hS => ?_)
  refine lv_aload_n hx hb dL_law_701 rfl (lv_at hl 2 rfl) ?_
  refine ld_a (k := 1) hx hb hX hbl hbA hS hl (by omega) hL dL_law_702 dL_law_703 dL_law_704 (by decide) dL_law_705 dL_law_706 ?_
  refine cVr (R := room_1) (rest := [.long r]) (st1 := [.long r, .long r]) Cc hK hA hP hD hS hl.1 j1 i2 j2 c5 ⟨tw_772, tw_769, tw_770, tw_771, tw_6⟩ mdX5_odds ⟨rfl, rfl, Nat.le_of_ble_eq_true rfl, Nat.le_of_ble_eq_true rfl⟩ rfl dL_law_707 rfl (Nat.le_of_ble_eq_true rfl) ⟨Nat.le_of_ble_eq_true rfl, Nat.le_of_ble_eq_true rfl⟩ rfl e2 (ci := 5) (C := RX5) (TT := TX5) (NN := 25) rfl (fun H locs hP hD hS => ?_)
  refine W.lcmp hx hb dL_law_710 ?_
  rw [lg_cmp_self]
  exact lv_if_eq (tgt := 1060) hx hb dL_law_711 (by decide) (fun _ => kk _ _ _ _ hI2 hP hD hS) (fun h9 => absurd rfl h9)
set_option maxRecDepth 20000 in
theorem cs_19 (Cc : Cx p s m args meth c RL cL_law 4 ret) (hK : va_K D classes (tysA cI cS) s) (hA : ∀ q, s.heap.size ≤ q → A q) (hX : va_X b L xs s s.heap) (hbl : b < s.heap.size) (hbA : ¬ A b) (hL : L ≤ 384) (hi : i + 6 ≤ L) (hl : lv_has ls 4 [(0, .ref b), (1, .ref ad), (2, .ref am), (3, .int (nI i))]) (hI : Iv cI cS ad am wD wM) (hP : va_P D classes (wD ++ wM) H) (hD : va_D A (wD ++ wM)) (hS : va_S A s.heap H locs)
    (kk : ∀ (wD' wM' : va_W) (H1 : Heap) (locs1 : List Loc), Iv cI cS ad am wD' wM' → va_P D classes (wD' ++ wM') H1 → va_D A (wD' ++ wM') → va_S A s.heap H1 locs1 → W p l e room_1 s m args below meth c H1 locs1 33 718 Q (F0 m 1060 ls [])) : W p l e room_1 s m args below meth c H locs 33 718 Q (F0 m 716 ls []) := by
  obtain ⟨hx, hb, hr, hml, hown, hts, hlk, hnw⟩ := id Cc
  obtain ⟨i1, i2, ⟨f4, e1⟩, ⟨f5, e2⟩⟩ := Iv_face hI
  obtain ⟨r, wD', wM', c4, c5, hI2⟩ := ag_sheet l D hI (xs (i + 1)) (xs (i + 2)) (xs (i + 3))
  obtain ⟨j1, j2, -, -⟩ := Iv_face hI2
  refine lv_aload_n hx hb dL_law_716 rfl (lv_at hl 1 rfl) ?_
  refine ld_a (k := 1) hx hb hX hbl hbA hS hl (by omega) hL dL_law_717 dL_law_718 dL_law_719 (by decide) dL_law_720 dL_law_721 ?_
  refine ld_a (k := 2) hx hb hX hbl hbA hS hl (by omega) hL dL_law_722 dL_law_723 dL_law_724 (by decide) dL_law_725 dL_law_726 ?_
  refine ld_a (k := 3) hx hb hX hbl hbA hS hl (by omega) hL dL_law_727 dL_law_728 dL_law_729 (by decide) dL_law_730 dL_law_731 ?_
  refine cVl (R := room_1) (rest := []) (st1 := [.int r]) Cc hK hA hP hD hS hl.1 i1 i2 j1 c4 ⟨tw_419, tw_416, tw_417, tw_418, tw_1⟩ mdX4_sheet ⟨rfl, rfl, Nat.le_of_ble_eq_true rfl, Nat.le_of_ble_eq_true rfl⟩ rfl dL_law_732 rfl (Nat.le_of_ble_eq_true rfl) ⟨Nat.le_of_ble_eq_true rfl, Nat.le_of_ble_eq_true rfl⟩ rfl e1 (ci := 4) (C := RX4) (TT := TX4) (NN := 7) rfl (fun H locs hP hD hS => ?_)
  refine lv_aload_n hx hb dL_law_735 rfl (lv_at hl 2 rfl) ?_
  refine ld_a (k := 1) hx hb hX hbl hbA hS hl (by omega) hL dL_law_736 dL_law_737 dL_law_738 (by decide) dL_law_739 dL_law_740 ?_
  refine ld_a (k := 2) hx hb hX hbl hbA hS hl (by omega) hL dL_law_741 dL_law_742 dL_law_743 (by decide) dL_law_744 dL_law_745 ?_
  refine ld_a (k := 3) hx hb hX hbl hbA hS hl (by omega) hL dL_law_746 dL_law_747 dL_law_748 (by decide) dL_law_749 dL_law_750 ?_
  refine cVr (R := room_1) (rest := [.int r]) (st1 := [.int r, .int r]) Cc hK hA hP hD hS hl.1 j1 i2 j2 c5 ⟨tw_780, tw_777, tw_778, tw_779, tw_6⟩ mdX5_sheet ⟨rfl, rfl, Nat.le_of_ble_eq_true rfl, Nat.le_of_ble_eq_true rfl⟩ rfl dL_law_751 rfl (Nat.le_of_ble_eq_true rfl) ⟨Nat.le_of_ble_eq_true rfl, Nat.le_of_ble_eq_true rfl⟩ rfl e2 (ci := 5) (C := RX5) (TT := TX5) (NN := 25) rfl (fun H locs hP hD hS => ?_)
  exact lv_icmp_eq (tgt := 1060) hx hb dL_law_754 (by decide) (fun _ => kk _ _ _ _ hI2 hP hD hS) (fun h9 => absurd rfl h9)
set_option maxRecDepth 20000 in
theorem cs_20 (Cc : Cx p s m args meth c RL cL_law 4 ret) (hK : va_K D classes (tysA cI cS) s) (hA : ∀ q, s.heap.size ≤ q → A q) (hX : va_X b L xs s s.heap) (hbl : b < s.heap.size) (hbA : ¬ A b) (hL : L ≤ 384) (hi : i + 6 ≤ L) (hl : lv_has ls 4 [(0, .ref b), (1, .ref ad), (2, .ref am), (3, .int (nI i))]) (hI : Iv cI cS ad am wD wM) (hP : va_P D classes (wD ++ wM) H) (hD : va_D A (wD ++ wM)) (hS : va_S A s.heap H locs)
    (kk : ∀ (wD' wM' : va_W) (H1 : Heap) (locs1 : List Loc), Iv cI cS ad am wD' wM' → va_P D classes (wD' ++ wM') H1 → va_D A (wD' ++ wM') → va_S A s.heap H1 locs1 → W p l e room_1 s m args below meth c H1 locs1 33 718 Q (F0 m 1060 ls [])) : W p l e room_1 s m args below meth c H locs 33 718 Q (F0 m 759 ls []) := by
  obtain ⟨hx, hb, hr, hml, hown, hts, hlk, hnw⟩ := id Cc
  obtain ⟨i1, i2, ⟨f4, e1⟩, ⟨f5, e2⟩⟩ := Iv_face hI
  obtain ⟨r, wD', wM', c4, c5, hI2⟩ := ag_lose l D hI (xs (i + 1))
  obtain ⟨j1, j2, -, -⟩ := Iv_face hI2
  refine lv_aload_n hx hb dL_law_759 rfl (lv_at hl 1 rfl) ?_
  refine ld_a (k := 1) hx hb hX hbl hbA hS hl (by omega) hL dL_law_760 dL_law_761 dL_law_762 (by decide) dL_law_763 dL_law_764 ?_
  refine cVl (R := room_1) (rest := []) (st1 := [.int r]) Cc hK hA hP hD hS hl.1 i1 i2 j1 c4 ⟨tw_427, tw_424, tw_425, tw_426, tw_1⟩ mdX4_lose ⟨rfl, rfl, Nat.le_of_ble_eq_true rfl, Nat.le_of_ble_eq_true rfl⟩ rfl dL_law_765 rfl (Nat.le_of_ble_eq_true rfl) ⟨Nat.le_of_ble_eq_true rfl, Nat.le_of_ble_eq_true rfl⟩ rfl e1 (ci := 4) (C := RX4) (TT := TX4) (NN := 7) rfl (fun H locs hP hD hS => ?_)
  refine lv_aload_n hx hb dL_law_768 rfl (lv_at hl 2 rfl) ?_
  refine ld_a (k := 1) hx hb hX hbl hbA hS hl (by omega) hL dL_law_769 dL_law_770 dL_law_771 (by decide) dL_law_772 dL_law_773 ?_
  refine cVr (R := room_1) (rest := [.int r]) (st1 := [.int r, .int r]) Cc hK hA hP hD hS hl.1 j1 i2 j2 c5 ⟨tw_784, tw_781, tw_782, tw_783, tw_6⟩ mdX5_lose ⟨rfl, rfl, Nat.le_of_ble_eq_true rfl, Nat.le_of_ble_eq_true rfl⟩ rfl dL_law_774 rfl (Nat.le_of_ble_eq_true rfl) ⟨Nat.le_of_ble_eq_true rfl, Nat.le_of_ble_eq_true rfl⟩ rfl e2 (ci := 5) (C := RX5) (TT := TX5) (NN := 25) rfl (fun H locs hP hD hS => ?_)
  exact lv_icmp_eq (tgt := 1060) hx hb dL_law_777 (by decide) (fun _ => kk _ _ _ _ hI2 hP hD hS) (fun h9 => absurd rfl h9)
set_option maxRecDepth 20000 in
theorem cs_21 (Cc : Cx p s m args meth c RL cL_law 4 ret) (hK : va_K D classes (tysA cI cS) s) (hA : ∀ q, s.heap.size ≤ q → A q) (hX : va_X b L xs s s.heap) (hbl : b < s.heap.size) (hbA : ¬ A b) (hL : L ≤ 384) (hi : i + 6 ≤ L) (hl : lv_has ls 4 [(0, .ref b), (1, .ref ad), (2, .ref am), (3, .int (nI i))]) (hI : Iv cI cS ad am wD wM) (hP : va_P D classes (wD ++ wM) H) (hD : va_D A (wD ++ wM)) (hS : va_S A s.heap H locs)
    (kk : ∀ (wD' wM' : va_W) (H1 : Heap) (locs1 : List Loc), Iv cI cS ad am wD' wM' → va_P D classes (wD' ++ wM') H1 → va_D A (wD' ++ wM') → va_S A s.heap H1 locs1 → W p l e room_1 s m args below meth c H1 locs1 33 718 Q (F0 m 1060 ls [])) : W p l e room_1 s m args below meth c H locs 33 718 Q (F0 m 782 ls []) := by
  obtain ⟨hx, hb, hr, hml, hown, hts, hlk, hnw⟩ := id Cc
  obtain ⟨i1, i2, ⟨f4, e1⟩, ⟨f5, e2⟩⟩ := Iv_face hI
  obtain ⟨r, wD', wM', c4, c5, hI2⟩ := ag_put l D hI (xs (i + 1)) (xs (i + 2)) (xs (i + 3))
  obtain ⟨j1, j2, -, -⟩ := Iv_face hI2
  refine lv_aload_n hx hb dL_law_782 rfl (lv_at hl 1 rfl) ?_
  refine ld_a (k := 1) hx hb hX hbl hbA hS hl (by omega) hL dL_law_783 dL_law_784 dL_law_785 (by decide) dL_law_786 dL_law_787 ?_
  refine ld_a (k := 2) hx hb hX hbl hbA hS hl (by omega) hL dL_law_788 dL_law_789 dL_law_790 (by decide) dL_law_791 dL_law_792 ?_
  refine ld_a (k := 3) hx hb hX hbl hbA hS hl (by omega) hL dL_law_793 dL_law_794 dL_law_795 (by decide) dL_law_796 dL_law_797 ?_
  refine cVl (R := room_1) (rest := []) (st1 := [.int r]) Cc hK hA hP hD hS hl.1 i1 i2 j1 c4 ⟨tw_436, tw_433, tw_434, tw_435, tw_1⟩ mdX4_put ⟨rfl, rfl, Nat.le_of_ble_eq_true rfl, Nat.le_of_ble_eq_true rfl⟩ rfl dL_law_798 rfl (Nat.le_of_ble_eq_true rfl) ⟨Nat.le_of_ble_eq_true rfl, Nat.le_of_ble_eq_true rfl⟩ rfl e1 (ci := 4) (C := RX4) (TT := TX4) (NN := 7) rfl (fun H locs hP hD hS => ?_)
  refine lv_aload_n hx hb dL_law_801 rfl (lv_at hl 2 rfl) ?_
  refine ld_a (k := 1) hx hb hX hbl hbA hS hl (by omega) hL dL_law_802 dL_law_803 dL_law_804 (by decide) dL_law_805 dL_law_806 ?_
  refine ld_a (k := 2) hx hb hX hbl hbA hS hl (by omega) hL dL_law_807 dL_law_808 dL_law_809 (by decide) dL_law_810 dL_law_811 ?_
  refine ld_a (k := 3) hx hb hX hbl hbA hS hl (by omega) hL dL_law_812 dL_law_813 dL_law_814 (by decide) dL_law_815 dL_law_816 ?_
  refine cVr (R := room_1) (rest := [.int r]) (st1 := [.int r, .int r]) Cc hK hA hP hD hS hl.1 j1 i2 j2 c5 ⟨tw_788, tw_785, tw_786, tw_787, tw_6⟩ mdX5_put ⟨rfl, rfl, Nat.le_of_ble_eq_true rfl, Nat.le_of_ble_eq_true rfl⟩ rfl dL_law_817 rfl (Nat.le_of_ble_eq_true rfl) ⟨Nat.le_of_ble_eq_true rfl, Nat.le_of_ble_eq_true rfl⟩ rfl e2 (ci := 5) (C := RX5) (TT := TX5) (NN := 25) rfl (fun H locs hP hD hS => ?_)
  exact lv_icmp_eq (tgt := 1060) hx hb dL_law_820 (by decide) (fun _ => kk _ _ _ _ hI2 hP hD hS) (fun h9 => absurd rfl h9)
set_option maxRecDepth 20000 in
theorem cs_22 (Cc : Cx p s m args meth c RL cL_law 4 ret) (hK : va_K D classes (tysA cI cS) s) (hA : ∀ q, s.heap.size ≤ q → A q) (hX : va_X b L xs s s.heap) (hbl : b < s.heap.size) (hbA : ¬ A b) (hL : L ≤ 384) (hi : i + 6 ≤ L) (hl : lv_has ls 4 [(0, .ref b), (1, .ref ad), (2, .ref am), (3, .int (nI i))]) (hI : Iv cI cS ad am wD wM) (hP : va_P D classes (wD ++ wM) H) (hD : va_D A (wD ++ wM)) (hS : va_S A s.heap H locs)
    (kk : ∀ (wD' wM' : va_W) (H1 : Heap) (locs1 : List Loc), Iv cI cS ad am wD' wM' → va_P D classes (wD' ++ wM') H1 → va_D A (wD' ++ wM') → va_S A s.heap H1 locs1 → W p l e room_1 s m args below meth c H1 locs1 33 718 Q (F0 m 1060 ls [])) : W p l e room_1 s m args below meth c H locs 33 718 Q (F0 m 825 ls []) := by
  obtain ⟨hx, hb, hr, hml, hown, hts, hlk, hnw⟩ := id Cc
  obtain ⟨i1, i2, ⟨f4, e1⟩, ⟨f5, e2⟩⟩ := Iv_face hI
  obtain ⟨r, wD', wM', c4, c5, hI2⟩ := ag_cell l D hI (xs (i + 1)) (xs (i + 2)) (xs (i + 3))
  obtain ⟨j1, j2, -, -⟩ := Iv_face hI2
  refine lv_aload_n hx hb dL_law_825 rfl (lv_at hl 1 rfl) ?_
  refine ld_a (k := 1) hx hb hX hbl hbA hS hl (by omega) hL dL_law_826 dL_law_827 dL_law_828 (by decide) dL_law_829 dL_law_830 ?_
  refine ld_a (k := 2) hx hb hX hbl hbA hS hl (by omega) hL dL_law_831 dL_law_832 dL_law_833 (by decide) dL_law_834 dL_law_835 ?_
  refine ld_a (k := 3) hx hb hX hbl hbA hS hl (by omega) hL dL_law_836 dL_law_837 dL_law_838 (by decide) dL_law_839 dL_law_840 ?_
  refine cVl (R := room_1) (rest := []) (st1 := [.long r]) Cc hK hA hP hD hS hl.1 i1 i2 j1 c4 ⟨tw_449, tw_446, tw_447, tw_448, tw_1⟩ mdX4_cell ⟨rfl, rfl, Nat.le_of_ble_eq_true rfl, Nat.le_of_ble_eq_true rfl⟩ rfl dL_law_841 rfl (Nat.le_of_ble_eq_true rfl) ⟨Nat.le_of_ble_eq_true rfl, Nat.le_of_ble_eq_true rfl⟩ rfl e1 (ci := 4) (C := RX4) (TT := TX4) (NN := 7) rfl (fun H locs hP hD hS => ?_)
  refine lv_aload_n hx hb dL_law_844 rfl (lv_at hl 2 rfl) ?_
  refine ld_a (k := 1) hx hb hX hbl hbA hS hl (by omega) hL dL_law_845 dL_law_846 dL_law_847 (by decide) dL_law_848 dL_law_849 ?_
  refine ld_a (k := 2) hx hb hX hbl hbA hS hl (by omega) hL dL_law_850 dL_law_851 dL_law_852 (by decide) dL_law_853 dL_law_854 ?_
  refine ld_a (k := 3) hx hb hX hbl hbA hS hl (by omega) hL dL_law_855 dL_law_856 dL_law_857 (by decide) dL_law_858 dL_law_859 ?_
  refine cVr (R := room_1) (rest := [.long r]) (st1 := [.long r, .long r]) Cc hK hA hP hD hS hl.1 j1 i2 j2 c5 ⟨tw_792, tw_789, tw_790, tw_791, tw_6⟩ mdX5_cell ⟨rfl, rfl, Nat.le_of_ble_eq_true rfl, Nat.le_of_ble_eq_true rfl⟩ rfl dL_law_860 rfl (Nat.le_of_ble_eq_true rfl) ⟨Nat.le_of_ble_eq_true rfl, Nat.le_of_ble_eq_true rfl⟩ rfl e2 (ci := 5) (C := RX5) (TT := TX5) (NN := 25) rfl (fun H locs hP hD hS => ?_)
  refine W.lcmp hx hb dL_law_863 ?_
  rw [lg_cmp_self]
  exact lv_if_eq (tgt := 1060) hx hb dL_law_864 (by decide) (fun _ => kk _ _ _ _ hI2 hP hD hS) (fun h9 => absurd rfl h9)
set_option maxRecDepth 20000 in
theorem cs_23 (Cc : Cx p s m args meth c RL cL_law 4 ret) (hK : va_K D classes (tysA cI cS) s) (hA : ∀ q, s.heap.size ≤ q → A q) (hX : va_X b L xs s s.heap) (hbl : b < s.heap.size) (hbA : ¬ A b) (hL : L ≤ 384) (hi : i + 6 ≤ L) (hl : lv_has ls 4 [(0, .ref b), (1, .ref ad), (2, .ref am), (3, .int (nI i))]) (hI : Iv cI cS ad am wD wM) (hP : va_P D classes (wD ++ wM) H) (hD : va_D A (wD ++ wM)) (hS : va_S A s.heap H locs)
    (kk : ∀ (wD' wM' : va_W) (H1 : Heap) (locs1 : List Loc), Iv cI cS ad am wD' wM' → va_P D classes (wD' ++ wM') H1 → va_D A (wD' ++ wM') → va_S A s.heap H1 locs1 → W p l e room_1 s m args below meth c H1 locs1 33 718 Q (F0 m 1060 ls [])) : W p l e room_1 s m args below meth c H locs 33 718 Q (F0 m 869 ls []) := by
  obtain ⟨hx, hb, hr, hml, hown, hts, hlk, hnw⟩ := id Cc
  obtain ⟨i1, i2, ⟨f4, e1⟩, ⟨f5, e2⟩⟩ := Iv_face hI
  obtain ⟨r, wD', wM', c4, c5, hI2⟩ := ag_copy l D hI (xs (i + 1)) (xs (i + 2)) (xs (i + 3)) (xs (i + 4)) (xs (i + 5))
  obtain ⟨j1, j2, -, -⟩ := Iv_face hI2
  refine lv_aload_n hx hb dL_law_869 rfl (lv_at hl 1 rfl) ?_
  refine ld_a (k := 1) hx hb hX hbl hbA hS hl (by omega) hL dL_law_870 dL_law_871 dL_law_872 (by decide) dL_law_873 dL_law_874 ?_
  refine ld_a (k := 2) hx hb hX hbl hbA hS hl (by omega) hL dL_law_875 dL_law_876 dL_law_877 (by decide) dL_law_878 dL_law_879 ?_
  refine ld_a (k := 3) hx hb hX hbl hbA hS hl (by omega) hL dL_law_880 dL_law_881 dL_law_882 (by decide) dL_law_883 dL_law_884 ?_
  refine ld_a (k := 4) hx hb hX hbl hbA hS hl (by omega) hL dL_law_885 dL_law_886 dL_law_887 (by decide) dL_law_888 dL_law_889 ?_
  refine ld_a (k := 5) hx hb hX hbl hbA hS hl (by omega) hL dL_law_890 dL_law_891 dL_law_892 (by decide) dL_law_893 dL_law_894 ?_
  refine cVl (R := room_1) (rest := []) (st1 := [.int r]) Cc hK hA hP hD hS hl.1 i1 i2 j1 c4 ⟨tw_453, tw_450, tw_451, tw_452, tw_1⟩ mdX4_copy ⟨rfl, rfl, Nat.le_of_ble_eq_true rfl, Nat.le_of_ble_eq_true rfl⟩ rfl dL_law_895 rfl (Nat.le_of_ble_eq_true rfl) ⟨Nat.le_of_ble_eq_true rfl, Nat.le_of_ble_eq_true rfl⟩ rfl e1 (ci := 4) (C := RX4) (TT := TX4) (NN := 7) rfl (fun H locs hP hD hS => ?_)
  refine lv_aload_n hx hb dL_law_898 rfl (lv_at hl 2 rfl) ?_
  refine ld_a (k := 1) hx hb hX hbl hbA hS hl (by omega) hL dL_law_899 dL_law_900 dL_law_901 (by decide) dL_law_902 dL_law_903 ?_
  refine ld_a (k := 2) hx hb hX hbl hbA hS hl (by omega) hL dL_law_904 dL_law_905 dL_law_906 (by decide) dL_law_907 dL_law_908 ?_
  refine ld_a (k := 3) hx hb hX hbl hbA hS hl (by omega) hL dL_law_909 dL_law_910 dL_law_911 (by decide) dL_law_912 dL_law_913 ?_
  refine ld_a (k := 4) hx hb hX hbl hbA hS hl (by omega) hL dL_law_914 dL_law_915 dL_law_916 (by decide) dL_law_917 dL_law_918 ?_
  refine ld_a (k := 5) hx hb hX hbl hbA hS hl (by omega) hL dL_law_919 dL_law_920 dL_law_921 (by decide) dL_law_922 dL_law_923 ?_
  refine cVr (R := room_1) (rest := [.int r]) (st1 := [.int r, .int r]) Cc hK hA hP hD hS hl.1 j1 i2 j2 c5 ⟨tw_800, tw_797, tw_798, tw_799, tw_6⟩ mdX5_copy ⟨rfl, rfl, Nat.le_of_ble_eq_true rfl, Nat.le_of_ble_eq_true rfl⟩ rfl dL_law_924 rfl (Nat.le_of_ble_eq_true rfl) ⟨Nat.le_of_ble_eq_true rfl, Nat.le_of_ble_eq_true rfl⟩ rfl e2 (ci := 5) (C := RX5) (TT := TX5) (NN := 25) rfl (fun H locs hP hD hS => ?_)
  exact lv_icmp_eq (tgt := 1060) hx hb dL_law_927 (by decide) (fun _ => kk _ _ _ _ hI2 hP hD hS) (fun h9 => absurd rfl h9)
set_option maxRecDepth 20000 in
theorem cs_24 (Cc : Cx p s m args meth c RL cL_law 4 ret) (hK : va_K D classes (tysA cI cS) s) (hA : ∀ q, s.heap.size ≤ q → A q) (hX : va_X b L xs s s.heap) (hbl : b < s.heap.size) (hbA : ¬ A b) (hL : L ≤ 384) (hi : i + 6 ≤ L) (hl : lv_has ls 4 [(0, .ref b), (1, .ref ad), (2, .ref am), (3, .int (nI i))]) (hI : Iv cI cS ad am wD wM) (hP : va_P D classes (wD ++ wM) H) (hD : va_D A (wD ++ wM)) (hS : va_S A s.heap H locs)
    (kk : ∀ (wD' wM' : va_W) (H1 : Heap) (locs1 : List Loc), Iv cI cS ad am wD' wM' → va_P D classes (wD' ++ wM') H1 → va_D A (wD' ++ wM') → va_S A s.heap H1 locs1 → W p l e room_1 s m args below meth c H1 locs1 33 718 Q (F0 m 1060 ls [])) : W p l e room_1 s m args below meth c H locs 33 718 Q (F0 m 932 ls []) := by
  obtain ⟨hx, hb, hr, hml, hown, hts, hlk, hnw⟩ := id Cc
  obtain ⟨i1, i2, ⟨f4, e1⟩, ⟨f5, e2⟩⟩ := Iv_face hI
  obtain ⟨r, wD', wM', c4, c5, hI2⟩ := ag_tell l D hI (xs (i + 1))
  obtain ⟨j1, j2, -, -⟩ := Iv_face hI2
  refine lv_aload_n hx hb dL_law_932 rfl (lv_at hl 1 rfl) ?_
  refine ld_a (k := 1) hx hb hX hbl hbA hS hl (by omega) hL dL_law_933 dL_law_934 dL_law_935 (by decide) dL_law_936 dL_law_937 ?_
  refine cVl (R := room_1) (rest := []) (st1 := [.int r]) Cc hK hA hP hD hS hl.1 i1 i2 j1 c4 ⟨tw_460, tw_457, tw_458, tw_459, tw_1⟩ mdX4_tell ⟨rfl, rfl, Nat.le_of_ble_eq_true rfl, Nat.le_of_ble_eq_true rfl⟩ rfl dL_law_938 rfl (Nat.le_of_ble_eq_true rfl) ⟨Nat.le_of_ble_eq_true rfl, Nat.le_of_ble_eq_true rfl⟩ rfl e1 (ci := 4) (C := RX4) (TT := TX4) (NN := 7) rfl (fun H locs hP hD hS => ?_)
  refine lv_aload_n hx hb dL_law_941 rfl (lv_at hl 2 rfl) ?_
  refine ld_a (k := 1) hx hb hX hbl hbA hS hl (by omega) hL dL_law_942 dL_law_943 dL_law_944 (by decide) dL_law_945 dL_law_946 ?_
  refine cVr (R := room_1) (rest := [.int r]) (st1 := [.int r, .int r]) Cc hK hA hP hD hS hl.1 j1 i2 j2 c5 ⟨tw_804, tw_801, tw_802, tw_803, tw_6⟩ mdX5_tell ⟨rfl, rfl, Nat.le_of_ble_eq_true rfl, Nat.le_of_ble_eq_true rfl⟩ rfl dL_law_947 rfl (Nat.le_of_ble_eq_true rfl) ⟨Nat.le_of_ble_eq_true rfl, Nat.le_of_ble_eq_true rfl⟩ rfl e2 (ci := 5) (C := RX5) (TT := TX5) (NN := 25) rfl (fun H locs hP hD hS => ?_)
  exact lv_icmp_eq (tgt := 1060) hx hb dL_law_950 (by decide) (fun _ => kk _ _ _ _ hI2 hP hD hS) (fun h9 => absurd rfl h9)
set_option maxRecDepth 20000 in
theorem cs_25 (Cc : Cx p s m args meth c RL cL_law 4 ret) (hK : va_K D classes (tysA cI cS) s) (hA : ∀ q, s.heap.size ≤ q → A q) (hX : va_X b L xs s s.heap) (hbl : b < s.heap.size) (hbA : ¬ A b) (hL : L ≤ 384) (hi : i + 6 ≤ L) (hl : lv_has ls 4 [(0, .ref b), (1, .ref ad), (2, .ref am), (3, .int (nI i))]) (hI : Iv cI cS ad am wD wM) (hP : va_P D classes (wD ++ wM) H) (hD : va_D A (wD ++ wM)) (hS : va_S A s.heap H locs)
    (kk : ∀ (wD' wM' : va_W) (H1 : Heap) (locs1 : List Loc), Iv cI cS ad am wD' wM' → va_P D classes (wD' ++ wM') H1 → va_D A (wD' ++ wM') → va_S A s.heap H1 locs1 → W p l e room_1 s m args below meth c H1 locs1 33 718 Q (F0 m 1060 ls [])) : W p l e room_1 s m args below meth c H locs 33 718 Q (F0 m 955 ls []) := by
  obtain ⟨hx, hb, hr, hml, hown, hts, hlk, hnw⟩ := id Cc
  obtain ⟨i1, i2, ⟨f4, e1⟩, ⟨f5, e2⟩⟩ := Iv_face hI
  obtain ⟨r, wD', wM', c4, c5, hI2⟩ := ag_draw l D hI (xs (i + 1))
  obtain ⟨j1, j2, -, -⟩ := Iv_face hI2
  refine lv_aload_n hx hb dL_law_955 rfl (lv_at hl 1 rfl) ?_
  refine ld_a (k := 1) hx hb hX hbl hbA hS hl (by omega) hL dL_law_956 dL_law_957 dL_law_958 (by decide) dL_law_959 dL_law_960 ?_
  refine cVl (R := room_1) (rest := []) (st1 := [.int r]) Cc hK hA hP hD hS hl.1 i1 i2 j1 c4 ⟨tw_480, tw_477, tw_478, tw_479, tw_1⟩ mdX4_draw ⟨rfl, rfl, Nat.le_of_ble_eq_true rfl, Nat.le_of_ble_eq_true rfl⟩ rfl dL_law_961 rfl (Nat.le_of_ble_eq_true rfl) ⟨Nat.le_of_ble_eq_true rfl, Nat.le_of_ble_eq_true rfl⟩ rfl e1 (ci := 4) (C := RX4) (TT := TX4) (NN := 7) rfl (fun H locs hP hD hS => ?_)
  refine lv_aload_n hx hb dL_law_964 rfl (lv_at hl 2 rfl) ?_
  refine ld_a (k := 1) hx hb hX hbl hbA hS hl (by omega) hL dL_law_965 dL_law_966 dL_law_967 (by decide) dL_law_968 dL_law_969 ?_
  refine cVr (R := room_1) (rest := [.int r]) (st1 := [.int r, .int r]) Cc hK hA hP hD hS hl.1 j1 i2 j2 c5 ⟨tw_812, tw_809, tw_810, tw_811, tw_6⟩ mdX5_draw ⟨rfl, rfl, Nat.le_of_ble_eq_true rfl, Nat.le_of_ble_eq_true rfl⟩ rfl dL_law_970 rfl (Nat.le_of_ble_eq_true rfl) ⟨Nat.le_of_ble_eq_true rfl, Nat.le_of_ble_eq_true rfl⟩ rfl e2 (ci := 5) (C := RX5) (TT := TX5) (NN := 25) rfl (fun H locs hP hD hS => ?_)
  exact lv_icmp_eq (tgt := 1060) hx hb dL_law_973 (by decide) (fun _ => kk _ _ _ _ hI2 hP hD hS) (fun h9 => absurd rfl h9)
set_option maxRecDepth 20000 in
theorem cs_26 (Cc : Cx p s m args meth c RL cL_law 4 ret) (hK : va_K D classes (tysA cI cS) s) (hA : ∀ q, s.heap.size ≤ q → A q) (hX : va_X b L xs s s.heap) (hbl : b < s.heap.size) (hbA : ¬ A b) (hL : L ≤ 384) (hi : i + 6 ≤ L) (hl : lv_has ls 4 [(0, .ref b), (1, .ref ad), (2, .ref am), (3, .int (nI i))]) (hI : Iv cI cS ad am wD wM) (hP : va_P D classes (wD ++ wM) H) (hD : va_D A (wD ++ wM)) (hS : va_S A s.heap H locs)
    (kk : ∀ (wD' wM' : va_W) (H1 : Heap) (locs1 : List Loc), Iv cI cS ad am wD' wM' → va_P D classes (wD' ++ wM') H1 → va_D A (wD' ++ wM') → va_S A s.heap H1 locs1 → W p l e room_1 s m args below meth c H1 locs1 33 718 Q (F0 m 1060 ls [])) : W p l e room_1 s m args below meth c H locs 33 718 Q (F0 m 978 ls []) := by
  obtain ⟨hx, hb, hr, hml, hown, hts, hlk, hnw⟩ := id Cc
  obtain ⟨i1, i2, ⟨f4, e1⟩, ⟨f5, e2⟩⟩ := Iv_face hI
  obtain ⟨r, wD', wM', c4, c5, hI2⟩ := ag_as l D hI (xs (i + 1)) (xs (i + 2))
  obtain ⟨j1, j2, -, -⟩ := Iv_face hI2
  refine lv_aload_n hx hb dL_law_978 rfl (lv_at hl 1 rfl) ?_
  refine ld_a (k := 1) hx hb hX hbl hbA hS hl (by omega) hL dL_law_979 dL_law_980 dL_law_981 (by decide) dL_law_982 dL_law_983 ?_
  refine ld_a (k := 2) hx hb hX hbl hbA hS hl (by omega) hL dL_law_984 dL_law_985 dL_law_986 (by decide) dL_law_987 dL_law_988 ?_
  refine cVl (R := room_1) (rest := []) (st1 := [.int r]) Cc hK hA hP hD hS hl.1 i1 i2 j1 c4 ⟨tw_484, tw_481, tw_482, tw_483, tw_1⟩ mdX4_as ⟨rfl, rfl, Nat.le_of_ble_eq_true rfl, Nat.le_of_ble_eq_true rfl⟩ rfl dL_law_989 rfl (Nat.le_of_ble_eq_true rfl) ⟨Nat.le_of_ble_eq_true rfl, Nat.le_of_ble_eq_true rfl⟩ rfl e1 (ci := 4) (C := RX4) (TT := TX4) (NN := 7) rfl (fun H locs hP hD hS => ?_)
  refine lv_aload_n hx hb dL_law_992 rfl (lv_at hl 2 rfl) ?_
  refine ld_a (k := 1) hx hb hX hbl hbA hS hl (by omega) hL dL_law_993 dL_law_994 dL_law_995 (by decide) dL_law_996 dL_law_997 ?_
  refine ld_a (k := 2) hx hb hX hbl hbA hS hl (by omega) hL dL_law_998 dL_law_999 dL_law_1000 (by decide) dL_law_1001 dL_law_1002 ?_
  refine cVr (R := room_1) (rest := [.int r]) (st1 := [.int r, .int r]) Cc hK hA hP hD hS hl.1 j1 i2 j2 c5 ⟨tw_816, tw_813, tw_814, tw_815, tw_6⟩ mdX5_as ⟨rfl, rfl, Nat.le_of_ble_eq_true rfl, Nat.le_of_ble_eq_true rfl⟩ rfl dL_law_1003 rfl (Nat.le_of_ble_eq_true rfl) ⟨Nat.le_of_ble_eq_true rfl, Nat.le_of_ble_eq_true rfl⟩ rfl e2 (ci := 5) (C := RX5) (TT := TX5) (NN := 25) rfl (fun H locs hP hD hS => ?_)
  exact lv_icmp_eq (tgt := 1060) hx hb dL_law_1006 (by decide) (fun _ => kk _ _ _ _ hI2 hP hD hS) (fun h9 => absurd rfl h9)
set_option maxRecDepth 20000 in
theorem cs_27 (Cc : Cx p s m args meth c RL cL_law 4 ret) (hK : va_K D classes (tysA cI cS) s) (hA : ∀ q, s.heap.size ≤ q → A q) (hX : va_X b L xs s s.heap) (hbl : b < s.heap.size) (hbA : ¬ A b) (hL : L ≤ 384) (hi : i + 6 ≤ L) (hl : lv_has ls 4 [(0, .ref b), (1, .ref ad), (2, .ref am), (3, .int (nI i))]) (hI : Iv cI cS ad am wD wM) (hP : va_P D classes (wD ++ wM) H) (hD : va_D A (wD ++ wM)) (hS : va_S A s.heap H locs)
    (kk : ∀ (wD' wM' : va_W) (H1 : Heap) (locs1 : List Loc), Iv cI cS ad am wD' wM' → va_P D classes (wD' ++ wM') H1 → va_D A (wD' ++ wM') → va_S A s.heap H1 locs1 → W p l e room_1 s m args below meth c H1 locs1 33 718 Q (F0 m 1060 ls [])) : W p l e room_1 s m args below meth c H locs 33 718 Q (F0 m 1011 ls []) := by
  obtain ⟨hx, hb, hr, hml, hown, hts, hlk, hnw⟩ := id Cc
  obtain ⟨i1, i2, ⟨f4, e1⟩, ⟨f5, e2⟩⟩ := Iv_face hI
  obtain ⟨r, wD', wM', c4, c5, hI2⟩ := ag_trace l D hI
  obtain ⟨j1, j2, -, -⟩ := Iv_face hI2
  refine lv_aload_n hx hb dL_law_1011 rfl (lv_at hl 1 rfl) ?_
  refine cVl (R := room_1) (rest := []) (st1 := [.int r]) Cc hK hA hP hD hS hl.1 i1 i2 j1 c4 ⟨tw_488, tw_485, tw_486, tw_487, tw_1⟩ mdX4_trace ⟨rfl, rfl, Nat.le_of_ble_eq_true rfl, Nat.le_of_ble_eq_true rfl⟩ rfl dL_law_1012 rfl (Nat.le_of_ble_eq_true rfl) ⟨Nat.le_of_ble_eq_true rfl, Nat.le_of_ble_eq_true rfl⟩ rfl e1 (ci := 4) (C := RX4) (TT := TX4) (NN := 7) rfl (fun H locs hP hD hS => ?_)
  refine lv_aload_n hx hb dL_law_1015 rfl (lv_at hl 2 rfl) ?_
  refine cVr (R := room_1) (rest := [.int r]) (st1 := [.int r, .int r]) Cc hK hA hP hD hS hl.1 j1 i2 j2 c5 ⟨tw_820, tw_817, tw_818, tw_819, tw_6⟩ mdX5_trace ⟨rfl, rfl, Nat.le_of_ble_eq_true rfl, Nat.le_of_ble_eq_true rfl⟩ rfl dL_law_1016 rfl (Nat.le_of_ble_eq_true rfl) ⟨Nat.le_of_ble_eq_true rfl, Nat.le_of_ble_eq_true rfl⟩ rfl e2 (ci := 5) (C := RX5) (TT := TX5) (NN := 25) rfl (fun H locs hP hD hS => ?_)
  exact lv_icmp_eq (tgt := 1060) hx hb dL_law_1019 (by decide) (fun _ => kk _ _ _ _ hI2 hP hD hS) (fun h9 => absurd rfl h9)
set_option maxRecDepth 20000 in
theorem cs_28 (Cc : Cx p s m args meth c RL cL_law 4 ret) (hK : va_K D classes (tysA cI cS) s) (hA : ∀ q, s.heap.size ≤ q → A q) (hX : va_X b L xs s s.heap) (hbl : b < s.heap.size) (hbA : ¬ A b) (hL : L ≤ 384) (hi : i + 6 ≤ L) (hl : lv_has ls 4 [(0, .ref b), (1, .ref ad), (2, .ref am), (3, .int (nI i))]) (hI : Iv cI cS ad am wD wM) (hP : va_P D classes (wD ++ wM) H) (hD : va_D A (wD ++ wM)) (hS : va_S A s.heap H locs)
    (kk : ∀ (wD' wM' : va_W) (H1 : Heap) (locs1 : List Loc), Iv cI cS ad am wD' wM' → va_P D classes (wD' ++ wM') H1 → va_D A (wD' ++ wM') → va_S A s.heap H1 locs1 → W p l e room_1 s m args below meth c H1 locs1 33 718 Q (F0 m 1060 ls [])) : W p l e room_1 s m args below meth c H locs 33 718 Q (F0 m 1024 ls []) := by
  obtain ⟨hx, hb, hr, hml, hown, hts, hlk, hnw⟩ := id Cc
  obtain ⟨i1, i2, ⟨f4, e1⟩, ⟨f5, e2⟩⟩ := Iv_face hI
  obtain ⟨r, wD', wM', c4, c5, hI2⟩ := ag_fault l D hI
  obtain ⟨j1, j2, -, -⟩ := Iv_face hI2
  refine lv_aload_n hx hb dL_law_1024 rfl (lv_at hl 1 rfl) ?_
  refine cVl (R := room_1) (rest := []) (st1 := [.int r]) Cc hK hA hP hD hS hl.1 i1 i2 j1 c4 ⟨tw_492, tw_489, tw_490, tw_491, tw_1⟩ mdX4_fault ⟨rfl, rfl, Nat.le_of_ble_eq_true rfl, Nat.le_of_ble_eq_true rfl⟩ rfl dL_law_1025 rfl (Nat.le_of_ble_eq_true rfl) ⟨Nat.le_of_ble_eq_true rfl, Nat.le_of_ble_eq_true rfl⟩ rfl e1 (ci := 4) (C := RX4) (TT := TX4) (NN := 7) rfl (fun H locs hP hD hS => ?_)
  refine lv_aload_n hx hb dL_law_1028 rfl (lv_at hl 2 rfl) ?_
  refine cVr (R := room_1) (rest := [.int r]) (st1 := [.int r, .int r]) Cc hK hA hP hD hS hl.1 j1 i2 j2 c5 ⟨tw_824, tw_821, tw_822, tw_823, tw_6⟩ mdX5_fault ⟨rfl, rfl, Nat.le_of_ble_eq_true rfl, Nat.le_of_ble_eq_true rfl⟩ rfl dL_law_1029 rfl (Nat.le_of_ble_eq_true rfl) ⟨Nat.le_of_ble_eq_true rfl, Nat.le_of_ble_eq_true rfl⟩ rfl e2 (ci := 5) (C := RX5) (TT := TX5) (NN := 25) rfl (fun H locs hP hD hS => ?_)
  exact lv_icmp_eq (tgt := 1060) hx hb dL_law_1032 (by decide) (fun _ => kk _ _ _ _ hI2 hP hD hS) (fun h9 => absurd rfl h9)
set_option maxRecDepth 20000 in
theorem cs_29 (Cc : Cx p s m args meth c RL cL_law 4 ret) (hK : va_K D classes (tysA cI cS) s) (hA : ∀ q, s.heap.size ≤ q → A q) (hX : va_X b L xs s s.heap) (hbl : b < s.heap.size) (hbA : ¬ A b) (hL : L ≤ 384) (hi : i + 6 ≤ L) (hl : lv_has ls 4 [(0, .ref b), (1, .ref ad), (2, .ref am), (3, .int (nI i))]) (hI : Iv cI cS ad am wD wM) (hP : va_P D classes (wD ++ wM) H) (hD : va_D A (wD ++ wM)) (hS : va_S A s.heap H locs)
    (kk : ∀ (wD' wM' : va_W) (H1 : Heap) (locs1 : List Loc), Iv cI cS ad am wD' wM' → va_P D classes (wD' ++ wM') H1 → va_D A (wD' ++ wM') → va_S A s.heap H1 locs1 → W p l e room_1 s m args below meth c H1 locs1 33 718 Q (F0 m 1060 ls [])) : W p l e room_1 s m args below meth c H locs 33 718 Q (F0 m 1037 ls []) := by
  obtain ⟨hx, hb, hr, hml, hown, hts, hlk, hnw⟩ := id Cc
  obtain ⟨i1, i2, ⟨f4, e1⟩, ⟨f5, e2⟩⟩ := Iv_face hI
  obtain ⟨r, wD', wM', c4, c5, hI2⟩ := ag_many l D hI (xs (i + 1))
  obtain ⟨j1, j2, -, -⟩ := Iv_face hI2
  refine lv_aload_n hx hb dL_law_1037 rfl (lv_at hl 1 rfl) ?_
  refine ld_a (k := 1) hx hb hX hbl hbA hS hl (by omega) hL dL_law_1038 dL_law_1039 dL_law_1040 (by decide) dL_law_1041 dL_law_1042 ?_
  refine cVl (R := room_1) (rest := []) (st1 := [.int r]) Cc hK hA hP hD hS hl.1 i1 i2 j1 c4 ⟨tw_496, tw_493, tw_494, tw_495, tw_1⟩ mdX4_many ⟨rfl, rfl, Nat.le_of_ble_eq_true rfl, Nat.le_of_ble_eq_true rfl⟩ rfl dL_law_1043 rfl (Nat.le_of_ble_eq_true rfl) ⟨Nat.le_of_ble_eq_true rfl, Nat.le_of_ble_eq_true rfl⟩ rfl e1 (ci := 4) (C := RX4) (TT := TX4) (NN := 7) rfl (fun H locs hP hD hS => ?_)
  refine lv_aload_n hx hb dL_law_1046 rfl (lv_at hl 2 rfl) ?_
  refine ld_a (k := 1) hx hb hX hbl hbA hS hl (by omega) hL dL_law_1047 dL_law_1048 dL_law_1049 (by decide) dL_law_1050 dL_law_1051 ?_
  refine cVr (R := room_1) (rest := [.int r]) (st1 := [.int r, .int r]) Cc hK hA hP hD hS hl.1 j1 i2 j2 c5 ⟨tw_828, tw_825, tw_826, tw_827, tw_6⟩ mdX5_many ⟨rfl, rfl, Nat.le_of_ble_eq_true rfl, Nat.le_of_ble_eq_true rfl⟩ rfl dL_law_1052 rfl (Nat.le_of_ble_eq_true rfl) ⟨Nat.le_of_ble_eq_true rfl, Nat.le_of_ble_eq_true rfl⟩ rfl e2 (ci := 5) (C := RX5) (TT := TX5) (NN := 25) rfl (fun H locs hP hD hS => ?_)
  exact lv_icmp_eq (tgt := 1060) hx hb dL_law_1055 (by decide) (fun _ => kk _ _ _ _ hI2 hP hD hS) (fun h9 => absurd rfl h9)
end CS
