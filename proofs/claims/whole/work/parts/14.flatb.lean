-- X0_beside
def fX0_beside (n : Nat) (f_wide : Int32) (f_all : Int32) (f_firstColumn : Int32) (f_lastColumn : Int32) (p1 : Int32) : Option (Int32) := some ((((((p1 &&& (f_lastColumn ^^^ (-1 : Int32))) <<< ((1 : Int32) &&& 31)) ||| ((p1 &&& (f_firstColumn ^^^ (-1 : Int32))) >>> ((1 : Int32) &&& 31))) ||| ((p1 <<< (f_wide &&& 31)) ||| (p1 >>> (f_wide &&& 31)))) &&& f_all))
theorem mdX0_beside : yX0_beside.cls = RX0 ∧ yX0_beside.cls ≠ "java/lang/invoke/MethodHandle" ∧ yX0_beside.cls ≠ "java/lang/invoke/VarHandle" ∧ (parseMethodDescriptor yX0_beside.desc).map (fun d => d.parameters.length) = some 1 := by decide +kernel
set_option maxHeartbeats 4000000 in
set_option maxRecDepth 100000 in
theorem ctX0_beside (l : Launch) (D : va_G) (cI cS : ClassId) (a_f a_f_kind a_f_wet : Nat) (f_kind : Nat → Int32) (f_wet : Nat → Int32) (f_wide : Int32) (f_rows : Int32) (f_cells : Int32) (f_sun : Int32) (f_all : Int32) (f_firstColumn : Int32) (f_lastColumn : Int32) (p1 : Int32) (n : Nat) (r : Int32) (hf : fX0_beside n f_wide f_all f_firstColumn f_lastColumn p1 = some (r)) : Ct l D (tysA cI cS) yX0_beside cX0_beside 4 (some .int) (Rm 0) [.ref a_f, .int p1] (W_f cI cS a_f a_f_kind a_f_wet f_kind f_wet f_wide f_rows f_cells f_sun f_all f_firstColumn f_lastColumn) (some (.int r)) (W_f cI cS a_f a_f_kind a_f_wet f_kind f_wet f_wide f_rows f_cells f_sun f_all f_firstColumn f_lastColumn) := by
  refine Ct_of (by decide) (Nat.le_of_ble_eq_true rfl) ?_
  intro p e s m args below meth c A ls Cc hK hA hP hD hS hl
  have hl : lv_has ls 4 [(0, .ref a_f), (1, .int p1)] := hl
  obtain ⟨hx, hb, hr, hml, hown, hts, hlk, hnw⟩ := id Cc
  unfold fX0_beside at hf
  refine lv_iload_n hx hb dX0_beside_0 rfl (lv_at hl 1 rfl) ?_
  refine lv_aload_n hx hb dX0_beside_1 rfl (lv_at hl 0 rfl) ?_
  refine va_get (D := D) (ci := 0) (v := .int f_lastColumn) (C := RX0) (T := TX0) (N := 9) hx hb hts inX0 hown hK hP 0 rfl rfl 8 (by decide) (hts _ tw_41) (fun _ h9 => h9) rfl dX0_beside_2 ?_
  refine lv_iconst (v := (-1 : Int32)) hx hb dX0_beside_5 (by decide) ?_
  refine lv_ixor hx hb dX0_beside_6 ?_
  refine lv_iand hx hb dX0_beside_7 ?_
  refine lv_iconst (v := (1 : Int32)) hx hb dX0_beside_8 (by decide) ?_
  refine lv_ishl hx hb dX0_beside_9 ?_
  refine lv_iload_n hx hb dX0_beside_10 rfl (lv_at hl 1 rfl) ?_
  refine lv_aload_n hx hb dX0_beside_11 rfl (lv_at hl 0 rfl) ?_
  refine va_get (D := D) (ci := 0) (v := .int f_firstColumn) (C := RX0) (T := TX0) (N := 9) hx hb hts inX0 hown hK hP 0 rfl rfl 7 (by decide) (hts _ tw_40) (fun _ h9 => h9) rfl dX0_beside_12 ?_
  refine lv_iconst (v := (-1 : Int32)) hx hb dX0_beside_15 (by decide) ?_
  refine lv_ixor hx hb dX0_beside_16 ?_
  refine lv_iand hx hb dX0_beside_17 ?_
  refine lv_iconst (v := (1 : Int32)) hx hb dX0_beside_18 (by decide) ?_
  refine lv_ishr hx hb dX0_beside_19 ?_
  refine lv_ior hx hb dX0_beside_20 ?_
  refine lv_istore_n (lv' := [(2, .int (((p1 &&& (f_lastColumn ^^^ (-1 : Int32))) <<< ((1 : Int32) &&& 31)) ||| ((p1 &&& (f_firstColumn ^^^ (-1 : Int32))) >>> ((1 : Int32) &&& 31)))), (0, .ref a_f), (1, .int p1)]) hx hb dX0_beside_21 rfl hl (by decide) rfl (fun ls hl => ?_)
  refine lv_iload_n hx hb dX0_beside_22 rfl (lv_at hl 2 rfl) ?_
  refine lv_aload_n hx hb dX0_beside_23 rfl (lv_at hl 1 rfl) ?_
  refine va_get (D := D) (ci := 0) (v := .int f_wide) (C := RX0) (T := TX0) (N := 9) hx hb hts inX0 hown hK hP 0 rfl rfl 2 (by decide) (hts _ tw_29) (fun _ h9 => h9) rfl dX0_beside_24 ?_
  refine lv_ishl hx hb dX0_beside_27 ?_
  refine lv_iload_n hx hb dX0_beside_28 rfl (lv_at hl 2 rfl) ?_
  refine lv_aload_n hx hb dX0_beside_29 rfl (lv_at hl 1 rfl) ?_
  refine va_get (D := D) (ci := 0) (v := .int f_wide) (C := RX0) (T := TX0) (N := 9) hx hb hts inX0 hown hK hP 0 rfl rfl 2 (by decide) (hts _ tw_29) (fun _ h9 => h9) rfl dX0_beside_30 ?_
  refine lv_ishr hx hb dX0_beside_33 ?_
  refine lv_ior hx hb dX0_beside_34 ?_
  refine lv_istore_n (lv' := [(3, .int ((p1 <<< (f_wide &&& 31)) ||| (p1 >>> (f_wide &&& 31)))), (2, .int (((p1 &&& (f_lastColumn ^^^ (-1 : Int32))) <<< ((1 : Int32) &&& 31)) ||| ((p1 &&& (f_firstColumn ^^^ (-1 : Int32))) >>> ((1 : Int32) &&& 31)))), (0, .ref a_f), (1, .int p1)]) hx hb dX0_beside_35 rfl hl (by decide) rfl (fun ls hl => ?_)
  refine lv_iload_n hx hb dX0_beside_36 rfl (lv_at hl 1 rfl) ?_
  refine lv_iload_n hx hb dX0_beside_37 rfl (lv_at hl 0 rfl) ?_
  refine lv_ior hx hb dX0_beside_38 ?_
  refine lv_aload_n hx hb dX0_beside_39 rfl (lv_at hl 2 rfl) ?_
  refine va_get (D := D) (ci := 0) (v := .int f_all) (C := RX0) (T := TX0) (N := 9) hx hb hts inX0 hown hK hP 0 rfl rfl 6 (by decide) (hts _ tw_38) (fun _ h9 => h9) rfl dX0_beside_40 ?_
  refine lv_iand hx hb dX0_beside_43 ?_
  obtain rfl := Option.some.inj hf
  exact rt_i Cc hK hP hD hS dX0_beside_44
-- X0_hanging
def fX0_hanging_7 (n : Nat) : Nat → Int32 → Int32 → Int32 → Int32 → Int32 → Int32 → Int32 → Int32 → Option (Int32)
  | 0, _, _, _, _, _, _, _, _ => none
  | k + 1, f_wide, f_cells, f_all, f_firstColumn, f_lastColumn, x2, x3, x4 => if f_cells ≤ x4 then some (x3) else (fX0_beside n f_wide f_all f_firstColumn f_lastColumn x3).bind fun q19_1 => if ((x3 ||| q19_1) &&& x2) = x3 then some (x3) else fX0_hanging_7 n k f_wide f_cells f_all f_firstColumn f_lastColumn x2 ((x3 ||| q19_1) &&& x2) (x4 + 1)
def fX0_hanging (n : Nat) (f_wide : Int32) (f_cells : Int32) (f_all : Int32) (f_firstColumn : Int32) (f_lastColumn : Int32) (p1 : Int32) (p2 : Int32) : Option (Int32) := fX0_hanging_7 n n f_wide f_cells f_all f_firstColumn f_lastColumn p2 (p1 &&& p2) (0 : Int32)
theorem mdX0_hanging : yX0_hanging.cls = RX0 ∧ yX0_hanging.cls ≠ "java/lang/invoke/MethodHandle" ∧ yX0_hanging.cls ≠ "java/lang/invoke/VarHandle" ∧ (parseMethodDescriptor yX0_hanging.desc).map (fun d => d.parameters.length) = some 2 := by decide +kernel
set_option maxHeartbeats 4000000 in
set_option maxRecDepth 100000 in
theorem bX0_hanging_7 {p : Program} {l : Launch} {e : Env} {s : State} {m : MethodId} {args : Array Value} {below : List Frame} {meth : Method} {c : Code} {A : Nat → Prop} {D : va_G} {cI cS : ClassId} (a_f a_f_kind a_f_wet : Nat) (f_kind : Nat → Int32) (f_wet : Nat → Int32) (f_rows : Int32) (f_sun : Int32) (Cc : Cx p s m args meth c RX0 cX0_hanging 6 (some .int)) (hK : va_K D classes (tysA cI cS) s) (hA : ∀ q, s.heap.size ≤ q → A q) (n : Nat) : ∀ (k : Nat) (f_wide : Int32) (f_cells : Int32) (f_all : Int32) (f_firstColumn : Int32) (f_lastColumn : Int32) (x2 : Int32) (x3 : Int32) (x4 : Int32) (r : Int32), fX0_hanging_7 n k f_wide f_cells f_all f_firstColumn f_lastColumn x2 x3 x4 = some (r) → ∀ (H : Heap) (locs : List Loc) (ls : Array Slot), va_P D classes (W_f cI cS a_f a_f_kind a_f_wet f_kind f_wet f_wide f_rows f_cells f_sun f_all f_firstColumn f_lastColumn) H → va_D A (W_f cI cS a_f a_f_kind a_f_wet f_kind f_wet f_wide f_rows f_cells f_sun f_all f_firstColumn f_lastColumn) → va_S A s.heap H locs → lv_has ls 6 [(0, .ref a_f), (2, .int x2), (3, .int x3), (4, .int x4)] → W p l e (Rm 1) s m args below meth c H locs 0 0 (MQ below (QW D (tysA cI cS) (some (.int r)) (W_f cI cS a_f a_f_kind a_f_wet f_kind f_wet f_wide f_rows f_cells f_sun f_all f_firstColumn f_lastColumn) A) args s 0 0 A) (F0 m 7 ls []) := by
  obtain ⟨hx, hb, hr, hml, hown, hts, hlk, hnw⟩ := id Cc
  intro k
  induction k with
  | zero =>
    intro f_wide f_cells f_all f_firstColumn f_lastColumn x2 x3 x4 r hf
    rw [fX0_hanging_7] at hf
    cases hf
  | succ k ih =>
    intro f_wide f_cells f_all f_firstColumn f_lastColumn x2 x3 x4 r hf H locs ls hP hD hS hl
    rw [fX0_hanging_7] at hf
    refine lv_iload hx hb dX0_hanging_7 (lv_at hl 3 rfl) ?_
    refine lv_aload_n hx hb dX0_hanging_9 rfl (lv_at hl 0 rfl) ?_
    refine va_get (D := D) (ci := 0) (v := .int f_cells) (C := RX0) (T := TX0) (N := 9) hx hb hts inX0 hown hK hP 0 rfl rfl 4 (by decide) (hts _ tw_33) (fun _ h9 => h9) rfl dX0_hanging_10 ?_
    refine lv_icmp_ge (tgt := 45) hx hb dX0_hanging_13 (by decide) (fun hc1 => ?_) (fun hc1 => ?_)
    · replace hf := (if_pos hc1).symm.trans hf
      refine lv_iload_n hx hb dX0_hanging_45 rfl (lv_at hl 2 rfl) ?_
      obtain rfl := Option.some.inj hf
      exact rt_i Cc hK hP hD hS dX0_hanging_46
    · replace hf := (if_neg hc1).symm.trans hf
      refine lv_iload_n hx hb dX0_hanging_16 rfl (lv_at hl 2 rfl) ?_
      refine lv_aload_n hx hb dX0_hanging_17 rfl (lv_at hl 0 rfl) ?_
      refine lv_iload_n hx hb dX0_hanging_18 rfl (lv_at hl 2 rfl) ?_
      obtain ⟨q19_1, hq2, hf⟩ := Option.bind_eq_some_iff.mp hf
      refine cV (ws' := (W_f cI cS a_f a_f_kind a_f_wet f_kind f_wet f_wide f_rows f_cells f_sun f_all f_firstColumn f_lastColumn)) (rest := [.int x3]) (st1 := [.int q19_1, .int x3]) Cc hK hA hP hD hS hl.1 (ctX0_beside l D cI cS a_f a_f_kind a_f_wet f_kind f_wet f_wide f_rows f_cells f_sun f_all f_firstColumn f_lastColumn x3 n q19_1 hq2) ⟨tw_238, tw_235, tw_237, tp_2, tw_2⟩ mdX0_beside ⟨rfl, rfl, Nat.le_of_ble_eq_true rfl, Nat.le_of_ble_eq_true rfl⟩ rfl dX0_hanging_19 rfl (Nat.le_of_ble_eq_true rfl) ⟨Nat.zero_le _, Nat.zero_le _⟩ rfl rfl rfl [0, 1, 2] [] [0, 1, 2] rfl rfl (by decide) rfl (fun H locs hP hD hS => ?_)
      refine lv_ior hx hb dX0_hanging_22 ?_
      refine lv_iload_n hx hb dX0_hanging_23 rfl (lv_at hl 1 rfl) ?_
      refine lv_iand hx hb dX0_hanging_24 ?_
      refine lv_istore (lv' := [(5, .int ((x3 ||| q19_1) &&& x2)), (0, .ref a_f), (2, .int x2), (3, .int x3), (4, .int x4)]) hx hb dX0_hanging_25 hl (by decide) rfl (fun ls hl => ?_)
      refine lv_iload hx hb dX0_hanging_27 (lv_at hl 0 rfl) ?_
      refine lv_iload_n hx hb dX0_hanging_29 rfl (lv_at hl 3 rfl) ?_
      refine lv_icmp_ne (tgt := 36) hx hb dX0_hanging_30 (by decide) (fun hc3 => ?_) (fun hc3 => ?_)
      · replace hf := (if_neg hc3).symm.trans hf
        refine lv_iload hx hb dX0_hanging_36 (lv_at hl 0 rfl) ?_
        refine lv_istore_n (lv' := [(3, .int ((x3 ||| q19_1) &&& x2)), (5, .int ((x3 ||| q19_1) &&& x2)), (0, .ref a_f), (2, .int x2), (4, .int x4)]) hx hb dX0_hanging_38 rfl hl (by decide) rfl (fun ls hl => ?_)
        refine lv_iinc (v := (x4 + 1)) (lv' := [(4, .int (x4 + 1)), (3, .int ((x3 ||| q19_1) &&& x2)), (5, .int ((x3 ||| q19_1) &&& x2)), (0, .ref a_f), (2, .int x2)]) hx hb dX0_hanging_39 hl (k := 4) rfl rfl (by decide) rfl (fun ls hl => ?_)
        refine lv_goto (tgt := 7) hx hb dX0_hanging_42 (by decide) ?_
        exact ih _ _ _ _ _ _ _ _ _ hf _ _ _ hP hD hS (lv_sub hl [3, 4, 1, 0] rfl)
      · replace hf := (if_pos hc3).symm.trans hf
        refine lv_goto (tgt := 45) hx hb dX0_hanging_33 (by decide) ?_
        refine lv_iload_n hx hb dX0_hanging_45 rfl (lv_at hl 3 rfl) ?_
        obtain rfl := Option.some.inj hf
        exact rt_i Cc hK hP hD hS dX0_hanging_46
set_option maxHeartbeats 4000000 in
set_option maxRecDepth 100000 in
theorem ctX0_hanging (l : Launch) (D : va_G) (cI cS : ClassId) (a_f a_f_kind a_f_wet : Nat) (f_kind : Nat → Int32) (f_wet : Nat → Int32) (f_wide : Int32) (f_rows : Int32) (f_cells : Int32) (f_sun : Int32) (f_all : Int32) (f_firstColumn : Int32) (f_lastColumn : Int32) (p1 : Int32) (p2 : Int32) (n : Nat) (r : Int32) (hf : fX0_hanging n f_wide f_cells f_all f_firstColumn f_lastColumn p1 p2 = some (r)) : Ct l D (tysA cI cS) yX0_hanging cX0_hanging 6 (some .int) (Rm 1) [.ref a_f, .int p1, .int p2] (W_f cI cS a_f a_f_kind a_f_wet f_kind f_wet f_wide f_rows f_cells f_sun f_all f_firstColumn f_lastColumn) (some (.int r)) (W_f cI cS a_f a_f_kind a_f_wet f_kind f_wet f_wide f_rows f_cells f_sun f_all f_firstColumn f_lastColumn) := by
  refine Ct_of (by decide) (Nat.le_of_ble_eq_true rfl) ?_
  intro p e s m args below meth c A ls Cc hK hA hP hD hS hl
  have hl : lv_has ls 6 [(0, .ref a_f), (1, .int p1), (2, .int p2)] := hl
  obtain ⟨hx, hb, hr, hml, hown, hts, hlk, hnw⟩ := id Cc
  unfold fX0_hanging at hf
  refine lv_iload_n hx hb dX0_hanging_0 rfl (lv_at hl 1 rfl) ?_
  refine lv_iload_n hx hb dX0_hanging_1 rfl (lv_at hl 2 rfl) ?_
  refine lv_iand hx hb dX0_hanging_2 ?_
  refine lv_istore_n (lv' := [(3, .int (p1 &&& p2)), (0, .ref a_f), (1, .int p1), (2, .int p2)]) hx hb dX0_hanging_3 rfl hl (by decide) rfl (fun ls hl => ?_)
  refine lv_iconst (v := (0 : Int32)) hx hb dX0_hanging_4 (by decide) ?_
  refine lv_istore (lv' := [(4, .int (0 : Int32)), (3, .int (p1 &&& p2)), (0, .ref a_f), (1, .int p1), (2, .int p2)]) hx hb dX0_hanging_5 hl (by decide) rfl (fun ls hl => ?_)
  exact bX0_hanging_7 a_f a_f_kind a_f_wet f_kind f_wet f_rows f_sun Cc hK hA n n _ _ _ _ _ _ _ _ _ hf _ _ _ hP hD hS (lv_sub hl [2, 4, 1, 0] rfl)
-- X0_isOpenBy
def fX0_isOpenBy (n : Nat) (f_wide : Int32) (f_cells : Int32) (f_all : Int32) (f_firstColumn : Int32) (f_lastColumn : Int32) (p1 : Int32) : Option (Int32) := (fX0_hanging n f_wide f_cells f_all f_firstColumn f_lastColumn (((1 : Int32) <<< (f_wide &&& 31)) - (1 : Int32)) p1).bind fun q24_1 => if (q24_1 &&& ((((1 : Int32) <<< (f_wide &&& 31)) - (1 : Int32)) <<< ((f_cells - f_wide) &&& 31))) = 0 then some ((0 : Int32)) else some ((1 : Int32))
theorem mdX0_isOpenBy : yX0_isOpenBy.cls = RX0 ∧ yX0_isOpenBy.cls ≠ "java/lang/invoke/MethodHandle" ∧ yX0_isOpenBy.cls ≠ "java/lang/invoke/VarHandle" ∧ (parseMethodDescriptor yX0_isOpenBy.desc).map (fun d => d.parameters.length) = some 1 := by decide +kernel
set_option maxHeartbeats 4000000 in
set_option maxRecDepth 100000 in
theorem ctX0_isOpenBy (l : Launch) (D : va_G) (cI cS : ClassId) (a_f a_f_kind a_f_wet : Nat) (f_kind : Nat → Int32) (f_wet : Nat → Int32) (f_wide : Int32) (f_rows : Int32) (f_cells : Int32) (f_sun : Int32) (f_all : Int32) (f_firstColumn : Int32) (f_lastColumn : Int32) (p1 : Int32) (n : Nat) (r : Int32) (hf : fX0_isOpenBy n f_wide f_cells f_all f_firstColumn f_lastColumn p1 = some (r)) : Ct l D (tysA cI cS) yX0_isOpenBy cX0_isOpenBy 4 (some .boolean) (Rm 2) [.ref a_f, .int p1] (W_f cI cS a_f a_f_kind a_f_wet f_kind f_wet f_wide f_rows f_cells f_sun f_all f_firstColumn f_lastColumn) (some (.int r)) (W_f cI cS a_f a_f_kind a_f_wet f_kind f_wet f_wide f_rows f_cells f_sun f_all f_firstColumn f_lastColumn) := by
  refine Ct_of (by decide) (Nat.le_of_ble_eq_true rfl) ?_
  intro p e s m args below meth c A ls Cc hK hA hP hD hS hl
  have hl : lv_has ls 4 [(0, .ref a_f), (1, .int p1)] := hl
  obtain ⟨hx, hb, hr, hml, hown, hts, hlk, hnw⟩ := id Cc
  unfold fX0_isOpenBy at hf
  refine lv_iconst (v := (1 : Int32)) hx hb dX0_isOpenBy_0 (by decide) ?_
  refine lv_aload_n hx hb dX0_isOpenBy_1 rfl (lv_at hl 0 rfl) ?_
  refine va_get (D := D) (ci := 0) (v := .int f_wide) (C := RX0) (T := TX0) (N := 9) hx hb hts inX0 hown hK hP 0 rfl rfl 2 (by decide) (hts _ tw_29) (fun _ h9 => h9) rfl dX0_isOpenBy_2 ?_
  refine lv_ishl hx hb dX0_isOpenBy_5 ?_
  refine lv_iconst (v := (1 : Int32)) hx hb dX0_isOpenBy_6 (by decide) ?_
  refine lv_isub hx hb dX0_isOpenBy_7 ?_
  refine lv_istore_n (lv' := [(2, .int (((1 : Int32) <<< (f_wide &&& 31)) - (1 : Int32))), (0, .ref a_f), (1, .int p1)]) hx hb dX0_isOpenBy_8 rfl hl (by decide) rfl (fun ls hl => ?_)
  refine lv_iload_n hx hb dX0_isOpenBy_9 rfl (lv_at hl 0 rfl) ?_
  refine lv_aload_n hx hb dX0_isOpenBy_10 rfl (lv_at hl 1 rfl) ?_
  refine va_get (D := D) (ci := 0) (v := .int f_cells) (C := RX0) (T := TX0) (N := 9) hx hb hts inX0 hown hK hP 0 rfl rfl 4 (by decide) (hts _ tw_33) (fun _ h9 => h9) rfl dX0_isOpenBy_11 ?_
  refine lv_aload_n hx hb dX0_isOpenBy_14 rfl (lv_at hl 1 rfl) ?_
  refine va_get (D := D) (ci := 0) (v := .int f_wide) (C := RX0) (T := TX0) (N := 9) hx hb hts inX0 hown hK hP 0 rfl rfl 2 (by decide) (hts _ tw_29) (fun _ h9 => h9) rfl dX0_isOpenBy_15 ?_
  refine lv_isub hx hb dX0_isOpenBy_18 ?_
  refine lv_ishl hx hb dX0_isOpenBy_19 ?_
  refine lv_istore_n (lv' := [(3, .int ((((1 : Int32) <<< (f_wide &&& 31)) - (1 : Int32)) <<< ((f_cells - f_wide) &&& 31))), (2, .int (((1 : Int32) <<< (f_wide &&& 31)) - (1 : Int32))), (0, .ref a_f), (1, .int p1)]) hx hb dX0_isOpenBy_20 rfl hl (by decide) rfl (fun ls hl => ?_)
  refine lv_aload_n hx hb dX0_isOpenBy_21 rfl (lv_at hl 2 rfl) ?_
  refine lv_iload_n hx hb dX0_isOpenBy_22 rfl (lv_at hl 1 rfl) ?_
  refine lv_iload_n hx hb dX0_isOpenBy_23 rfl (lv_at hl 3 rfl) ?_
  obtain ⟨q24_1, hq1, hf⟩ := Option.bind_eq_some_iff.mp hf
  refine cV (ws' := (W_f cI cS a_f a_f_kind a_f_wet f_kind f_wet f_wide f_rows f_cells f_sun f_all f_firstColumn f_lastColumn)) (rest := []) (st1 := [.int q24_1]) Cc hK hA hP hD hS hl.1 (ctX0_hanging l D cI cS a_f a_f_kind a_f_wet f_kind f_wet f_wide f_rows f_cells f_sun f_all f_firstColumn f_lastColumn (((1 : Int32) <<< (f_wide &&& 31)) - (1 : Int32)) p1 n q24_1 hq1) ⟨tw_234, tw_287, tw_232, tw_233, tw_2⟩ mdX0_hanging ⟨rfl, rfl, Nat.le_of_ble_eq_true rfl, Nat.le_of_ble_eq_true rfl⟩ rfl dX0_isOpenBy_24 rfl (Nat.le_of_ble_eq_true rfl) ⟨Nat.zero_le _, Nat.zero_le _⟩ rfl rfl rfl [0, 1, 2] [] [0, 1, 2] rfl rfl (by decide) rfl (fun H locs hP hD hS => ?_)
  refine lv_iload_n hx hb dX0_isOpenBy_27 rfl (lv_at hl 0 rfl) ?_
  refine lv_iand hx hb dX0_isOpenBy_28 ?_
  refine lv_if_eq (tgt := 36) hx hb dX0_isOpenBy_29 (by decide) (fun hc2 => ?_) (fun hc2 => ?_)
  · replace hf := (if_pos hc2).symm.trans hf
    refine lv_iconst (v := (0 : Int32)) hx hb dX0_isOpenBy_36 (by decide) ?_
    obtain rfl := Option.some.inj hf
    exact rt_z Cc (by decide) hK hP hD hS dX0_isOpenBy_37
  · replace hf := (if_neg hc2).symm.trans hf
    refine lv_iconst (v := (1 : Int32)) hx hb dX0_isOpenBy_32 (by decide) ?_
    refine lv_goto (tgt := 37) hx hb dX0_isOpenBy_33 (by decide) ?_
    obtain rfl := Option.some.inj hf
    exact rt_z Cc (by decide) hK hP hD hS dX0_isOpenBy_37
-- X0_fewestSteps
def fX0_fewestSteps_15 (n : Nat) : Nat → (Nat → Int32) → Int32 → Int32 → Int32 → Int32 → Int32 → Int32 → Int32 → Int32 → Int32 → Option (Int32)
  | 0, _, _, _, _, _, _, _, _, _, _ => none
  | k + 1, f_wet, f_wide, f_cells, f_all, f_firstColumn, f_lastColumn, x2, x3, x4, x5 => if f_cells ≤ x5 then some ((-9 : Int32)) else if (x4 &&& ((1 : Int32) <<< (x2 &&& 31))) = 0 then (fX0_beside n f_wide f_all f_firstColumn f_lastColumn x4).bind fun q41_1 => fX0_fewestSteps_15 n k f_wet f_wide f_cells f_all f_firstColumn f_lastColumn x2 x3 ((x4 ||| q41_1) &&& x3) (x5 + 1) else some (x5)
def fX0_fewestSteps (n : Nat) (f_wet : Nat → Int32) (f_wide : Int32) (f_cells : Int32) (f_all : Int32) (f_firstColumn : Int32) (f_lastColumn : Int32) (p1 : Int32) (p2 : Int32) : Option (Int32) := (fX0_crackedSet n f_wet f_cells).bind fun q1_1 => fX0_fewestSteps_15 n n f_wet f_wide f_cells f_all f_firstColumn f_lastColumn p2 q1_1 (((1 : Int32) <<< (p1 &&& 31)) &&& q1_1) (0 : Int32)
theorem mdX0_fewestSteps : yX0_fewestSteps.cls = RX0 ∧ yX0_fewestSteps.cls ≠ "java/lang/invoke/MethodHandle" ∧ yX0_fewestSteps.cls ≠ "java/lang/invoke/VarHandle" ∧ (parseMethodDescriptor yX0_fewestSteps.desc).map (fun d => d.parameters.length) = some 2 := by decide +kernel
set_option maxHeartbeats 4000000 in
set_option maxRecDepth 100000 in
theorem bX0_fewestSteps_15 {p : Program} {l : Launch} {e : Env} {s : State} {m : MethodId} {args : Array Value} {below : List Frame} {meth : Method} {c : Code} {A : Nat → Prop} {D : va_G} {cI cS : ClassId} (a_f a_f_kind a_f_wet : Nat) (f_kind : Nat → Int32) (f_rows : Int32) (f_sun : Int32) (Cc : Cx p s m args meth c RX0 cX0_fewestSteps 6 (some .int)) (hK : va_K D classes (tysA cI cS) s) (hA : ∀ q, s.heap.size ≤ q → A q) (n : Nat) : ∀ (k : Nat) (f_wet : Nat → Int32) (f_wide : Int32) (f_cells : Int32) (f_all : Int32) (f_firstColumn : Int32) (f_lastColumn : Int32) (x2 : Int32) (x3 : Int32) (x4 : Int32) (x5 : Int32) (r : Int32), fX0_fewestSteps_15 n k f_wet f_wide f_cells f_all f_firstColumn f_lastColumn x2 x3 x4 x5 = some (r) → ∀ (H : Heap) (locs : List Loc) (ls : Array Slot), va_P D classes (W_f cI cS a_f a_f_kind a_f_wet f_kind f_wet f_wide f_rows f_cells f_sun f_all f_firstColumn f_lastColumn) H → va_D A (W_f cI cS a_f a_f_kind a_f_wet f_kind f_wet f_wide f_rows f_cells f_sun f_all f_firstColumn f_lastColumn) → va_S A s.heap H locs → lv_has ls 6 [(0, .ref a_f), (2, .int x2), (3, .int x3), (4, .int x4), (5, .int x5)] → W p l e (Rm 1) s m args below meth c H locs 0 0 (MQ below (QW D (tysA cI cS) (some (.int r)) (W_f cI cS a_f a_f_kind a_f_wet f_kind f_wet f_wide f_rows f_cells f_sun f_all f_firstColumn f_lastColumn) A) args s 0 0 A) (F0 m 15 ls []) := by
  obtain ⟨hx, hb, hr, hml, hown, hts, hlk, hnw⟩ := id Cc
  intro k
  induction k with
  | zero =>
    intro f_wet f_wide f_cells f_all f_firstColumn f_lastColumn x2 x3 x4 x5 r hf
    rw [fX0_fewestSteps_15] at hf
    cases hf
  | succ k ih =>
    intro f_wet f_wide f_cells f_all f_firstColumn f_lastColumn x2 x3 x4 x5 r hf H locs ls hP hD hS hl
    rw [fX0_fewestSteps_15] at hf
    refine lv_iload hx hb dX0_fewestSteps_15 (lv_at hl 4 rfl) ?_
    refine lv_aload_n hx hb dX0_fewestSteps_17 rfl (lv_at hl 0 rfl) ?_
    refine va_get (D := D) (ci := 0) (v := .int f_cells) (C := RX0) (T := TX0) (N := 9) hx hb hts inX0 hown hK hP 0 rfl rfl 4 (by decide) (hts _ tw_33) (fun _ h9 => h9) rfl dX0_fewestSteps_18 ?_
    refine lv_icmp_ge (tgt := 55) hx hb dX0_fewestSteps_21 (by decide) (fun hc2 => ?_) (fun hc2 => ?_)
    · replace hf := (if_pos hc2).symm.trans hf
      refine lv_bipush (v := (-9 : Int32)) hx hb dX0_fewestSteps_55 (by decide) ?_
      obtain rfl := Option.some.inj hf
      exact rt_i Cc hK hP hD hS dX0_fewestSteps_57
    · replace hf := (if_neg hc2).symm.trans hf
      refine lv_iload hx hb dX0_fewestSteps_24 (lv_at hl 3 rfl) ?_
      refine lv_iconst (v := (1 : Int32)) hx hb dX0_fewestSteps_26 (by decide) ?_
      refine lv_iload_n hx hb dX0_fewestSteps_27 rfl (lv_at hl 1 rfl) ?_
      refine lv_ishl hx hb dX0_fewestSteps_28 ?_
      refine lv_iand hx hb dX0_fewestSteps_29 ?_
      refine lv_if_eq (tgt := 36) hx hb dX0_fewestSteps_30 (by decide) (fun hc3 => ?_) (fun hc3 => ?_)
      · replace hf := (if_pos hc3).symm.trans hf
        refine lv_iload hx hb dX0_fewestSteps_36 (lv_at hl 3 rfl) ?_
        refine lv_aload_n hx hb dX0_fewestSteps_38 rfl (lv_at hl 0 rfl) ?_
        refine lv_iload hx hb dX0_fewestSteps_39 (lv_at hl 3 rfl) ?_
        obtain ⟨q41_1, hq4, hf⟩ := Option.bind_eq_some_iff.mp hf
        refine cV (ws' := (W_f cI cS a_f a_f_kind a_f_wet f_kind f_wet f_wide f_rows f_cells f_sun f_all f_firstColumn f_lastColumn)) (rest := [.int x4]) (st1 := [.int q41_1, .int x4]) Cc hK hA hP hD hS hl.1 (ctX0_beside l D cI cS a_f a_f_kind a_f_wet f_kind f_wet f_wide f_rows f_cells f_sun f_all f_firstColumn f_lastColumn x4 n q41_1 hq4) ⟨tw_238, tw_235, tw_237, tp_2, tw_2⟩ mdX0_beside ⟨rfl, rfl, Nat.le_of_ble_eq_true rfl, Nat.le_of_ble_eq_true rfl⟩ rfl dX0_fewestSteps_41 rfl (Nat.le_of_ble_eq_true rfl) ⟨Nat.zero_le _, Nat.zero_le _⟩ rfl rfl rfl [0, 1, 2] [] [0, 1, 2] rfl rfl (by decide) rfl (fun H locs hP hD hS => ?_)
        refine lv_ior hx hb dX0_fewestSteps_44 ?_
        refine lv_iload_n hx hb dX0_fewestSteps_45 rfl (lv_at hl 2 rfl) ?_
        refine lv_iand hx hb dX0_fewestSteps_46 ?_
        refine lv_istore (lv' := [(4, .int ((x4 ||| q41_1) &&& x3)), (0, .ref a_f), (2, .int x2), (3, .int x3), (5, .int x5)]) hx hb dX0_fewestSteps_47 hl (by decide) rfl (fun ls hl => ?_)
        refine lv_iinc (v := (x5 + 1)) (lv' := [(5, .int (x5 + 1)), (4, .int ((x4 ||| q41_1) &&& x3)), (0, .ref a_f), (2, .int x2), (3, .int x3)]) hx hb dX0_fewestSteps_49 hl (k := 4) rfl rfl (by decide) rfl (fun ls hl => ?_)
        refine lv_goto (tgt := 15) hx hb dX0_fewestSteps_52 (by decide) ?_
        exact ih _ _ _ _ _ _ _ _ _ _ _ hf _ _ _ hP hD hS (lv_sub hl [2, 3, 4, 1, 0] rfl)
      · replace hf := (if_neg hc3).symm.trans hf
        refine lv_iload hx hb dX0_fewestSteps_33 (lv_at hl 4 rfl) ?_
        obtain rfl := Option.some.inj hf
        exact rt_i Cc hK hP hD hS dX0_fewestSteps_35
set_option maxHeartbeats 4000000 in
set_option maxRecDepth 100000 in
theorem ctX0_fewestSteps (l : Launch) (D : va_G) (cI cS : ClassId) (a_f a_f_kind a_f_wet : Nat) (f_kind : Nat → Int32) (f_wet : Nat → Int32) (f_wide : Int32) (f_rows : Int32) (f_cells : Int32) (f_sun : Int32) (f_all : Int32) (f_firstColumn : Int32) (f_lastColumn : Int32) (p1 : Int32) (p2 : Int32) (n : Nat) (r : Int32) (hf : fX0_fewestSteps n f_wet f_wide f_cells f_all f_firstColumn f_lastColumn p1 p2 = some (r)) : Ct l D (tysA cI cS) yX0_fewestSteps cX0_fewestSteps 6 (some .int) (Rm 1) [.ref a_f, .int p1, .int p2] (W_f cI cS a_f a_f_kind a_f_wet f_kind f_wet f_wide f_rows f_cells f_sun f_all f_firstColumn f_lastColumn) (some (.int r)) (W_f cI cS a_f a_f_kind a_f_wet f_kind f_wet f_wide f_rows f_cells f_sun f_all f_firstColumn f_lastColumn) := by
  refine Ct_of (by decide) (Nat.le_of_ble_eq_true rfl) ?_
  intro p e s m args below meth c A ls Cc hK hA hP hD hS hl
  have hl : lv_has ls 6 [(0, .ref a_f), (1, .int p1), (2, .int p2)] := hl
  obtain ⟨hx, hb, hr, hml, hown, hts, hlk, hnw⟩ := id Cc
  unfold fX0_fewestSteps at hf
  refine lv_aload_n hx hb dX0_fewestSteps_0 rfl (lv_at hl 0 rfl) ?_
  obtain ⟨q1_1, hq1, hf⟩ := Option.bind_eq_some_iff.mp hf
  refine cV (ws' := (W_f cI cS a_f a_f_kind a_f_wet f_kind f_wet f_wide f_rows f_cells f_sun f_all f_firstColumn f_lastColumn)) (rest := []) (st1 := [.int q1_1]) Cc hK hA hP hD hS hl.1 (ctX0_crackedSet l D cI cS a_f a_f_kind a_f_wet f_kind f_wet f_wide f_rows f_cells f_sun f_all f_firstColumn f_lastColumn  n q1_1 hq1) ⟨tw_230, tw_227, tw_228, tw_229, tw_2⟩ mdX0_crackedSet ⟨rfl, rfl, Nat.le_of_ble_eq_true rfl, Nat.le_of_ble_eq_true rfl⟩ rfl dX0_fewestSteps_1 rfl (Nat.le_of_ble_eq_true rfl) ⟨Nat.zero_le _, Nat.zero_le _⟩ rfl rfl rfl [0, 1, 2] [] [0, 1, 2] rfl rfl (by decide) rfl (fun H locs hP hD hS => ?_)
  refine lv_istore_n (lv' := [(3, .int q1_1), (0, .ref a_f), (1, .int p1), (2, .int p2)]) hx hb dX0_fewestSteps_4 rfl hl (by decide) rfl (fun ls hl => ?_)
  refine lv_iconst (v := (1 : Int32)) hx hb dX0_fewestSteps_5 (by decide) ?_
  refine lv_iload_n hx hb dX0_fewestSteps_6 rfl (lv_at hl 2 rfl) ?_
  refine lv_ishl hx hb dX0_fewestSteps_7 ?_
  refine lv_iload_n hx hb dX0_fewestSteps_8 rfl (lv_at hl 0 rfl) ?_
  refine lv_iand hx hb dX0_fewestSteps_9 ?_
  refine lv_istore (lv' := [(4, .int (((1 : Int32) <<< (p1 &&& 31)) &&& q1_1)), (3, .int q1_1), (0, .ref a_f), (1, .int p1), (2, .int p2)]) hx hb dX0_fewestSteps_10 hl (by decide) rfl (fun ls hl => ?_)
  refine lv_iconst (v := (0 : Int32)) hx hb dX0_fewestSteps_12 (by decide) ?_
  refine lv_istore (lv' := [(5, .int (0 : Int32)), (4, .int (((1 : Int32) <<< (p1 &&& 31)) &&& q1_1)), (3, .int q1_1), (0, .ref a_f), (1, .int p1), (2, .int p2)]) hx hb dX0_fewestSteps_13 hl (by decide) rfl (fun ls hl => ?_)
  exact bX0_fewestSteps_15 a_f a_f_kind a_f_wet f_kind f_rows f_sun Cc hK hA n n _ _ _ _ _ _ _ _ _ _ _ hf _ _ _ hP hD hS (lv_sub hl [3, 5, 2, 1, 0] rfl)
-- X0_howManyPieces
def fX0_howManyPieces_9 (n : Nat) : Nat → (Nat → Int32) → Int32 → Int32 → Int32 → Int32 → Int32 → Int32 → Int32 → Int32 → Option (Int32)
  | 0, _, _, _, _, _, _, _, _, _ => none
  | k + 1, f_wet, f_wide, f_cells, f_all, f_firstColumn, f_lastColumn, x1, x2, x3 => if f_cells ≤ x3 then some (x2) else if x1 = 0 then some (x2) else (fJ6_lowestOneBit_0f7a4 n x1).bind fun q24_1 => (fX0_hanging n f_wide f_cells f_all f_firstColumn f_lastColumn q24_1 x1).bind fun q28_2 => fX0_howManyPieces_9 n k f_wet f_wide f_cells f_all f_firstColumn f_lastColumn (x1 &&& (q28_2 ^^^ (-1 : Int32))) (x2 + 1) (x3 + 1)
def fX0_howManyPieces (n : Nat) (f_wet : Nat → Int32) (f_wide : Int32) (f_cells : Int32) (f_all : Int32) (f_firstColumn : Int32) (f_lastColumn : Int32)  : Option (Int32) := (fX0_wetSet n f_wet f_cells f_all).bind fun q1_1 => fX0_howManyPieces_9 n n f_wet f_wide f_cells f_all f_firstColumn f_lastColumn q1_1 (0 : Int32) (0 : Int32)
theorem mdX0_howManyPieces : yX0_howManyPieces.cls = RX0 ∧ yX0_howManyPieces.cls ≠ "java/lang/invoke/MethodHandle" ∧ yX0_howManyPieces.cls ≠ "java/lang/invoke/VarHandle" ∧ (parseMethodDescriptor yX0_howManyPieces.desc).map (fun d => d.parameters.length) = some 0 := by decide +kernel
set_option maxHeartbeats 4000000 in
set_option maxRecDepth 100000 in
theorem bX0_howManyPieces_9 {p : Program} {l : Launch} {e : Env} {s : State} {m : MethodId} {args : Array Value} {below : List Frame} {meth : Method} {c : Code} {A : Nat → Prop} {D : va_G} {cI cS : ClassId} (a_f a_f_kind a_f_wet : Nat) (f_kind : Nat → Int32) (f_rows : Int32) (f_sun : Int32) (Cc : Cx p s m args meth c RX0 cX0_howManyPieces 4 (some .int)) (hK : va_K D classes (tysA cI cS) s) (hA : ∀ q, s.heap.size ≤ q → A q) (n : Nat) : ∀ (k : Nat) (f_wet : Nat → Int32) (f_wide : Int32) (f_cells : Int32) (f_all : Int32) (f_firstColumn : Int32) (f_lastColumn : Int32) (x1 : Int32) (x2 : Int32) (x3 : Int32) (r : Int32), fX0_howManyPieces_9 n k f_wet f_wide f_cells f_all f_firstColumn f_lastColumn x1 x2 x3 = some (r) → ∀ (H : Heap) (locs : List Loc) (ls : Array Slot), va_P D classes (W_f cI cS a_f a_f_kind a_f_wet f_kind f_wet f_wide f_rows f_cells f_sun f_all f_firstColumn f_lastColumn) H → va_D A (W_f cI cS a_f a_f_kind a_f_wet f_kind f_wet f_wide f_rows f_cells f_sun f_all f_firstColumn f_lastColumn) → va_S A s.heap H locs → lv_has ls 4 [(0, .ref a_f), (1, .int x1), (2, .int x2), (3, .int x3)] → W p l e (Rm 2) s m args below meth c H locs 0 0 (MQ below (QW D (tysA cI cS) (some (.int r)) (W_f cI cS a_f a_f_kind a_f_wet f_kind f_wet f_wide f_rows f_cells f_sun f_all f_firstColumn f_lastColumn) A) args s 0 0 A) (F0 m 9 ls []) := by
  obtain ⟨hx, hb, hr, hml, hown, hts, hlk, hnw⟩ := id Cc
  intro k
  induction k with
  | zero =>
    intro f_wet f_wide f_cells f_all f_firstColumn f_lastColumn x1 x2 x3 r hf
    rw [fX0_howManyPieces_9] at hf
    cases hf
  | succ k ih =>
    intro f_wet f_wide f_cells f_all f_firstColumn f_lastColumn x1 x2 x3 r hf H locs ls hP hD hS hl
    rw [fX0_howManyPieces_9] at hf
    refine lv_iload_n hx hb dX0_howManyPieces_9 rfl (lv_at hl 3 rfl) ?_
    refine lv_aload_n hx hb dX0_howManyPieces_10 rfl (lv_at hl 0 rfl) ?_
    refine va_get (D := D) (ci := 0) (v := .int f_cells) (C := RX0) (T := TX0) (N := 9) hx hb hts inX0 hown hK hP 0 rfl rfl 4 (by decide) (hts _ tw_33) (fun _ h9 => h9) rfl dX0_howManyPieces_11 ?_
    refine lv_icmp_ge (tgt := 44) hx hb dX0_howManyPieces_14 (by decide) (fun hc2 => ?_) (fun hc2 => ?_)
    · replace hf := (if_pos hc2).symm.trans hf
      refine lv_iload_n hx hb dX0_howManyPieces_44 rfl (lv_at hl 2 rfl) ?_
      obtain rfl := Option.some.inj hf
      exact rt_i Cc hK hP hD hS dX0_howManyPieces_45
    · replace hf := (if_neg hc2).symm.trans hf
      refine lv_iload_n hx hb dX0_howManyPieces_17 rfl (lv_at hl 1 rfl) ?_
      refine lv_if_eq (tgt := 44) hx hb dX0_howManyPieces_18 (by decide) (fun hc3 => ?_) (fun hc3 => ?_)
      · replace hf := (if_pos hc3).symm.trans hf
        refine lv_iload_n hx hb dX0_howManyPieces_44 rfl (lv_at hl 2 rfl) ?_
        obtain rfl := Option.some.inj hf
        exact rt_i Cc hK hP hD hS dX0_howManyPieces_45
      · replace hf := (if_neg hc3).symm.trans hf
        refine lv_iload_n hx hb dX0_howManyPieces_21 rfl (lv_at hl 1 rfl) ?_
        refine lv_aload_n hx hb dX0_howManyPieces_22 rfl (lv_at hl 0 rfl) ?_
        refine lv_iload_n hx hb dX0_howManyPieces_23 rfl (lv_at hl 1 rfl) ?_
        obtain ⟨q24_1, hq4, hf⟩ := Option.bind_eq_some_iff.mp hf
        refine cSt (ws' := (W_f cI cS a_f a_f_kind a_f_wet f_kind f_wet f_wide f_rows f_cells f_sun f_all f_firstColumn f_lastColumn)) (rest := [.ref a_f, .int x1]) (st1 := [.int q24_1, .ref a_f, .int x1]) Cc hK hA hP hD hS hl.1 (ctJ6_lowestOneBit_0f7a4 l D cI cS   x1 n q24_1 hq4) ⟨tw_295, tw_293, tw_294, tw_8⟩ mdJ6_lowestOneBit_0f7a4 ⟨rfl, rfl, Nat.le_of_ble_eq_true rfl, Nat.le_of_ble_eq_true rfl⟩ rfl dX0_howManyPieces_24 rfl (Nat.le_of_ble_eq_true rfl) ⟨Nat.zero_le _, Nat.zero_le _⟩ rfl [] [0, 1, 2] [0, 1, 2] rfl rfl (by decide) rfl (fun H locs hP hD hS => ?_)
        refine lv_iload_n hx hb dX0_howManyPieces_27 rfl (lv_at hl 1 rfl) ?_
        obtain ⟨q28_2, hq5, hf⟩ := Option.bind_eq_some_iff.mp hf
        refine cV (ws' := (W_f cI cS a_f a_f_kind a_f_wet f_kind f_wet f_wide f_rows f_cells f_sun f_all f_firstColumn f_lastColumn)) (rest := [.int x1]) (st1 := [.int q28_2, .int x1]) Cc hK hA hP hD hS hl.1 (ctX0_hanging l D cI cS a_f a_f_kind a_f_wet f_kind f_wet f_wide f_rows f_cells f_sun f_all f_firstColumn f_lastColumn q24_1 x1 n q28_2 hq5) ⟨tw_234, tw_287, tw_232, tw_233, tw_2⟩ mdX0_hanging ⟨rfl, rfl, Nat.le_of_ble_eq_true rfl, Nat.le_of_ble_eq_true rfl⟩ rfl dX0_howManyPieces_28 rfl (Nat.le_of_ble_eq_true rfl) ⟨Nat.zero_le _, Nat.zero_le _⟩ rfl rfl rfl [0, 1, 2] [] [0, 1, 2] rfl rfl (by decide) rfl (fun H locs hP hD hS => ?_)
        refine lv_iconst (v := (-1 : Int32)) hx hb dX0_howManyPieces_31 (by decide) ?_
        refine lv_ixor hx hb dX0_howManyPieces_32 ?_
        refine lv_iand hx hb dX0_howManyPieces_33 ?_
        refine lv_istore_n (lv' := [(1, .int (x1 &&& (q28_2 ^^^ (-1 : Int32)))), (0, .ref a_f), (2, .int x2), (3, .int x3)]) hx hb dX0_howManyPieces_34 rfl hl (by decide) rfl (fun ls hl => ?_)
        refine lv_iinc (v := (x2 + 1)) (lv' := [(2, .int (x2 + 1)), (1, .int (x1 &&& (q28_2 ^^^ (-1 : Int32)))), (0, .ref a_f), (3, .int x3)]) hx hb dX0_howManyPieces_35 hl (k := 2) rfl rfl (by decide) rfl (fun ls hl => ?_)
        refine lv_iinc (v := (x3 + 1)) (lv' := [(3, .int (x3 + 1)), (2, .int (x2 + 1)), (1, .int (x1 &&& (q28_2 ^^^ (-1 : Int32)))), (0, .ref a_f)]) hx hb dX0_howManyPieces_38 hl (k := 3) rfl rfl (by decide) rfl (fun ls hl => ?_)
        refine lv_goto (tgt := 9) hx hb dX0_howManyPieces_41 (by decide) ?_
        exact ih _ _ _ _ _ _ _ _ _ _ hf _ _ _ hP hD hS (lv_sub hl [3, 2, 1, 0] rfl)
set_option maxHeartbeats 4000000 in
set_option maxRecDepth 100000 in
theorem ctX0_howManyPieces (l : Launch) (D : va_G) (cI cS : ClassId) (a_f a_f_kind a_f_wet : Nat) (f_kind : Nat → Int32) (f_wet : Nat → Int32) (f_wide : Int32) (f_rows : Int32) (f_cells : Int32) (f_sun : Int32) (f_all : Int32) (f_firstColumn : Int32) (f_lastColumn : Int32)  (n : Nat) (r : Int32) (hf : fX0_howManyPieces n f_wet f_wide f_cells f_all f_firstColumn f_lastColumn  = some (r)) : Ct l D (tysA cI cS) yX0_howManyPieces cX0_howManyPieces 4 (some .int) (Rm 2) [.ref a_f] (W_f cI cS a_f a_f_kind a_f_wet f_kind f_wet f_wide f_rows f_cells f_sun f_all f_firstColumn f_lastColumn) (some (.int r)) (W_f cI cS a_f a_f_kind a_f_wet f_kind f_wet f_wide f_rows f_cells f_sun f_all f_firstColumn f_lastColumn) := by
  refine Ct_of (by decide) (Nat.le_of_ble_eq_true rfl) ?_
  intro p e s m args below meth c A ls Cc hK hA hP hD hS hl
  have hl : lv_has ls 4 [(0, .ref a_f)] := hl
  obtain ⟨hx, hb, hr, hml, hown, hts, hlk, hnw⟩ := id Cc
  unfold fX0_howManyPieces at hf
  refine lv_aload_n hx hb dX0_howManyPieces_0 rfl (lv_at hl 0 rfl) ?_
  obtain ⟨q1_1, hq1, hf⟩ := Option.bind_eq_some_iff.mp hf
  refine cV (ws' := (W_f cI cS a_f a_f_kind a_f_wet f_kind f_wet f_wide f_rows f_cells f_sun f_all f_firstColumn f_lastColumn)) (rest := []) (st1 := [.int q1_1]) Cc hK hA hP hD hS hl.1 (ctX0_wetSet l D cI cS a_f a_f_kind a_f_wet f_kind f_wet f_wide f_rows f_cells f_sun f_all f_firstColumn f_lastColumn  n q1_1 hq1) ⟨tw_226, tw_292, tw_224, tw_225, tw_2⟩ mdX0_wetSet ⟨rfl, rfl, Nat.le_of_ble_eq_true rfl, Nat.le_of_ble_eq_true rfl⟩ rfl dX0_howManyPieces_1 rfl (Nat.le_of_ble_eq_true rfl) ⟨Nat.zero_le _, Nat.zero_le _⟩ rfl rfl rfl [0, 1, 2] [] [0, 1, 2] rfl rfl (by decide) rfl (fun H locs hP hD hS => ?_)
  refine lv_istore_n (lv' := [(1, .int q1_1), (0, .ref a_f)]) hx hb dX0_howManyPieces_4 rfl hl (by decide) rfl (fun ls hl => ?_)
  refine lv_iconst (v := (0 : Int32)) hx hb dX0_howManyPieces_5 (by decide) ?_
  refine lv_istore_n (lv' := [(2, .int (0 : Int32)), (1, .int q1_1), (0, .ref a_f)]) hx hb dX0_howManyPieces_6 rfl hl (by decide) rfl (fun ls hl => ?_)
  refine lv_iconst (v := (0 : Int32)) hx hb dX0_howManyPieces_7 (by decide) ?_
  refine lv_istore_n (lv' := [(3, .int (0 : Int32)), (2, .int (0 : Int32)), (1, .int q1_1), (0, .ref a_f)]) hx hb dX0_howManyPieces_8 rfl hl (by decide) rfl (fun ls hl => ?_)
  exact bX0_howManyPieces_9 a_f a_f_kind a_f_wet f_kind f_rows f_sun Cc hK hA n n _ _ _ _ _ _ _ _ _ _ hf _ _ _ hP hD hS (lv_sub hl [3, 2, 1, 0] rfl)
-- X0_greatestPiece
def fX0_greatestPiece_9 (n : Nat) : Nat → (Nat → Int32) → Int32 → Int32 → Int32 → Int32 → Int32 → Int32 → Int32 → Int32 → Option (Int32)
  | 0, _, _, _, _, _, _, _, _, _ => none
  | k + 1, f_wet, f_wide, f_cells, f_all, f_firstColumn, f_lastColumn, x1, x2, x3 => if f_cells ≤ x3 then some (x2) else if x1 = 0 then some (x2) else (fJ6_lowestOneBit_0f7a4 n x1).bind fun q23_1 => (fX0_hanging n f_wide f_cells f_all f_firstColumn f_lastColumn q23_1 x1).bind fun q27_2 => (fJ6_bitCount_0f7a4 n q27_2).bind fun q35_3 => fX0_greatestPiece_9 n k f_wet f_wide f_cells f_all f_firstColumn f_lastColumn (x1 &&& (q27_2 ^^^ (-1 : Int32))) (if x2 < q35_3 then q35_3 else x2) (x3 + 1)
def fX0_greatestPiece (n : Nat) (f_wet : Nat → Int32) (f_wide : Int32) (f_cells : Int32) (f_all : Int32) (f_firstColumn : Int32) (f_lastColumn : Int32)  : Option (Int32) := (fX0_wetSet n f_wet f_cells f_all).bind fun q1_1 => fX0_greatestPiece_9 n n f_wet f_wide f_cells f_all f_firstColumn f_lastColumn q1_1 (0 : Int32) (0 : Int32)
theorem mdX0_greatestPiece : yX0_greatestPiece.cls = RX0 ∧ yX0_greatestPiece.cls ≠ "java/lang/invoke/MethodHandle" ∧ yX0_greatestPiece.cls ≠ "java/lang/invoke/VarHandle" ∧ (parseMethodDescriptor yX0_greatestPiece.desc).map (fun d => d.parameters.length) = some 0 := by decide +kernel
set_option maxHeartbeats 4000000 in
set_option maxRecDepth 100000 in
theorem bX0_greatestPiece_9 {p : Program} {l : Launch} {e : Env} {s : State} {m : MethodId} {args : Array Value} {below : List Frame} {meth : Method} {c : Code} {A : Nat → Prop} {D : va_G} {cI cS : ClassId} (a_f a_f_kind a_f_wet : Nat) (f_kind : Nat → Int32) (f_rows : Int32) (f_sun : Int32) (Cc : Cx p s m args meth c RX0 cX0_greatestPiece 5 (some .int)) (hK : va_K D classes (tysA cI cS) s) (hA : ∀ q, s.heap.size ≤ q → A q) (n : Nat) : ∀ (k : Nat) (f_wet : Nat → Int32) (f_wide : Int32) (f_cells : Int32) (f_all : Int32) (f_firstColumn : Int32) (f_lastColumn : Int32) (x1 : Int32) (x2 : Int32) (x3 : Int32) (r : Int32), fX0_greatestPiece_9 n k f_wet f_wide f_cells f_all f_firstColumn f_lastColumn x1 x2 x3 = some (r) → ∀ (H : Heap) (locs : List Loc) (ls : Array Slot), va_P D classes (W_f cI cS a_f a_f_kind a_f_wet f_kind f_wet f_wide f_rows f_cells f_sun f_all f_firstColumn f_lastColumn) H → va_D A (W_f cI cS a_f a_f_kind a_f_wet f_kind f_wet f_wide f_rows f_cells f_sun f_all f_firstColumn f_lastColumn) → va_S A s.heap H locs → lv_has ls 5 [(0, .ref a_f), (1, .int x1), (2, .int x2), (3, .int x3)] → W p l e (Rm 2) s m args below meth c H locs 0 0 (MQ below (QW D (tysA cI cS) (some (.int r)) (W_f cI cS a_f a_f_kind a_f_wet f_kind f_wet f_wide f_rows f_cells f_sun f_all f_firstColumn f_lastColumn) A) args s 0 0 A) (F0 m 9 ls []) := by
  obtain ⟨hx, hb, hr, hml, hown, hts, hlk, hnw⟩ := id Cc
  intro k
  induction k with
  | zero =>
    intro f_wet f_wide f_cells f_all f_firstColumn f_lastColumn x1 x2 x3 r hf
    rw [fX0_greatestPiece_9] at hf
    cases hf
  | succ k ih =>
    intro f_wet f_wide f_cells f_all f_firstColumn f_lastColumn x1 x2 x3 r hf H locs ls hP hD hS hl
    rw [fX0_greatestPiece_9] at hf
    refine lv_iload_n hx hb dX0_greatestPiece_9 rfl (lv_at hl 3 rfl) ?_
    refine lv_aload_n hx hb dX0_greatestPiece_10 rfl (lv_at hl 0 rfl) ?_
    refine va_get (D := D) (ci := 0) (v := .int f_cells) (C := RX0) (T := TX0) (N := 9) hx hb hts inX0 hown hK hP 0 rfl rfl 4 (by decide) (hts _ tw_33) (fun _ h9 => h9) rfl dX0_greatestPiece_11 ?_
    refine lv_icmp_ge (tgt := 55) hx hb dX0_greatestPiece_14 (by decide) (fun hc2 => ?_) (fun hc2 => ?_)
    · replace hf := (if_pos hc2).symm.trans hf
      refine lv_iload_n hx hb dX0_greatestPiece_55 rfl (lv_at hl 2 rfl) ?_
      obtain rfl := Option.some.inj hf
      exact rt_i Cc hK hP hD hS dX0_greatestPiece_56
    · replace hf := (if_neg hc2).symm.trans hf
      refine lv_iload_n hx hb dX0_greatestPiece_17 rfl (lv_at hl 1 rfl) ?_
      refine lv_if_eq (tgt := 55) hx hb dX0_greatestPiece_18 (by decide) (fun hc3 => ?_) (fun hc3 => ?_)
      · replace hf := (if_pos hc3).symm.trans hf
        refine lv_iload_n hx hb dX0_greatestPiece_55 rfl (lv_at hl 2 rfl) ?_
        obtain rfl := Option.some.inj hf
        exact rt_i Cc hK hP hD hS dX0_greatestPiece_56
      · replace hf := (if_neg hc3).symm.trans hf
        refine lv_aload_n hx hb dX0_greatestPiece_21 rfl (lv_at hl 0 rfl) ?_
        refine lv_iload_n hx hb dX0_greatestPiece_22 rfl (lv_at hl 1 rfl) ?_
        obtain ⟨q23_1, hq4, hf⟩ := Option.bind_eq_some_iff.mp hf
        refine cSt (ws' := (W_f cI cS a_f a_f_kind a_f_wet f_kind f_wet f_wide f_rows f_cells f_sun f_all f_firstColumn f_lastColumn)) (rest := [.ref a_f]) (st1 := [.int q23_1, .ref a_f]) Cc hK hA hP hD hS hl.1 (ctJ6_lowestOneBit_0f7a4 l D cI cS   x1 n q23_1 hq4) ⟨tw_295, tw_293, tw_294, tw_8⟩ mdJ6_lowestOneBit_0f7a4 ⟨rfl, rfl, Nat.le_of_ble_eq_true rfl, Nat.le_of_ble_eq_true rfl⟩ rfl dX0_greatestPiece_23 rfl (Nat.le_of_ble_eq_true rfl) ⟨Nat.zero_le _, Nat.zero_le _⟩ rfl [] [0, 1, 2] [0, 1, 2] rfl rfl (by decide) rfl (fun H locs hP hD hS => ?_)
        refine lv_iload_n hx hb dX0_greatestPiece_26 rfl (lv_at hl 1 rfl) ?_
        obtain ⟨q27_2, hq5, hf⟩ := Option.bind_eq_some_iff.mp hf
        refine cV (ws' := (W_f cI cS a_f a_f_kind a_f_wet f_kind f_wet f_wide f_rows f_cells f_sun f_all f_firstColumn f_lastColumn)) (rest := []) (st1 := [.int q27_2]) Cc hK hA hP hD hS hl.1 (ctX0_hanging l D cI cS a_f a_f_kind a_f_wet f_kind f_wet f_wide f_rows f_cells f_sun f_all f_firstColumn f_lastColumn q23_1 x1 n q27_2 hq5) ⟨tw_234, tw_287, tw_232, tw_233, tw_2⟩ mdX0_hanging ⟨rfl, rfl, Nat.le_of_ble_eq_true rfl, Nat.le_of_ble_eq_true rfl⟩ rfl dX0_greatestPiece_27 rfl (Nat.le_of_ble_eq_true rfl) ⟨Nat.zero_le _, Nat.zero_le _⟩ rfl rfl rfl [0, 1, 2] [] [0, 1, 2] rfl rfl (by decide) rfl (fun H locs hP hD hS => ?_)
        refine lv_istore (lv' := [(4, .int q27_2), (0, .ref a_f), (1, .int x1), (2, .int x2), (3, .int x3)]) hx hb dX0_greatestPiece_30 hl (by decide) rfl (fun ls hl => ?_)
        refine lv_iload_n hx hb dX0_greatestPiece_32 rfl (lv_at hl 3 rfl) ?_
        refine lv_iload hx hb dX0_greatestPiece_33 (lv_at hl 0 rfl) ?_
        obtain ⟨q35_3, hq6, hf⟩ := Option.bind_eq_some_iff.mp hf
        refine cSt (ws' := (W_f cI cS a_f a_f_kind a_f_wet f_kind f_wet f_wide f_rows f_cells f_sun f_all f_firstColumn f_lastColumn)) (rest := [.int x2]) (st1 := [.int q35_3, .int x2]) Cc hK hA hP hD hS hl.1 (ctJ6_bitCount_0f7a4 l D cI cS   q27_2 n q35_3 hq6) ⟨tw_241, tw_300, tw_240, tw_8⟩ mdJ6_bitCount_0f7a4 ⟨rfl, rfl, Nat.le_of_ble_eq_true rfl, Nat.le_of_ble_eq_true rfl⟩ rfl dX0_greatestPiece_35 rfl (Nat.le_of_ble_eq_true rfl) ⟨Nat.zero_le _, Nat.zero_le _⟩ rfl [] [0, 1, 2] [0, 1, 2] rfl rfl (by decide) rfl (fun H locs hP hD hS => ?_)
        refine va_mmax hx hb (hml.trans hl.1.symm) hown (hts _ tw_266) (hts _ tw_267) (hts _ tw_7) (hts _ tw_268) (Nat.le_of_ble_eq_true rfl) (Nat.le_of_ble_eq_true rfl) (Nat.zero_le _) (Nat.zero_le _) dX0_greatestPiece_38 ?_
        refine lv_istore_n (lv' := [(2, .int (if x2 < q35_3 then q35_3 else x2)), (4, .int q27_2), (0, .ref a_f), (1, .int x1), (3, .int x3)]) hx hb dX0_greatestPiece_41 rfl hl (by decide) rfl (fun ls hl => ?_)
        refine lv_iload_n hx hb dX0_greatestPiece_42 rfl (lv_at hl 3 rfl) ?_
        refine lv_iload hx hb dX0_greatestPiece_43 (lv_at hl 1 rfl) ?_
        refine lv_iconst (v := (-1 : Int32)) hx hb dX0_greatestPiece_45 (by decide) ?_
        refine lv_ixor hx hb dX0_greatestPiece_46 ?_
        refine lv_iand hx hb dX0_greatestPiece_47 ?_
        refine lv_istore_n (lv' := [(1, .int (x1 &&& (q27_2 ^^^ (-1 : Int32)))), (2, .int (if x2 < q35_3 then q35_3 else x2)), (4, .int q27_2), (0, .ref a_f), (3, .int x3)]) hx hb dX0_greatestPiece_48 rfl hl (by decide) rfl (fun ls hl => ?_)
        refine lv_iinc (v := (x3 + 1)) (lv' := [(3, .int (x3 + 1)), (1, .int (x1 &&& (q27_2 ^^^ (-1 : Int32)))), (2, .int (if x2 < q35_3 then q35_3 else x2)), (4, .int q27_2), (0, .ref a_f)]) hx hb dX0_greatestPiece_49 hl (k := 4) rfl rfl (by decide) rfl (fun ls hl => ?_)
        refine lv_goto (tgt := 9) hx hb dX0_greatestPiece_52 (by decide) ?_
        exact ih _ _ _ _ _ _ _ _ _ _ hf _ _ _ hP hD hS (lv_sub hl [4, 1, 2, 0] rfl)
set_option maxHeartbeats 4000000 in
set_option maxRecDepth 100000 in
theorem ctX0_greatestPiece (l : Launch) (D : va_G) (cI cS : ClassId) (a_f a_f_kind a_f_wet : Nat) (f_kind : Nat → Int32) (f_wet : Nat → Int32) (f_wide : Int32) (f_rows : Int32) (f_cells : Int32) (f_sun : Int32) (f_all : Int32) (f_firstColumn : Int32) (f_lastColumn : Int32)  (n : Nat) (r : Int32) (hf : fX0_greatestPiece n f_wet f_wide f_cells f_all f_firstColumn f_lastColumn  = some (r)) : Ct l D (tysA cI cS) yX0_greatestPiece cX0_greatestPiece 5 (some .int) (Rm 2) [.ref a_f] (W_f cI cS a_f a_f_kind a_f_wet f_kind f_wet f_wide f_rows f_cells f_sun f_all f_firstColumn f_lastColumn) (some (.int r)) (W_f cI cS a_f a_f_kind a_f_wet f_kind f_wet f_wide f_rows f_cells f_sun f_all f_firstColumn f_lastColumn) := by
  refine Ct_of (by decide) (Nat.le_of_ble_eq_true rfl) ?_
  intro p e s m args below meth c A ls Cc hK hA hP hD hS hl
  have hl : lv_has ls 5 [(0, .ref a_f)] := hl
  obtain ⟨hx, hb, hr, hml, hown, hts, hlk, hnw⟩ := id Cc
  unfold fX0_greatestPiece at hf
  refine lv_aload_n hx hb dX0_greatestPiece_0 rfl (lv_at hl 0 rfl) ?_
  obtain ⟨q1_1, hq1, hf⟩ := Option.bind_eq_some_iff.mp hf
  refine cV (ws' := (W_f cI cS a_f a_f_kind a_f_wet f_kind f_wet f_wide f_rows f_cells f_sun f_all f_firstColumn f_lastColumn)) (rest := []) (st1 := [.int q1_1]) Cc hK hA hP hD hS hl.1 (ctX0_wetSet l D cI cS a_f a_f_kind a_f_wet f_kind f_wet f_wide f_rows f_cells f_sun f_all f_firstColumn f_lastColumn  n q1_1 hq1) ⟨tw_226, tw_292, tw_224, tw_225, tw_2⟩ mdX0_wetSet ⟨rfl, rfl, Nat.le_of_ble_eq_true rfl, Nat.le_of_ble_eq_true rfl⟩ rfl dX0_greatestPiece_1 rfl (Nat.le_of_ble_eq_true rfl) ⟨Nat.zero_le _, Nat.zero_le _⟩ rfl rfl rfl [0, 1, 2] [] [0, 1, 2] rfl rfl (by decide) rfl (fun H locs hP hD hS => ?_)
  refine lv_istore_n (lv' := [(1, .int q1_1), (0, .ref a_f)]) hx hb dX0_greatestPiece_4 rfl hl (by decide) rfl (fun ls hl => ?_)
  refine lv_iconst (v := (0 : Int32)) hx hb dX0_greatestPiece_5 (by decide) ?_
  refine lv_istore_n (lv' := [(2, .int (0 : Int32)), (1, .int q1_1), (0, .ref a_f)]) hx hb dX0_greatestPiece_6 rfl hl (by decide) rfl (fun ls hl => ?_)
  refine lv_iconst (v := (0 : Int32)) hx hb dX0_greatestPiece_7 (by decide) ?_
  refine lv_istore_n (lv' := [(3, .int (0 : Int32)), (2, .int (0 : Int32)), (1, .int q1_1), (0, .ref a_f)]) hx hb dX0_greatestPiece_8 rfl hl (by decide) rfl (fun ls hl => ?_)
  exact bX0_greatestPiece_9 a_f a_f_kind a_f_wet f_kind f_rows f_sun Cc hK hA n n _ _ _ _ _ _ _ _ _ _ hf _ _ _ hP hD hS (lv_sub hl [3, 2, 1, 0] rfl)
-- X0_fewestBars
def fX0_fewestBars_8 (n : Nat) : Nat → Int32 → Int32 → Int32 → Int32 → Int32 → Int32 → Int32 → Int32 → Int32 → Option (Int32)
  | 0, _, _, _, _, _, _, _, _, _ => none
  | k + 1, f_wide, f_cells, f_all, f_firstColumn, f_lastColumn, x1, x2, x3, x4 => if f_all < x4 then some (x2) else if (x4 &&& (x1 ^^^ (-1 : Int32))) = 0 then (fJ6_bitCount_0f7a4 n x4).bind fun q28_1 => if x3 ≤ q28_1 then fX0_fewestBars_8 n k f_wide f_cells f_all f_firstColumn f_lastColumn x1 x2 x3 (x4 + 1) else (fX0_isOpenBy n f_wide f_cells f_all f_firstColumn f_lastColumn (x1 &&& (x4 ^^^ (-1 : Int32)))).bind fun q54_1 => if q54_1 = 0 then (fJ6_bitCount_0f7a4 n x4).bind fun q65_1 => fX0_fewestBars_8 n k f_wide f_cells f_all f_firstColumn f_lastColumn x1 x4 q65_1 (x4 + 1) else fX0_fewestBars_8 n k f_wide f_cells f_all f_firstColumn f_lastColumn x1 x2 x3 (x4 + 1) else fX0_fewestBars_8 n k f_wide f_cells f_all f_firstColumn f_lastColumn x1 x2 x3 (x4 + 1)
def fX0_fewestBars (n : Nat) (f_wide : Int32) (f_cells : Int32) (f_all : Int32) (f_firstColumn : Int32) (f_lastColumn : Int32) (p1 : Int32) : Option (Int32) := fX0_fewestBars_8 n n f_wide f_cells f_all f_firstColumn f_lastColumn p1 (0 : Int32) (13 : Int32) (0 : Int32)
theorem mdX0_fewestBars : yX0_fewestBars.cls = RX0 ∧ yX0_fewestBars.cls ≠ "java/lang/invoke/MethodHandle" ∧ yX0_fewestBars.cls ≠ "java/lang/invoke/VarHandle" ∧ (parseMethodDescriptor yX0_fewestBars.desc).map (fun d => d.parameters.length) = some 1 := by decide +kernel
set_option maxHeartbeats 4000000 in
set_option maxRecDepth 100000 in
theorem bX0_fewestBars_8 {p : Program} {l : Launch} {e : Env} {s : State} {m : MethodId} {args : Array Value} {below : List Frame} {meth : Method} {c : Code} {A : Nat → Prop} {D : va_G} {cI cS : ClassId} (a_f a_f_kind a_f_wet : Nat) (f_kind : Nat → Int32) (f_wet : Nat → Int32) (f_rows : Int32) (f_sun : Int32) (Cc : Cx p s m args meth c RX0 cX0_fewestBars 6 (some .int)) (hK : va_K D classes (tysA cI cS) s) (hA : ∀ q, s.heap.size ≤ q → A q) (n : Nat) : ∀ (k : Nat) (f_wide : Int32) (f_cells : Int32) (f_all : Int32) (f_firstColumn : Int32) (f_lastColumn : Int32) (x1 : Int32) (x2 : Int32) (x3 : Int32) (x4 : Int32) (r : Int32), fX0_fewestBars_8 n k f_wide f_cells f_all f_firstColumn f_lastColumn x1 x2 x3 x4 = some (r) → ∀ (H : Heap) (locs : List Loc) (ls : Array Slot), va_P D classes (W_f cI cS a_f a_f_kind a_f_wet f_kind f_wet f_wide f_rows f_cells f_sun f_all f_firstColumn f_lastColumn) H → va_D A (W_f cI cS a_f a_f_kind a_f_wet f_kind f_wet f_wide f_rows f_cells f_sun f_all f_firstColumn f_lastColumn) → va_S A s.heap H locs → lv_has ls 6 [(0, .ref a_f), (1, .int x1), (2, .int x2), (3, .int x3), (4, .int x4)] → W p l e (Rm 3) s m args below meth c H locs 0 0 (MQ below (QW D (tysA cI cS) (some (.int r)) (W_f cI cS a_f a_f_kind a_f_wet f_kind f_wet f_wide f_rows f_cells f_sun f_all f_firstColumn f_lastColumn) A) args s 0 0 A) (F0 m 8 ls []) := by
  obtain ⟨hx, hb, hr, hml, hown, hts, hlk, hnw⟩ := id Cc
  intro k
  induction k with
  | zero =>
    intro f_wide f_cells f_all f_firstColumn f_lastColumn x1 x2 x3 x4 r hf
    rw [fX0_fewestBars_8] at hf
    cases hf
  | succ k ih =>
    intro f_wide f_cells f_all f_firstColumn f_lastColumn x1 x2 x3 x4 r hf H locs ls hP hD hS hl
    rw [fX0_fewestBars_8] at hf
    refine lv_iload hx hb dX0_fewestBars_8 (lv_at hl 4 rfl) ?_
    refine lv_aload_n hx hb dX0_fewestBars_10 rfl (lv_at hl 0 rfl) ?_
    refine va_get (D := D) (ci := 0) (v := .int f_all) (C := RX0) (T := TX0) (N := 9) hx hb hts inX0 hown hK hP 0 rfl rfl 6 (by decide) (hts _ tw_38) (fun _ h9 => h9) rfl dX0_fewestBars_11 ?_
    refine lv_icmp_gt (tgt := 75) hx hb dX0_fewestBars_14 (by decide) (fun hc1 => ?_) (fun hc1 => ?_)
    · replace hf := (if_pos hc1).symm.trans hf
      refine lv_iload_n hx hb dX0_fewestBars_75 rfl (lv_at hl 2 rfl) ?_
      obtain rfl := Option.some.inj hf
      exact rt_i Cc hK hP hD hS dX0_fewestBars_76
    · replace hf := (if_neg hc1).symm.trans hf
      refine lv_iload hx hb dX0_fewestBars_17 (lv_at hl 4 rfl) ?_
      refine lv_iload_n hx hb dX0_fewestBars_19 rfl (lv_at hl 1 rfl) ?_
      refine lv_iconst (v := (-1 : Int32)) hx hb dX0_fewestBars_20 (by decide) ?_
      refine lv_ixor hx hb dX0_fewestBars_21 ?_
      refine lv_iand hx hb dX0_fewestBars_22 ?_
      refine lv_if_ne (tgt := 39) hx hb dX0_fewestBars_23 (by decide) (fun hc2 => ?_) (fun hc2 => ?_)
      · replace hf := (if_neg hc2).symm.trans hf
        refine lv_iconst (v := (0 : Int32)) hx hb dX0_fewestBars_39 (by decide) ?_
        refine lv_istore (lv' := [(5, .int (0 : Int32)), (0, .ref a_f), (1, .int x1), (2, .int x2), (3, .int x3), (4, .int x4)]) hx hb dX0_fewestBars_40 hl (by decide) rfl (fun ls hl => ?_)
        refine lv_iload hx hb dX0_fewestBars_42 (lv_at hl 0 rfl) ?_
        refine lv_if_eq (tgt := 69) hx hb dX0_fewestBars_44 (by decide) (fun _ => ?_) (fun hc => absurd hc (by decide))
        refine lv_iinc (v := (x4 + 1)) (lv' := [(4, .int (x4 + 1)), (5, .int (0 : Int32)), (0, .ref a_f), (1, .int x1), (2, .int x2), (3, .int x3)]) hx hb dX0_fewestBars_69 hl (k := 5) rfl rfl (by decide) rfl (fun ls hl => ?_)
        refine lv_goto (tgt := 8) hx hb dX0_fewestBars_72 (by decide) ?_
        exact ih _ _ _ _ _ _ _ _ _ _ hf _ _ _ hP hD hS (lv_sub hl [2, 3, 4, 5, 0] rfl)
      · replace hf := (if_pos hc2).symm.trans hf
        refine lv_iload hx hb dX0_fewestBars_26 (lv_at hl 4 rfl) ?_
        obtain ⟨q28_1, hq3, hf⟩ := Option.bind_eq_some_iff.mp hf
        refine cSt (ws' := (W_f cI cS a_f a_f_kind a_f_wet f_kind f_wet f_wide f_rows f_cells f_sun f_all f_firstColumn f_lastColumn)) (rest := []) (st1 := [.int q28_1]) Cc hK hA hP hD hS hl.1 (ctJ6_bitCount_0f7a4 l D cI cS   x4 n q28_1 hq3) ⟨tw_241, tw_300, tw_240, tw_8⟩ mdJ6_bitCount_0f7a4 ⟨rfl, rfl, Nat.le_of_ble_eq_true rfl, Nat.le_of_ble_eq_true rfl⟩ rfl dX0_fewestBars_28 rfl (Nat.le_of_ble_eq_true rfl) ⟨Nat.zero_le _, Nat.zero_le _⟩ rfl [] [0, 1, 2] [0, 1, 2] rfl rfl (by decide) rfl (fun H locs hP hD hS => ?_)
        refine lv_iload_n hx hb dX0_fewestBars_31 rfl (lv_at hl 3 rfl) ?_
        refine lv_icmp_ge (tgt := 39) hx hb dX0_fewestBars_32 (by decide) (fun hc4 => ?_) (fun hc4 => ?_)
        · replace hf := (if_pos hc4).symm.trans hf
          refine lv_iconst (v := (0 : Int32)) hx hb dX0_fewestBars_39 (by decide) ?_
          refine lv_istore (lv' := [(5, .int (0 : Int32)), (0, .ref a_f), (1, .int x1), (2, .int x2), (3, .int x3), (4, .int x4)]) hx hb dX0_fewestBars_40 hl (by decide) rfl (fun ls hl => ?_)
          refine lv_iload hx hb dX0_fewestBars_42 (lv_at hl 0 rfl) ?_
          refine lv_if_eq (tgt := 69) hx hb dX0_fewestBars_44 (by decide) (fun _ => ?_) (fun hc => absurd hc (by decide))
          refine lv_iinc (v := (x4 + 1)) (lv' := [(4, .int (x4 + 1)), (5, .int (0 : Int32)), (0, .ref a_f), (1, .int x1), (2, .int x2), (3, .int x3)]) hx hb dX0_fewestBars_69 hl (k := 5) rfl rfl (by decide) rfl (fun ls hl => ?_)
          refine lv_goto (tgt := 8) hx hb dX0_fewestBars_72 (by decide) ?_
          exact ih _ _ _ _ _ _ _ _ _ _ hf _ _ _ hP hD hS (lv_sub hl [2, 3, 4, 5, 0] rfl)
        · replace hf := (if_neg hc4).symm.trans hf
          refine lv_iconst (v := (1 : Int32)) hx hb dX0_fewestBars_35 (by decide) ?_
          refine lv_goto (tgt := 40) hx hb dX0_fewestBars_36 (by decide) ?_
          refine lv_istore (lv' := [(5, .int (1 : Int32)), (0, .ref a_f), (1, .int x1), (2, .int x2), (3, .int x3), (4, .int x4)]) hx hb dX0_fewestBars_40 hl (by decide) rfl (fun ls hl => ?_)
          refine lv_iload hx hb dX0_fewestBars_42 (lv_at hl 0 rfl) ?_
          refine lv_if_eq (tgt := 69) hx hb dX0_fewestBars_44 (by decide) (fun hc => absurd hc (by decide)) (fun _ => ?_)
          refine lv_aload_n hx hb dX0_fewestBars_47 rfl (lv_at hl 1 rfl) ?_
          refine lv_iload_n hx hb dX0_fewestBars_48 rfl (lv_at hl 2 rfl) ?_
          refine lv_iload hx hb dX0_fewestBars_49 (lv_at hl 5 rfl) ?_
          refine lv_iconst (v := (-1 : Int32)) hx hb dX0_fewestBars_51 (by decide) ?_
          refine lv_ixor hx hb dX0_fewestBars_52 ?_
          refine lv_iand hx hb dX0_fewestBars_53 ?_
          obtain ⟨q54_1, hq5, hf⟩ := Option.bind_eq_some_iff.mp hf
          refine cV (ws' := (W_f cI cS a_f a_f_kind a_f_wet f_kind f_wet f_wide f_rows f_cells f_sun f_all f_firstColumn f_lastColumn)) (rest := []) (st1 := [.int q54_1]) Cc hK hA hP hD hS hl.1 (ctX0_isOpenBy l D cI cS a_f a_f_kind a_f_wet f_kind f_wet f_wide f_rows f_cells f_sun f_all f_firstColumn f_lastColumn (x1 &&& (x4 ^^^ (-1 : Int32))) n q54_1 hq5) ⟨tw_286, tw_372, tw_284, tw_285, tw_2⟩ mdX0_isOpenBy ⟨rfl, rfl, Nat.le_of_ble_eq_true rfl, Nat.le_of_ble_eq_true rfl⟩ rfl dX0_fewestBars_54 rfl (Nat.le_of_ble_eq_true rfl) ⟨Nat.zero_le _, Nat.zero_le _⟩ rfl rfl rfl [0, 1, 2] [] [0, 1, 2] rfl rfl (by decide) rfl (fun H locs hP hD hS => ?_)
          refine lv_if_ne (tgt := 69) hx hb dX0_fewestBars_57 (by decide) (fun hc6 => ?_) (fun hc6 => ?_)
          · replace hf := (if_neg hc6).symm.trans hf
            refine lv_iinc (v := (x4 + 1)) (lv' := [(4, .int (x4 + 1)), (5, .int (1 : Int32)), (0, .ref a_f), (1, .int x1), (2, .int x2), (3, .int x3)]) hx hb dX0_fewestBars_69 hl (k := 5) rfl rfl (by decide) rfl (fun ls hl => ?_)
            refine lv_goto (tgt := 8) hx hb dX0_fewestBars_72 (by decide) ?_
            exact ih _ _ _ _ _ _ _ _ _ _ hf _ _ _ hP hD hS (lv_sub hl [2, 3, 4, 5, 0] rfl)
          · replace hf := (if_pos hc6).symm.trans hf
            refine lv_iload hx hb dX0_fewestBars_60 (lv_at hl 5 rfl) ?_
            refine lv_istore_n (lv' := [(2, .int x4), (5, .int (1 : Int32)), (0, .ref a_f), (1, .int x1), (3, .int x3), (4, .int x4)]) hx hb dX0_fewestBars_62 rfl hl (by decide) rfl (fun ls hl => ?_)
            refine lv_iload hx hb dX0_fewestBars_63 (lv_at hl 5 rfl) ?_
            obtain ⟨q65_1, hq7, hf⟩ := Option.bind_eq_some_iff.mp hf
            refine cSt (ws' := (W_f cI cS a_f a_f_kind a_f_wet f_kind f_wet f_wide f_rows f_cells f_sun f_all f_firstColumn f_lastColumn)) (rest := []) (st1 := [.int q65_1]) Cc hK hA hP hD hS hl.1 (ctJ6_bitCount_0f7a4 l D cI cS   x4 n q65_1 hq7) ⟨tw_241, tw_300, tw_240, tw_8⟩ mdJ6_bitCount_0f7a4 ⟨rfl, rfl, Nat.le_of_ble_eq_true rfl, Nat.le_of_ble_eq_true rfl⟩ rfl dX0_fewestBars_65 rfl (Nat.le_of_ble_eq_true rfl) ⟨Nat.zero_le _, Nat.zero_le _⟩ rfl [] [0, 1, 2] [0, 1, 2] rfl rfl (by decide) rfl (fun H locs hP hD hS => ?_)
            refine lv_istore_n (lv' := [(3, .int q65_1), (2, .int x4), (5, .int (1 : Int32)), (0, .ref a_f), (1, .int x1), (4, .int x4)]) hx hb dX0_fewestBars_68 rfl hl (by decide) rfl (fun ls hl => ?_)
            refine lv_iinc (v := (x4 + 1)) (lv' := [(4, .int (x4 + 1)), (3, .int q65_1), (2, .int x4), (5, .int (1 : Int32)), (0, .ref a_f), (1, .int x1)]) hx hb dX0_fewestBars_69 hl (k := 5) rfl rfl (by decide) rfl (fun ls hl => ?_)
            refine lv_goto (tgt := 8) hx hb dX0_fewestBars_72 (by decide) ?_
            exact ih _ _ _ _ _ _ _ _ _ _ hf _ _ _ hP hD hS (lv_sub hl [4, 5, 2, 1, 0] rfl)
set_option maxHeartbeats 4000000 in
set_option maxRecDepth 100000 in
theorem ctX0_fewestBars (l : Launch) (D : va_G) (cI cS : ClassId) (a_f a_f_kind a_f_wet : Nat) (f_kind : Nat → Int32) (f_wet : Nat → Int32) (f_wide : Int32) (f_rows : Int32) (f_cells : Int32) (f_sun : Int32) (f_all : Int32) (f_firstColumn : Int32) (f_lastColumn : Int32) (p1 : Int32) (n : Nat) (r : Int32) (hf : fX0_fewestBars n f_wide f_cells f_all f_firstColumn f_lastColumn p1 = some (r)) : Ct l D (tysA cI cS) yX0_fewestBars cX0_fewestBars 6 (some .int) (Rm 3) [.ref a_f, .int p1] (W_f cI cS a_f a_f_kind a_f_wet f_kind f_wet f_wide f_rows f_cells f_sun f_all f_firstColumn f_lastColumn) (some (.int r)) (W_f cI cS a_f a_f_kind a_f_wet f_kind f_wet f_wide f_rows f_cells f_sun f_all f_firstColumn f_lastColumn) := by
  refine Ct_of (by decide) (Nat.le_of_ble_eq_true rfl) ?_
  intro p e s m args below meth c A ls Cc hK hA hP hD hS hl
  have hl : lv_has ls 6 [(0, .ref a_f), (1, .int p1)] := hl
  obtain ⟨hx, hb, hr, hml, hown, hts, hlk, hnw⟩ := id Cc
  unfold fX0_fewestBars at hf
  refine lv_iconst (v := (0 : Int32)) hx hb dX0_fewestBars_0 (by decide) ?_
  refine lv_istore_n (lv' := [(2, .int (0 : Int32)), (0, .ref a_f), (1, .int p1)]) hx hb dX0_fewestBars_1 rfl hl (by decide) rfl (fun ls hl => ?_)
  refine lv_bipush (v := (13 : Int32)) hx hb dX0_fewestBars_2 (by decide) ?_
  refine lv_istore_n (lv' := [(3, .int (13 : Int32)), (2, .int (0 : Int32)), (0, .ref a_f), (1, .int p1)]) hx hb dX0_fewestBars_4 rfl hl (by decide) rfl (fun ls hl => ?_)
  refine lv_iconst (v := (0 : Int32)) hx hb dX0_fewestBars_5 (by decide) ?_
  refine lv_istore (lv' := [(4, .int (0 : Int32)), (3, .int (13 : Int32)), (2, .int (0 : Int32)), (0, .ref a_f), (1, .int p1)]) hx hb dX0_fewestBars_6 hl (by decide) rfl (fun ls hl => ?_)
  exact bX0_fewestBars_8 a_f a_f_kind a_f_wet f_kind f_wet f_rows f_sun Cc hK hA n n _ _ _ _ _ _ _ _ _ _ hf _ _ _ hP hD hS (lv_sub hl [3, 4, 2, 1, 0] rfl)
-- X0_openWays
def fX0_openWays_23 (n : Nat) : Nat → (Nat → Int32) → Int32 → Int32 → Int32 → Int32 → Int32 → Int32 → Int32 → Int32 → Int32 → Int32 → Option (Int32)
  | 0, _, _, _, _, _, _, _, _, _, _, _ => none
  | k + 1, f_wet, f_wide, f_cells, f_all, f_firstColumn, f_lastColumn, x1, x2, x3, x4, x5 => if x5 ≤ 0 then some (x3) else (fX0_isOpenBy n f_wide f_cells f_all f_firstColumn f_lastColumn (x1 ||| x4)).bind fun q33_1 => if q33_1 = 0 then fX0_openWays_23 n k f_wet f_wide f_cells f_all f_firstColumn f_lastColumn x1 x2 x3 ((x4 - (1 : Int32)) &&& x2) (x5 + (-1)) else fX0_openWays_23 n k f_wet f_wide f_cells f_all f_firstColumn f_lastColumn x1 x2 (x3 + 1) ((x4 - (1 : Int32)) &&& x2) (x5 + (-1))
def fX0_openWays (n : Nat) (f_wet : Nat → Int32) (f_wide : Int32) (f_cells : Int32) (f_all : Int32) (f_firstColumn : Int32) (f_lastColumn : Int32)  : Option (Int32) := (fX0_crackedSet n f_wet f_cells).bind fun q1_1 => (fX0_wetSet n f_wet f_cells f_all).bind fun q6_2 => (fJ6_bitCount_0f7a4 n q6_2).bind fun q17_3 => fX0_openWays_23 n n f_wet f_wide f_cells f_all f_firstColumn f_lastColumn q1_1 q6_2 (0 : Int32) q6_2 ((1 : Int32) <<< (q17_3 &&& 31))
theorem mdX0_openWays : yX0_openWays.cls = RX0 ∧ yX0_openWays.cls ≠ "java/lang/invoke/MethodHandle" ∧ yX0_openWays.cls ≠ "java/lang/invoke/VarHandle" ∧ (parseMethodDescriptor yX0_openWays.desc).map (fun d => d.parameters.length) = some 0 := by decide +kernel
set_option maxHeartbeats 4000000 in
set_option maxRecDepth 100000 in
theorem bX0_openWays_23 {p : Program} {l : Launch} {e : Env} {s : State} {m : MethodId} {args : Array Value} {below : List Frame} {meth : Method} {c : Code} {A : Nat → Prop} {D : va_G} {cI cS : ClassId} (a_f a_f_kind a_f_wet : Nat) (f_kind : Nat → Int32) (f_rows : Int32) (f_sun : Int32) (Cc : Cx p s m args meth c RX0 cX0_openWays 6 (some .int)) (hK : va_K D classes (tysA cI cS) s) (hA : ∀ q, s.heap.size ≤ q → A q) (n : Nat) : ∀ (k : Nat) (f_wet : Nat → Int32) (f_wide : Int32) (f_cells : Int32) (f_all : Int32) (f_firstColumn : Int32) (f_lastColumn : Int32) (x1 : Int32) (x2 : Int32) (x3 : Int32) (x4 : Int32) (x5 : Int32) (r : Int32), fX0_openWays_23 n k f_wet f_wide f_cells f_all f_firstColumn f_lastColumn x1 x2 x3 x4 x5 = some (r) → ∀ (H : Heap) (locs : List Loc) (ls : Array Slot), va_P D classes (W_f cI cS a_f a_f_kind a_f_wet f_kind f_wet f_wide f_rows f_cells f_sun f_all f_firstColumn f_lastColumn) H → va_D A (W_f cI cS a_f a_f_kind a_f_wet f_kind f_wet f_wide f_rows f_cells f_sun f_all f_firstColumn f_lastColumn) → va_S A s.heap H locs → lv_has ls 6 [(0, .ref a_f), (1, .int x1), (2, .int x2), (3, .int x3), (4, .int x4), (5, .int x5)] → W p l e (Rm 3) s m args below meth c H locs 0 0 (MQ below (QW D (tysA cI cS) (some (.int r)) (W_f cI cS a_f a_f_kind a_f_wet f_kind f_wet f_wide f_rows f_cells f_sun f_all f_firstColumn f_lastColumn) A) args s 0 0 A) (F0 m 23 ls []) := by
  obtain ⟨hx, hb, hr, hml, hown, hts, hlk, hnw⟩ := id Cc
  intro k
  induction k with
  | zero =>
    intro f_wet f_wide f_cells f_all f_firstColumn f_lastColumn x1 x2 x3 x4 x5 r hf
    rw [fX0_openWays_23] at hf
    cases hf
  | succ k ih =>
    intro f_wet f_wide f_cells f_all f_firstColumn f_lastColumn x1 x2 x3 x4 x5 r hf H locs ls hP hD hS hl
    rw [fX0_openWays_23] at hf
    refine lv_iload hx hb dX0_openWays_23 (lv_at hl 5 rfl) ?_
    refine lv_if_le (tgt := 56) hx hb dX0_openWays_25 (by decide) (fun hc4 => ?_) (fun hc4 => ?_)
    · replace hf := (if_pos hc4).symm.trans hf
      refine lv_iload_n hx hb dX0_openWays_56 rfl (lv_at hl 3 rfl) ?_
      obtain rfl := Option.some.inj hf
      exact rt_i Cc hK hP hD hS dX0_openWays_57
    · replace hf := (if_neg hc4).symm.trans hf
      refine lv_aload_n hx hb dX0_openWays_28 rfl (lv_at hl 0 rfl) ?_
      refine lv_iload_n hx hb dX0_openWays_29 rfl (lv_at hl 1 rfl) ?_
      refine lv_iload hx hb dX0_openWays_30 (lv_at hl 4 rfl) ?_
      refine lv_ior hx hb dX0_openWays_32 ?_
      obtain ⟨q33_1, hq5, hf⟩ := Option.bind_eq_some_iff.mp hf
      refine cV (ws' := (W_f cI cS a_f a_f_kind a_f_wet f_kind f_wet f_wide f_rows f_cells f_sun f_all f_firstColumn f_lastColumn)) (rest := []) (st1 := [.int q33_1]) Cc hK hA hP hD hS hl.1 (ctX0_isOpenBy l D cI cS a_f a_f_kind a_f_wet f_kind f_wet f_wide f_rows f_cells f_sun f_all f_firstColumn f_lastColumn (x1 ||| x4) n q33_1 hq5) ⟨tw_286, tw_372, tw_284, tw_285, tw_2⟩ mdX0_isOpenBy ⟨rfl, rfl, Nat.le_of_ble_eq_true rfl, Nat.le_of_ble_eq_true rfl⟩ rfl dX0_openWays_33 rfl (Nat.le_of_ble_eq_true rfl) ⟨Nat.zero_le _, Nat.zero_le _⟩ rfl rfl rfl [0, 1, 2] [] [0, 1, 2] rfl rfl (by decide) rfl (fun H locs hP hD hS => ?_)
      refine lv_if_eq (tgt := 42) hx hb dX0_openWays_36 (by decide) (fun hc6 => ?_) (fun hc6 => ?_)
      · replace hf := (if_pos hc6).symm.trans hf
        refine lv_iload hx hb dX0_openWays_42 (lv_at hl 4 rfl) ?_
        refine lv_iconst (v := (1 : Int32)) hx hb dX0_openWays_44 (by decide) ?_
        refine lv_isub hx hb dX0_openWays_45 ?_
        refine lv_iload_n hx hb dX0_openWays_46 rfl (lv_at hl 2 rfl) ?_
        refine lv_iand hx hb dX0_openWays_47 ?_
        refine lv_istore (lv' := [(4, .int ((x4 - (1 : Int32)) &&& x2)), (0, .ref a_f), (1, .int x1), (2, .int x2), (3, .int x3), (5, .int x5)]) hx hb dX0_openWays_48 hl (by decide) rfl (fun ls hl => ?_)
        refine lv_iinc (v := (x5 + (-1))) (lv' := [(5, .int (x5 + (-1))), (4, .int ((x4 - (1 : Int32)) &&& x2)), (0, .ref a_f), (1, .int x1), (2, .int x2), (3, .int x3)]) hx hb dX0_openWays_50 hl (k := 5) rfl rfl (by decide) rfl (fun ls hl => ?_)
        refine lv_goto (tgt := 23) hx hb dX0_openWays_53 (by decide) ?_
        exact ih _ _ _ _ _ _ _ _ _ _ _ _ hf _ _ _ hP hD hS (lv_sub hl [2, 3, 4, 5, 1, 0] rfl)
      · replace hf := (if_neg hc6).symm.trans hf
        refine lv_iinc (v := (x3 + 1)) (lv' := [(3, .int (x3 + 1)), (0, .ref a_f), (1, .int x1), (2, .int x2), (4, .int x4), (5, .int x5)]) hx hb dX0_openWays_39 hl (k := 3) rfl rfl (by decide) rfl (fun ls hl => ?_)
        refine lv_iload hx hb dX0_openWays_42 (lv_at hl 4 rfl) ?_
        refine lv_iconst (v := (1 : Int32)) hx hb dX0_openWays_44 (by decide) ?_
        refine lv_isub hx hb dX0_openWays_45 ?_
        refine lv_iload_n hx hb dX0_openWays_46 rfl (lv_at hl 3 rfl) ?_
        refine lv_iand hx hb dX0_openWays_47 ?_
        refine lv_istore (lv' := [(4, .int ((x4 - (1 : Int32)) &&& x2)), (3, .int (x3 + 1)), (0, .ref a_f), (1, .int x1), (2, .int x2), (5, .int x5)]) hx hb dX0_openWays_48 hl (by decide) rfl (fun ls hl => ?_)
        refine lv_iinc (v := (x5 + (-1))) (lv' := [(5, .int (x5 + (-1))), (4, .int ((x4 - (1 : Int32)) &&& x2)), (3, .int (x3 + 1)), (0, .ref a_f), (1, .int x1), (2, .int x2)]) hx hb dX0_openWays_50 hl (k := 5) rfl rfl (by decide) rfl (fun ls hl => ?_)
        refine lv_goto (tgt := 23) hx hb dX0_openWays_53 (by decide) ?_
        exact ih _ _ _ _ _ _ _ _ _ _ _ _ hf _ _ _ hP hD hS (lv_sub hl [3, 4, 5, 2, 1, 0] rfl)
set_option maxHeartbeats 4000000 in
set_option maxRecDepth 100000 in
theorem ctX0_openWays (l : Launch) (D : va_G) (cI cS : ClassId) (a_f a_f_kind a_f_wet : Nat) (f_kind : Nat → Int32) (f_wet : Nat → Int32) (f_wide : Int32) (f_rows : Int32) (f_cells : Int32) (f_sun : Int32) (f_all : Int32) (f_firstColumn : Int32) (f_lastColumn : Int32)  (n : Nat) (r : Int32) (hf : fX0_openWays n f_wet f_wide f_cells f_all f_firstColumn f_lastColumn  = some (r)) : Ct l D (tysA cI cS) yX0_openWays cX0_openWays 6 (some .int) (Rm 3) [.ref a_f] (W_f cI cS a_f a_f_kind a_f_wet f_kind f_wet f_wide f_rows f_cells f_sun f_all f_firstColumn f_lastColumn) (some (.int r)) (W_f cI cS a_f a_f_kind a_f_wet f_kind f_wet f_wide f_rows f_cells f_sun f_all f_firstColumn f_lastColumn) := by
  refine Ct_of (by decide) (Nat.le_of_ble_eq_true rfl) ?_
  intro p e s m args below meth c A ls Cc hK hA hP hD hS hl
  have hl : lv_has ls 6 [(0, .ref a_f)] := hl
  obtain ⟨hx, hb, hr, hml, hown, hts, hlk, hnw⟩ := id Cc
  unfold fX0_openWays at hf
  refine lv_aload_n hx hb dX0_openWays_0 rfl (lv_at hl 0 rfl) ?_
  obtain ⟨q1_1, hq1, hf⟩ := Option.bind_eq_some_iff.mp hf
  refine cV (ws' := (W_f cI cS a_f a_f_kind a_f_wet f_kind f_wet f_wide f_rows f_cells f_sun f_all f_firstColumn f_lastColumn)) (rest := []) (st1 := [.int q1_1]) Cc hK hA hP hD hS hl.1 (ctX0_crackedSet l D cI cS a_f a_f_kind a_f_wet f_kind f_wet f_wide f_rows f_cells f_sun f_all f_firstColumn f_lastColumn  n q1_1 hq1) ⟨tw_230, tw_227, tw_228, tw_229, tw_2⟩ mdX0_crackedSet ⟨rfl, rfl, Nat.le_of_ble_eq_true rfl, Nat.le_of_ble_eq_true rfl⟩ rfl dX0_openWays_1 rfl (Nat.le_of_ble_eq_true rfl) ⟨Nat.zero_le _, Nat.zero_le _⟩ rfl rfl rfl [0, 1, 2] [] [0, 1, 2] rfl rfl (by decide) rfl (fun H locs hP hD hS => ?_)
  refine lv_istore_n (lv' := [(1, .int q1_1), (0, .ref a_f)]) hx hb dX0_openWays_4 rfl hl (by decide) rfl (fun ls hl => ?_)
  refine lv_aload_n hx hb dX0_openWays_5 rfl (lv_at hl 1 rfl) ?_
  obtain ⟨q6_2, hq2, hf⟩ := Option.bind_eq_some_iff.mp hf
  refine cV (ws' := (W_f cI cS a_f a_f_kind a_f_wet f_kind f_wet f_wide f_rows f_cells f_sun f_all f_firstColumn f_lastColumn)) (rest := []) (st1 := [.int q6_2]) Cc hK hA hP hD hS hl.1 (ctX0_wetSet l D cI cS a_f a_f_kind a_f_wet f_kind f_wet f_wide f_rows f_cells f_sun f_all f_firstColumn f_lastColumn  n q6_2 hq2) ⟨tw_226, tw_292, tw_224, tw_225, tw_2⟩ mdX0_wetSet ⟨rfl, rfl, Nat.le_of_ble_eq_true rfl, Nat.le_of_ble_eq_true rfl⟩ rfl dX0_openWays_6 rfl (Nat.le_of_ble_eq_true rfl) ⟨Nat.zero_le _, Nat.zero_le _⟩ rfl rfl rfl [0, 1, 2] [] [0, 1, 2] rfl rfl (by decide) rfl (fun H locs hP hD hS => ?_)
  refine lv_istore_n (lv' := [(2, .int q6_2), (1, .int q1_1), (0, .ref a_f)]) hx hb dX0_openWays_9 rfl hl (by decide) rfl (fun ls hl => ?_)
  refine lv_iconst (v := (0 : Int32)) hx hb dX0_openWays_10 (by decide) ?_
  refine lv_istore_n (lv' := [(3, .int (0 : Int32)), (2, .int q6_2), (1, .int q1_1), (0, .ref a_f)]) hx hb dX0_openWays_11 rfl hl (by decide) rfl (fun ls hl => ?_)
  refine lv_iload_n hx hb dX0_openWays_12 rfl (lv_at hl 1 rfl) ?_
  refine lv_istore (lv' := [(4, .int q6_2), (3, .int (0 : Int32)), (2, .int q6_2), (1, .int q1_1), (0, .ref a_f)]) hx hb dX0_openWays_13 hl (by decide) rfl (fun ls hl => ?_)
  refine lv_iconst (v := (1 : Int32)) hx hb dX0_openWays_15 (by decide) ?_
  refine lv_iload_n hx hb dX0_openWays_16 rfl (lv_at hl 2 rfl) ?_
  obtain ⟨q17_3, hq3, hf⟩ := Option.bind_eq_some_iff.mp hf
  refine cSt (ws' := (W_f cI cS a_f a_f_kind a_f_wet f_kind f_wet f_wide f_rows f_cells f_sun f_all f_firstColumn f_lastColumn)) (rest := [.int (1 : Int32)]) (st1 := [.int q17_3, .int (1 : Int32)]) Cc hK hA hP hD hS hl.1 (ctJ6_bitCount_0f7a4 l D cI cS   q6_2 n q17_3 hq3) ⟨tw_241, tw_300, tw_240, tw_8⟩ mdJ6_bitCount_0f7a4 ⟨rfl, rfl, Nat.le_of_ble_eq_true rfl, Nat.le_of_ble_eq_true rfl⟩ rfl dX0_openWays_17 rfl (Nat.le_of_ble_eq_true rfl) ⟨Nat.zero_le _, Nat.zero_le _⟩ rfl [] [0, 1, 2] [0, 1, 2] rfl rfl (by decide) rfl (fun H locs hP hD hS => ?_)
  refine lv_ishl hx hb dX0_openWays_20 ?_
  refine lv_istore (lv' := [(5, .int ((1 : Int32) <<< (q17_3 &&& 31))), (4, .int q6_2), (3, .int (0 : Int32)), (2, .int q6_2), (1, .int q1_1), (0, .ref a_f)]) hx hb dX0_openWays_21 hl (by decide) rfl (fun ls hl => ?_)
  exact bX0_openWays_23 a_f a_f_kind a_f_wet f_kind f_rows f_sun Cc hK hA n n _ _ _ _ _ _ _ _ _ _ _ _ hf _ _ _ hP hD hS (lv_sub hl [5, 4, 3, 2, 1, 0] rfl)
