-- X0_setShape
def fX0_setShape_41 (n : Nat) : Nat → Int32 → Int32 → Int32 → Int32 → Int32 → Int32 → Int32 → Option (Int32 × Int32 × Int32 × Int32 × Int32 × Int32)
  | 0, _, _, _, _, _, _, _ => none
  | k + 1, f_wide, f_rows, f_cells, f_all, f_firstColumn, f_lastColumn, x3 => if f_rows ≤ x3 then some (f_wide, f_rows, f_cells, f_all, f_firstColumn, (f_firstColumn <<< ((f_wide - (1 : Int32)) &&& 31))) else fX0_setShape_41 n k f_wide f_rows f_cells f_all (f_firstColumn ||| ((1 : Int32) <<< ((x3 * f_wide) &&& 31))) f_lastColumn (x3 + 1)
def fX0_setShape (n : Nat) (f_wide : Int32) (f_rows : Int32) (f_cells : Int32) (f_all : Int32) (f_firstColumn : Int32) (f_lastColumn : Int32) (p1 : Int32) (p2 : Int32) : Option (Int32 × Int32 × Int32 × Int32 × Int32 × Int32) := fX0_setShape_41 n n p1 p2 (if (12 : Int32) < (p1 * p2) then (12 : Int32) else (p1 * p2)) (((1 : Int32) <<< ((if (12 : Int32) < (p1 * p2) then (12 : Int32) else (p1 * p2)) &&& 31)) - (1 : Int32)) (0 : Int32) f_lastColumn (0 : Int32)
theorem mdX0_setShape : yX0_setShape.cls = RX0 ∧ yX0_setShape.cls ≠ "java/lang/invoke/MethodHandle" ∧ yX0_setShape.cls ≠ "java/lang/invoke/VarHandle" ∧ (parseMethodDescriptor yX0_setShape.desc).map (fun d => d.parameters.length) = some 2 := by decide +kernel
set_option maxHeartbeats 4000000 in
set_option maxRecDepth 100000 in
theorem bX0_setShape_41 {p : Program} {l : Launch} {e : Env} {s : State} {m : MethodId} {args : Array Value} {below : List Frame} {meth : Method} {c : Code} {A : Nat → Prop} {D : va_G} {cI cS : ClassId} (a_f a_f_kind a_f_wet : Nat) (f_kind : Nat → Int32) (f_wet : Nat → Int32) (f_sun : Int32) (Cc : Cx p s m args meth c RX0 cX0_setShape 4 none) (hK : va_K D classes (tysA cI cS) s) (hA : ∀ q, s.heap.size ≤ q → A q) (n : Nat) : ∀ (k : Nat) (f_wide : Int32) (f_rows : Int32) (f_cells : Int32) (f_all : Int32) (f_firstColumn : Int32) (f_lastColumn : Int32) (x3 : Int32) (f_wide' : Int32) (f_rows' : Int32) (f_cells' : Int32) (f_all' : Int32) (f_firstColumn' : Int32) (f_lastColumn' : Int32), fX0_setShape_41 n k f_wide f_rows f_cells f_all f_firstColumn f_lastColumn x3 = some (f_wide', f_rows', f_cells', f_all', f_firstColumn', f_lastColumn') → ∀ (H : Heap) (locs : List Loc) (ls : Array Slot), va_P D classes (W_f cI cS a_f a_f_kind a_f_wet f_kind f_wet f_wide f_rows f_cells f_sun f_all f_firstColumn f_lastColumn) H → va_D A (W_f cI cS a_f a_f_kind a_f_wet f_kind f_wet f_wide f_rows f_cells f_sun f_all f_firstColumn f_lastColumn) → va_S A s.heap H locs → lv_has ls 4 [(0, .ref a_f), (3, .int x3)] → W p l e (Rm 1) s m args below meth c H locs 0 0 (MQ below (QW D (tysA cI cS) none (W_f cI cS a_f a_f_kind a_f_wet f_kind f_wet f_wide' f_rows' f_cells' f_sun f_all' f_firstColumn' f_lastColumn') A) args s 0 0 A) (F0 m 41 ls []) := by
  obtain ⟨hx, hb, hr, hml, hown, hts, hlk, hnw⟩ := id Cc
  intro k
  induction k with
  | zero =>
    intro f_wide f_rows f_cells f_all f_firstColumn f_lastColumn x3 f_wide' f_rows' f_cells' f_all' f_firstColumn' f_lastColumn' hf
    rw [fX0_setShape_41] at hf
    cases hf
  | succ k ih =>
    intro f_wide f_rows f_cells f_all f_firstColumn f_lastColumn x3 f_wide' f_rows' f_cells' f_all' f_firstColumn' f_lastColumn' hf H locs ls hP hD hS hl
    rw [fX0_setShape_41] at hf
    refine lv_iload_n hx hb dX0_setShape_41 rfl (lv_at hl 1 rfl) ?_
    refine lv_aload_n hx hb dX0_setShape_42 rfl (lv_at hl 0 rfl) ?_
    refine va_get (D := D) (ci := 0) (v := .int f_rows) (C := RX0) (T := TX0) (N := 9) hx hb hts inX0 hown hK hP 0 rfl rfl 3 (by decide) (hts _ tw_31) (fun _ h9 => h9) rfl dX0_setShape_43 ?_
    refine lv_icmp_ge (tgt := 72) hx hb dX0_setShape_46 (by decide) (fun hc1 => ?_) (fun hc1 => ?_)
    · replace hf := (if_pos hc1).symm.trans hf
      refine lv_aload_n hx hb dX0_setShape_72 rfl (lv_at hl 0 rfl) ?_
      refine lv_aload_n hx hb dX0_setShape_73 rfl (lv_at hl 0 rfl) ?_
      refine va_get (D := D) (ci := 0) (v := .int f_firstColumn) (C := RX0) (T := TX0) (N := 9) hx hb hts inX0 hown hK hP 0 rfl rfl 7 (by decide) (hts _ tw_40) (fun _ h9 => h9) rfl dX0_setShape_74 ?_
      refine lv_aload_n hx hb dX0_setShape_77 rfl (lv_at hl 0 rfl) ?_
      refine va_get (D := D) (ci := 0) (v := .int f_wide) (C := RX0) (T := TX0) (N := 9) hx hb hts inX0 hown hK hP 0 rfl rfl 2 (by decide) (hts _ tw_29) (fun _ h9 => h9) rfl dX0_setShape_78 ?_
      refine lv_iconst (v := (1 : Int32)) hx hb dX0_setShape_81 (by decide) ?_
      refine lv_isub hx hb dX0_setShape_82 ?_
      refine lv_ishl hx hb dX0_setShape_83 ?_
      refine va_put (D := D) (ci := 0) (v := .int (f_firstColumn <<< ((f_wide - (1 : Int32)) &&& 31))) (ty := .int) (C := RX0) (T := TX0) (N := 9) hx hb hts inX0 tyX0 tyX0_ok nmX0 hown hK hP hD hS 0 rfl rfl 8 (by decide) (hts _ tw_41) (fun _ h9 => h9) rfl (tyX0_ok 8 (by decide)) rfl rfl (Nat.le_of_ble_eq_true rfl) dX0_setShape_84 (fun H locs hP hD hS => ?_)
      have hP : va_P D classes (W_f cI cS a_f a_f_kind a_f_wet f_kind f_wet f_wide f_rows f_cells f_sun f_all f_firstColumn (f_firstColumn <<< ((f_wide - (1 : Int32)) &&& 31))) H := hP
      have hD : va_D A (W_f cI cS a_f a_f_kind a_f_wet f_kind f_wet f_wide f_rows f_cells f_sun f_all f_firstColumn (f_firstColumn <<< ((f_wide - (1 : Int32)) &&& 31))) := hD
      replace hf := Option.some.inj hf
      obtain ⟨er0, er1⟩ := Prod.mk.inj hf
      obtain ⟨er2, er3⟩ := Prod.mk.inj er1
      obtain ⟨er4, er5⟩ := Prod.mk.inj er3
      obtain ⟨er6, er7⟩ := Prod.mk.inj er5
      obtain ⟨er8, er9⟩ := Prod.mk.inj er7
      clear hf er1 er3 er5 er7
      subst er0
      subst er2
      subst er4
      subst er6
      subst er8
      subst er9
      exact rt_v Cc hK hP hD hS dX0_setShape_87
    · replace hf := (if_neg hc1).symm.trans hf
      refine lv_aload_n hx hb dX0_setShape_49 rfl (lv_at hl 0 rfl) ?_
      refine lv_dup hx hb dX0_setShape_50 rfl ?_
      refine va_get (D := D) (ci := 0) (v := .int f_firstColumn) (C := RX0) (T := TX0) (N := 9) hx hb hts inX0 hown hK hP 0 rfl rfl 7 (by decide) (hts _ tw_40) (fun _ h9 => h9) rfl dX0_setShape_51 ?_
      refine lv_iconst (v := (1 : Int32)) hx hb dX0_setShape_54 (by decide) ?_
      refine lv_iload_n hx hb dX0_setShape_55 rfl (lv_at hl 1 rfl) ?_
      refine lv_aload_n hx hb dX0_setShape_56 rfl (lv_at hl 0 rfl) ?_
      refine va_get (D := D) (ci := 0) (v := .int f_wide) (C := RX0) (T := TX0) (N := 9) hx hb hts inX0 hown hK hP 0 rfl rfl 2 (by decide) (hts _ tw_29) (fun _ h9 => h9) rfl dX0_setShape_57 ?_
      refine lv_imul hx hb dX0_setShape_60 ?_
      refine lv_ishl hx hb dX0_setShape_61 ?_
      refine lv_ior hx hb dX0_setShape_62 ?_
      refine va_put (D := D) (ci := 0) (v := .int (f_firstColumn ||| ((1 : Int32) <<< ((x3 * f_wide) &&& 31)))) (ty := .int) (C := RX0) (T := TX0) (N := 9) hx hb hts inX0 tyX0 tyX0_ok nmX0 hown hK hP hD hS 0 rfl rfl 7 (by decide) (hts _ tw_40) (fun _ h9 => h9) rfl (tyX0_ok 7 (by decide)) rfl rfl (Nat.le_of_ble_eq_true rfl) dX0_setShape_63 (fun H locs hP hD hS => ?_)
      have hP : va_P D classes (W_f cI cS a_f a_f_kind a_f_wet f_kind f_wet f_wide f_rows f_cells f_sun f_all (f_firstColumn ||| ((1 : Int32) <<< ((x3 * f_wide) &&& 31))) f_lastColumn) H := hP
      have hD : va_D A (W_f cI cS a_f a_f_kind a_f_wet f_kind f_wet f_wide f_rows f_cells f_sun f_all (f_firstColumn ||| ((1 : Int32) <<< ((x3 * f_wide) &&& 31))) f_lastColumn) := hD
      refine lv_iinc (v := (x3 + 1)) (lv' := [(3, .int (x3 + 1)), (0, .ref a_f)]) hx hb dX0_setShape_66 hl (k := 1) rfl rfl (by decide) rfl (fun ls hl => ?_)
      refine lv_goto (tgt := 41) hx hb dX0_setShape_69 (by decide) ?_
      exact ih _ _ _ _ _ _ _ _ _ _ _ _ _ hf _ _ _ hP hD hS (lv_sub hl [1, 0] rfl)
set_option maxHeartbeats 4000000 in
set_option maxRecDepth 100000 in
theorem ctX0_setShape (l : Launch) (D : va_G) (cI cS : ClassId) (a_f a_f_kind a_f_wet : Nat) (f_kind : Nat → Int32) (f_wet : Nat → Int32) (f_wide : Int32) (f_rows : Int32) (f_cells : Int32) (f_sun : Int32) (f_all : Int32) (f_firstColumn : Int32) (f_lastColumn : Int32) (p1 : Int32) (p2 : Int32) (n : Nat) (f_wide' : Int32) (f_rows' : Int32) (f_cells' : Int32) (f_all' : Int32) (f_firstColumn' : Int32) (f_lastColumn' : Int32) (hf : fX0_setShape n f_wide f_rows f_cells f_all f_firstColumn f_lastColumn p1 p2 = some (f_wide', f_rows', f_cells', f_all', f_firstColumn', f_lastColumn')) : Ct l D (tysA cI cS) yX0_setShape cX0_setShape 4 none (Rm 1) [.ref a_f, .int p1, .int p2] (W_f cI cS a_f a_f_kind a_f_wet f_kind f_wet f_wide f_rows f_cells f_sun f_all f_firstColumn f_lastColumn) none (W_f cI cS a_f a_f_kind a_f_wet f_kind f_wet f_wide' f_rows' f_cells' f_sun f_all' f_firstColumn' f_lastColumn') := by
  refine Ct_of (by decide) (Nat.le_of_ble_eq_true rfl) ?_
  intro p e s m args below meth c A ls Cc hK hA hP hD hS hl
  have hl : lv_has ls 4 [(0, .ref a_f), (1, .int p1), (2, .int p2)] := hl
  obtain ⟨hx, hb, hr, hml, hown, hts, hlk, hnw⟩ := id Cc
  unfold fX0_setShape at hf
  refine lv_aload_n hx hb dX0_setShape_0 rfl (lv_at hl 0 rfl) ?_
  refine lv_iload_n hx hb dX0_setShape_1 rfl (lv_at hl 1 rfl) ?_
  refine va_put (D := D) (ci := 0) (v := .int p1) (ty := .int) (C := RX0) (T := TX0) (N := 9) hx hb hts inX0 tyX0 tyX0_ok nmX0 hown hK hP hD hS 0 rfl rfl 2 (by decide) (hts _ tw_29) (fun _ h9 => h9) rfl (tyX0_ok 2 (by decide)) rfl rfl (Nat.le_of_ble_eq_true rfl) dX0_setShape_2 (fun H locs hP hD hS => ?_)
  have hP : va_P D classes (W_f cI cS a_f a_f_kind a_f_wet f_kind f_wet p1 f_rows f_cells f_sun f_all f_firstColumn f_lastColumn) H := hP
  have hD : va_D A (W_f cI cS a_f a_f_kind a_f_wet f_kind f_wet p1 f_rows f_cells f_sun f_all f_firstColumn f_lastColumn) := hD
  refine lv_aload_n hx hb dX0_setShape_5 rfl (lv_at hl 0 rfl) ?_
  refine lv_iload_n hx hb dX0_setShape_6 rfl (lv_at hl 2 rfl) ?_
  refine va_put (D := D) (ci := 0) (v := .int p2) (ty := .int) (C := RX0) (T := TX0) (N := 9) hx hb hts inX0 tyX0 tyX0_ok nmX0 hown hK hP hD hS 0 rfl rfl 3 (by decide) (hts _ tw_31) (fun _ h9 => h9) rfl (tyX0_ok 3 (by decide)) rfl rfl (Nat.le_of_ble_eq_true rfl) dX0_setShape_7 (fun H locs hP hD hS => ?_)
  have hP : va_P D classes (W_f cI cS a_f a_f_kind a_f_wet f_kind f_wet p1 p2 f_cells f_sun f_all f_firstColumn f_lastColumn) H := hP
  have hD : va_D A (W_f cI cS a_f a_f_kind a_f_wet f_kind f_wet p1 p2 f_cells f_sun f_all f_firstColumn f_lastColumn) := hD
  refine lv_aload_n hx hb dX0_setShape_10 rfl (lv_at hl 0 rfl) ?_
  refine lv_iload_n hx hb dX0_setShape_11 rfl (lv_at hl 1 rfl) ?_
  refine lv_iload_n hx hb dX0_setShape_12 rfl (lv_at hl 2 rfl) ?_
  refine lv_imul hx hb dX0_setShape_13 ?_
  refine lv_bipush (v := (12 : Int32)) hx hb dX0_setShape_14 (by decide) ?_
  refine va_mmin hx hb (hml.trans hl.1.symm) hown (hts _ tw_206) (hts _ tw_207) (hts _ tw_7) (hts _ tw_208) (Nat.le_of_ble_eq_true rfl) (Nat.le_of_ble_eq_true rfl) (Nat.zero_le _) (Nat.zero_le _) dX0_setShape_16 ?_
  refine va_put (D := D) (ci := 0) (v := .int (if (12 : Int32) < (p1 * p2) then (12 : Int32) else (p1 * p2))) (ty := .int) (C := RX0) (T := TX0) (N := 9) hx hb hts inX0 tyX0 tyX0_ok nmX0 hown hK hP hD hS 0 rfl rfl 4 (by decide) (hts _ tw_33) (fun _ h9 => h9) rfl (tyX0_ok 4 (by decide)) rfl rfl (Nat.le_of_ble_eq_true rfl) dX0_setShape_19 (fun H locs hP hD hS => ?_)
  have hP : va_P D classes (W_f cI cS a_f a_f_kind a_f_wet f_kind f_wet p1 p2 (if (12 : Int32) < (p1 * p2) then (12 : Int32) else (p1 * p2)) f_sun f_all f_firstColumn f_lastColumn) H := hP
  have hD : va_D A (W_f cI cS a_f a_f_kind a_f_wet f_kind f_wet p1 p2 (if (12 : Int32) < (p1 * p2) then (12 : Int32) else (p1 * p2)) f_sun f_all f_firstColumn f_lastColumn) := hD
  refine lv_aload_n hx hb dX0_setShape_22 rfl (lv_at hl 0 rfl) ?_
  refine lv_iconst (v := (1 : Int32)) hx hb dX0_setShape_23 (by decide) ?_
  refine lv_aload_n hx hb dX0_setShape_24 rfl (lv_at hl 0 rfl) ?_
  refine va_get (D := D) (ci := 0) (v := .int (if (12 : Int32) < (p1 * p2) then (12 : Int32) else (p1 * p2))) (C := RX0) (T := TX0) (N := 9) hx hb hts inX0 hown hK hP 0 rfl rfl 4 (by decide) (hts _ tw_33) (fun _ h9 => h9) rfl dX0_setShape_25 ?_
  refine lv_ishl hx hb dX0_setShape_28 ?_
  refine lv_iconst (v := (1 : Int32)) hx hb dX0_setShape_29 (by decide) ?_
  refine lv_isub hx hb dX0_setShape_30 ?_
  refine va_put (D := D) (ci := 0) (v := .int (((1 : Int32) <<< ((if (12 : Int32) < (p1 * p2) then (12 : Int32) else (p1 * p2)) &&& 31)) - (1 : Int32))) (ty := .int) (C := RX0) (T := TX0) (N := 9) hx hb hts inX0 tyX0 tyX0_ok nmX0 hown hK hP hD hS 0 rfl rfl 6 (by decide) (hts _ tw_38) (fun _ h9 => h9) rfl (tyX0_ok 6 (by decide)) rfl rfl (Nat.le_of_ble_eq_true rfl) dX0_setShape_31 (fun H locs hP hD hS => ?_)
  have hP : va_P D classes (W_f cI cS a_f a_f_kind a_f_wet f_kind f_wet p1 p2 (if (12 : Int32) < (p1 * p2) then (12 : Int32) else (p1 * p2)) f_sun (((1 : Int32) <<< ((if (12 : Int32) < (p1 * p2) then (12 : Int32) else (p1 * p2)) &&& 31)) - (1 : Int32)) f_firstColumn f_lastColumn) H := hP
  have hD : va_D A (W_f cI cS a_f a_f_kind a_f_wet f_kind f_wet p1 p2 (if (12 : Int32) < (p1 * p2) then (12 : Int32) else (p1 * p2)) f_sun (((1 : Int32) <<< ((if (12 : Int32) < (p1 * p2) then (12 : Int32) else (p1 * p2)) &&& 31)) - (1 : Int32)) f_firstColumn f_lastColumn) := hD
  refine lv_aload_n hx hb dX0_setShape_34 rfl (lv_at hl 0 rfl) ?_
  refine lv_iconst (v := (0 : Int32)) hx hb dX0_setShape_35 (by decide) ?_
  refine va_put (D := D) (ci := 0) (v := .int (0 : Int32)) (ty := .int) (C := RX0) (T := TX0) (N := 9) hx hb hts inX0 tyX0 tyX0_ok nmX0 hown hK hP hD hS 0 rfl rfl 7 (by decide) (hts _ tw_40) (fun _ h9 => h9) rfl (tyX0_ok 7 (by decide)) rfl rfl (Nat.le_of_ble_eq_true rfl) dX0_setShape_36 (fun H locs hP hD hS => ?_)
  have hP : va_P D classes (W_f cI cS a_f a_f_kind a_f_wet f_kind f_wet p1 p2 (if (12 : Int32) < (p1 * p2) then (12 : Int32) else (p1 * p2)) f_sun (((1 : Int32) <<< ((if (12 : Int32) < (p1 * p2) then (12 : Int32) else (p1 * p2)) &&& 31)) - (1 : Int32)) (0 : Int32) f_lastColumn) H := hP
  have hD : va_D A (W_f cI cS a_f a_f_kind a_f_wet f_kind f_wet p1 p2 (if (12 : Int32) < (p1 * p2) then (12 : Int32) else (p1 * p2)) f_sun (((1 : Int32) <<< ((if (12 : Int32) < (p1 * p2) then (12 : Int32) else (p1 * p2)) &&& 31)) - (1 : Int32)) (0 : Int32) f_lastColumn) := hD
  refine lv_iconst (v := (0 : Int32)) hx hb dX0_setShape_39 (by decide) ?_
  refine lv_istore_n (lv' := [(3, .int (0 : Int32)), (0, .ref a_f), (1, .int p1), (2, .int p2)]) hx hb dX0_setShape_40 rfl hl (by decide) rfl (fun ls hl => ?_)
  exact bX0_setShape_41 a_f a_f_kind a_f_wet f_kind f_wet f_sun Cc hK hA n n _ _ _ _ _ _ _ _ _ _ _ _ _ hf _ _ _ hP hD hS (lv_sub hl [1, 0] rfl)
-- X0_becomeText
def fX0_becomeText_31 (n : Nat) : Nat → (Nat → Int32) → (Nat → Int32) → Int32 → Int32 → Int32 → Int32 → Int32 → Int32 → Int32 → (Nat → Int32) → Int32 → Int32 → Int32 → Option ((Nat → Int32) × (Nat → Int32) × Int32 × Int32 × Int32 × Int32 × Int32 × Int32 × Int32)
  | 0, _, _, _, _, _, _, _, _, _, _, _, _, _ => none
  | k + 1, f_kind, f_wet, f_wide, f_rows, f_cells, f_sun, f_all, f_firstColumn, f_lastColumn, s_row, s_length, x2, x3 => if f_cells ≤ x3 then some (f_kind, f_wet, f_wide, f_rows, f_cells, f_sun, f_all, f_firstColumn, f_lastColumn) else (fX2_codeAt n s_row s_length ((x2 + (4 : Int32)) + ((2 : Int32) * x3))).bind fun q52_1 => (fX4_kindByLetter n q52_1).bind fun q55_2 => gd x3 12 ((fX4_digitAt n s_row s_length (((x2 + (4 : Int32)) + ((2 : Int32) * x3)) + (1 : Int32))).bind fun q74_3 => gd x3 12 (fX0_becomeText_31 n k (upd f_kind x3.toNatClampNeg q55_2) (upd f_wet x3.toNatClampNeg q74_3) f_wide f_rows f_cells f_sun f_all f_firstColumn f_lastColumn s_row s_length x2 (x3 + 1)))
def fX0_becomeText (n : Nat) (f_kind : Nat → Int32) (f_wet : Nat → Int32) (f_wide : Int32) (f_rows : Int32) (f_cells : Int32) (f_sun : Int32) (f_all : Int32) (f_firstColumn : Int32) (f_lastColumn : Int32) (s_row : Nat → Int32) (s_length : Int32) (p2 : Int32) : Option ((Nat → Int32) × (Nat → Int32) × Int32 × Int32 × Int32 × Int32 × Int32 × Int32 × Int32) := (fX4_digitAt n s_row s_length (p2 + (1 : Int32))).bind fun q5_1 => (fX4_digitAt n s_row s_length (p2 + (2 : Int32))).bind fun q16_2 => (fX4_digitAt n s_row s_length (p2 + (3 : Int32))).bind fun q23_3 => (fX0_setShape n f_wide f_rows f_cells f_all f_firstColumn f_lastColumn q16_2 q23_3).bind fun q26_4 => fX0_becomeText_31 n n f_kind f_wet q26_4.1 q26_4.2.1 q26_4.2.2.1 q5_1 q26_4.2.2.2.1 q26_4.2.2.2.2.1 q26_4.2.2.2.2.2 s_row s_length p2 (0 : Int32)
theorem mdX0_becomeText : yX0_becomeText.cls = RX0 ∧ yX0_becomeText.cls ≠ "java/lang/invoke/MethodHandle" ∧ yX0_becomeText.cls ≠ "java/lang/invoke/VarHandle" ∧ (parseMethodDescriptor yX0_becomeText.desc).map (fun d => d.parameters.length) = some 2 := by decide +kernel
set_option maxHeartbeats 4000000 in
set_option maxRecDepth 100000 in
theorem bX0_becomeText_31 {p : Program} {l : Launch} {e : Env} {s : State} {m : MethodId} {args : Array Value} {below : List Frame} {meth : Method} {c : Code} {A : Nat → Prop} {D : va_G} {cI cS : ClassId} (a_f a_f_kind a_f_wet a_s a_s_row : Nat) (s_lane : Int32) (Cc : Cx p s m args meth c RX0 cX0_becomeText 4 none) (hK : va_K D classes (tysA cI cS) s) (hA : ∀ q, s.heap.size ≤ q → A q) (n : Nat) : ∀ (k : Nat) (f_kind : Nat → Int32) (f_wet : Nat → Int32) (f_wide : Int32) (f_rows : Int32) (f_cells : Int32) (f_sun : Int32) (f_all : Int32) (f_firstColumn : Int32) (f_lastColumn : Int32) (s_row : Nat → Int32) (s_length : Int32) (x2 : Int32) (x3 : Int32) (f_kind' : Nat → Int32) (f_wet' : Nat → Int32) (f_wide' : Int32) (f_rows' : Int32) (f_cells' : Int32) (f_sun' : Int32) (f_all' : Int32) (f_firstColumn' : Int32) (f_lastColumn' : Int32), fX0_becomeText_31 n k f_kind f_wet f_wide f_rows f_cells f_sun f_all f_firstColumn f_lastColumn s_row s_length x2 x3 = some (f_kind', f_wet', f_wide', f_rows', f_cells', f_sun', f_all', f_firstColumn', f_lastColumn') → ∀ (H : Heap) (locs : List Loc) (ls : Array Slot), va_P D classes (W_fs cI cS a_f a_f_kind a_f_wet a_s a_s_row f_kind f_wet f_wide f_rows f_cells f_sun f_all f_firstColumn f_lastColumn s_row s_lane s_length) H → va_D A (W_fs cI cS a_f a_f_kind a_f_wet a_s a_s_row f_kind f_wet f_wide f_rows f_cells f_sun f_all f_firstColumn f_lastColumn s_row s_lane s_length) → va_S A s.heap H locs → lv_has ls 4 [(0, .ref a_f), (1, .ref a_s), (2, .int x2), (3, .int x3)] → W p l e (Rm 3) s m args below meth c H locs 0 0 (MQ below (QW D (tysA cI cS) none (W_fs cI cS a_f a_f_kind a_f_wet a_s a_s_row f_kind' f_wet' f_wide' f_rows' f_cells' f_sun' f_all' f_firstColumn' f_lastColumn' s_row s_lane s_length) A) args s 0 0 A) (F0 m 31 ls []) := by
  obtain ⟨hx, hb, hr, hml, hown, hts, hlk, hnw⟩ := id Cc
  intro k
  induction k with
  | zero =>
    intro f_kind f_wet f_wide f_rows f_cells f_sun f_all f_firstColumn f_lastColumn s_row s_length x2 x3 f_kind' f_wet' f_wide' f_rows' f_cells' f_sun' f_all' f_firstColumn' f_lastColumn' hf
    rw [fX0_becomeText_31] at hf
    cases hf
  | succ k ih =>
    intro f_kind f_wet f_wide f_rows f_cells f_sun f_all f_firstColumn f_lastColumn s_row s_length x2 x3 f_kind' f_wet' f_wide' f_rows' f_cells' f_sun' f_all' f_firstColumn' f_lastColumn' hf H locs ls hP hD hS hl
    rw [fX0_becomeText_31] at hf
    refine lv_iload_n hx hb dX0_becomeText_31 rfl (lv_at hl 3 rfl) ?_
    refine lv_aload_n hx hb dX0_becomeText_32 rfl (lv_at hl 0 rfl) ?_
    refine va_get (D := D) (ci := 0) (v := .int f_cells) (C := RX0) (T := TX0) (N := 9) hx hb hts inX0 hown hK hP 0 rfl rfl 4 (by decide) (hts _ tw_33) (fun _ h9 => h9) rfl dX0_becomeText_33 ?_
    refine lv_icmp_ge (tgt := 84) hx hb dX0_becomeText_36 (by decide) (fun hc5 => ?_) (fun hc5 => ?_)
    · replace hf := (if_pos hc5).symm.trans hf
      replace hf := Option.some.inj hf
      obtain ⟨er0, er1⟩ := Prod.mk.inj hf
      obtain ⟨er2, er3⟩ := Prod.mk.inj er1
      obtain ⟨er4, er5⟩ := Prod.mk.inj er3
      obtain ⟨er6, er7⟩ := Prod.mk.inj er5
      obtain ⟨er8, er9⟩ := Prod.mk.inj er7
      obtain ⟨er10, er11⟩ := Prod.mk.inj er9
      obtain ⟨er12, er13⟩ := Prod.mk.inj er11
      obtain ⟨er14, er15⟩ := Prod.mk.inj er13
      clear hf er1 er3 er5 er7 er9 er11 er13
      subst er0
      subst er2
      subst er4
      subst er6
      subst er8
      subst er10
      subst er12
      subst er14
      subst er15
      exact rt_v Cc hK hP hD hS dX0_becomeText_84
    · replace hf := (if_neg hc5).symm.trans hf
      refine lv_aload_n hx hb dX0_becomeText_39 rfl (lv_at hl 0 rfl) ?_
      refine va_get (D := D) (ci := 0) (v := .ref a_f_kind) (C := RX0) (T := TX0) (N := 9) hx hb hts inX0 hown hK hP 0 rfl rfl 0 (by decide) (hts _ tw_24) (fun _ h9 => h9) rfl dX0_becomeText_40 ?_
      refine lv_iload_n hx hb dX0_becomeText_43 rfl (lv_at hl 3 rfl) ?_
      refine lv_aload_n hx hb dX0_becomeText_44 rfl (lv_at hl 1 rfl) ?_
      refine lv_iload_n hx hb dX0_becomeText_45 rfl (lv_at hl 2 rfl) ?_
      refine lv_iconst (v := (4 : Int32)) hx hb dX0_becomeText_46 (by decide) ?_
      refine lv_iadd hx hb dX0_becomeText_47 ?_
      refine lv_iconst (v := (2 : Int32)) hx hb dX0_becomeText_48 (by decide) ?_
      refine lv_iload_n hx hb dX0_becomeText_49 rfl (lv_at hl 3 rfl) ?_
      refine lv_imul hx hb dX0_becomeText_50 ?_
      refine lv_iadd hx hb dX0_becomeText_51 ?_
      obtain ⟨q52_1, hq6, hf⟩ := Option.bind_eq_some_iff.mp hf
      refine cV (ws' := (W_fs cI cS a_f a_f_kind a_f_wet a_s a_s_row f_kind f_wet f_wide f_rows f_cells f_sun f_all f_firstColumn f_lastColumn s_row s_lane s_length)) (rest := [.int x3, .ref a_f_kind]) (st1 := [.int q52_1, .int x3, .ref a_f_kind]) Cc hK hA hP hD hS hl.1 (ctX2_codeAt l D cI cS a_s a_s_row s_row s_lane s_length ((x2 + (4 : Int32)) + ((2 : Int32) * x3)) n q52_1 hq6) ⟨tw_183, tw_209, tw_181, tw_182, tw_5⟩ mdX2_codeAt ⟨rfl, rfl, Nat.le_of_ble_eq_true rfl, Nat.le_of_ble_eq_true rfl⟩ rfl dX0_becomeText_52 rfl (Nat.le_of_ble_eq_true rfl) ⟨Nat.zero_le _, Nat.zero_le _⟩ rfl rfl rfl [3, 4] [0, 1, 2] [0, 1, 2, 3, 4] rfl rfl (by decide) rfl (fun H locs hP hD hS => ?_)
      obtain ⟨q55_2, hq7, hf⟩ := Option.bind_eq_some_iff.mp hf
      refine cStN (ws' := (W_fs cI cS a_f a_f_kind a_f_wet a_s a_s_row f_kind f_wet f_wide f_rows f_cells f_sun f_all f_firstColumn f_lastColumn s_row s_lane s_length)) (rest := [.int x3, .ref a_f_kind]) (st1 := [.int q55_2, .int x3, .ref a_f_kind]) Cc hK hA hP hD hS hl.1 (ctX4_kindByLetter l D cI cS   q52_1 n q55_2 hq7) ⟨tw_196, nn_14, tw_195, tw_1⟩ mdX4_kindByLetter ⟨rfl, rfl, Nat.le_of_ble_eq_true rfl, Nat.le_of_ble_eq_true rfl⟩ rfl dX0_becomeText_55 rfl (Nat.le_of_ble_eq_true rfl) ⟨Nat.zero_le _, Nat.zero_le _⟩ rfl [] [0, 1, 2, 3, 4] [0, 1, 2, 3, 4] rfl rfl (by decide) rfl (fun H locs hP hD hS => ?_)
      obtain ⟨hin, hf⟩ := gd_some hf
      refine va_iast hx hb hK hP hD hS 1 0 rfl rfl hin dX0_becomeText_58 (fun H locs hP hD hS => ?_)
      have hP : va_P D classes (W_fs cI cS a_f a_f_kind a_f_wet a_s a_s_row (upd f_kind x3.toNatClampNeg q55_2) f_wet f_wide f_rows f_cells f_sun f_all f_firstColumn f_lastColumn s_row s_lane s_length) H := hP
      have hD : va_D A (W_fs cI cS a_f a_f_kind a_f_wet a_s a_s_row (upd f_kind x3.toNatClampNeg q55_2) f_wet f_wide f_rows f_cells f_sun f_all f_firstColumn f_lastColumn s_row s_lane s_length) := hD
      refine lv_aload_n hx hb dX0_becomeText_59 rfl (lv_at hl 0 rfl) ?_
      refine va_get (D := D) (ci := 0) (v := .ref a_f_wet) (C := RX0) (T := TX0) (N := 9) hx hb hts inX0 hown hK hP 0 rfl rfl 1 (by decide) (hts _ tw_26) (fun _ h9 => h9) rfl dX0_becomeText_60 ?_
      refine lv_iload_n hx hb dX0_becomeText_63 rfl (lv_at hl 3 rfl) ?_
      refine lv_aload_n hx hb dX0_becomeText_64 rfl (lv_at hl 1 rfl) ?_
      refine lv_iload_n hx hb dX0_becomeText_65 rfl (lv_at hl 2 rfl) ?_
      refine lv_iconst (v := (4 : Int32)) hx hb dX0_becomeText_66 (by decide) ?_
      refine lv_iadd hx hb dX0_becomeText_67 ?_
      refine lv_iconst (v := (2 : Int32)) hx hb dX0_becomeText_68 (by decide) ?_
      refine lv_iload_n hx hb dX0_becomeText_69 rfl (lv_at hl 3 rfl) ?_
      refine lv_imul hx hb dX0_becomeText_70 ?_
      refine lv_iadd hx hb dX0_becomeText_71 ?_
      refine lv_iconst (v := (1 : Int32)) hx hb dX0_becomeText_72 (by decide) ?_
      refine lv_iadd hx hb dX0_becomeText_73 ?_
      obtain ⟨q74_3, hq8, hf⟩ := Option.bind_eq_some_iff.mp hf
      refine cStN (ws' := (W_fs cI cS a_f a_f_kind a_f_wet a_s a_s_row (upd f_kind x3.toNatClampNeg q55_2) f_wet f_wide f_rows f_cells f_sun f_all f_firstColumn f_lastColumn s_row s_lane s_length)) (rest := [.int x3, .ref a_f_wet]) (st1 := [.int q74_3, .int x3, .ref a_f_wet]) Cc hK hA hP hD hS hl.1 (ctX4_digitAt l D cI cS a_s a_s_row s_row s_lane s_length (((x2 + (4 : Int32)) + ((2 : Int32) * x3)) + (1 : Int32)) n q74_3 hq8) ⟨tw_193, nn_13, tw_192, tw_1⟩ mdX4_digitAt ⟨rfl, rfl, Nat.le_of_ble_eq_true rfl, Nat.le_of_ble_eq_true rfl⟩ rfl dX0_becomeText_74 rfl (Nat.le_of_ble_eq_true rfl) ⟨Nat.zero_le _, Nat.zero_le _⟩ rfl [3, 4] [0, 1, 2] [0, 1, 2, 3, 4] rfl rfl (by decide) rfl (fun H locs hP hD hS => ?_)
      obtain ⟨hin, hf⟩ := gd_some hf
      refine va_iast hx hb hK hP hD hS 2 0 rfl rfl hin dX0_becomeText_77 (fun H locs hP hD hS => ?_)
      have hP : va_P D classes (W_fs cI cS a_f a_f_kind a_f_wet a_s a_s_row (upd f_kind x3.toNatClampNeg q55_2) (upd f_wet x3.toNatClampNeg q74_3) f_wide f_rows f_cells f_sun f_all f_firstColumn f_lastColumn s_row s_lane s_length) H := hP
      have hD : va_D A (W_fs cI cS a_f a_f_kind a_f_wet a_s a_s_row (upd f_kind x3.toNatClampNeg q55_2) (upd f_wet x3.toNatClampNeg q74_3) f_wide f_rows f_cells f_sun f_all f_firstColumn f_lastColumn s_row s_lane s_length) := hD
      refine lv_iinc (v := (x3 + 1)) (lv' := [(3, .int (x3 + 1)), (0, .ref a_f), (1, .ref a_s), (2, .int x2)]) hx hb dX0_becomeText_78 hl (k := 3) rfl rfl (by decide) rfl (fun ls hl => ?_)
      refine lv_goto (tgt := 31) hx hb dX0_becomeText_81 (by decide) ?_
      exact ih _ _ _ _ _ _ _ _ _ _ _ _ _ _ _ _ _ _ _ _ _ _ hf _ _ _ hP hD hS (lv_sub hl [1, 2, 3, 0] rfl)
set_option maxHeartbeats 4000000 in
set_option maxRecDepth 100000 in
theorem ctX0_becomeText (l : Launch) (D : va_G) (cI cS : ClassId) (a_f a_f_kind a_f_wet a_s a_s_row : Nat) (f_kind : Nat → Int32) (f_wet : Nat → Int32) (f_wide : Int32) (f_rows : Int32) (f_cells : Int32) (f_sun : Int32) (f_all : Int32) (f_firstColumn : Int32) (f_lastColumn : Int32) (s_row : Nat → Int32) (s_lane : Int32) (s_length : Int32) (p2 : Int32) (n : Nat) (f_kind' : Nat → Int32) (f_wet' : Nat → Int32) (f_wide' : Int32) (f_rows' : Int32) (f_cells' : Int32) (f_sun' : Int32) (f_all' : Int32) (f_firstColumn' : Int32) (f_lastColumn' : Int32) (hf : fX0_becomeText n f_kind f_wet f_wide f_rows f_cells f_sun f_all f_firstColumn f_lastColumn s_row s_length p2 = some (f_kind', f_wet', f_wide', f_rows', f_cells', f_sun', f_all', f_firstColumn', f_lastColumn')) : Ct l D (tysA cI cS) yX0_becomeText cX0_becomeText 4 none (Rm 3) [.ref a_f, .ref a_s, .int p2] (W_fs cI cS a_f a_f_kind a_f_wet a_s a_s_row f_kind f_wet f_wide f_rows f_cells f_sun f_all f_firstColumn f_lastColumn s_row s_lane s_length) none (W_fs cI cS a_f a_f_kind a_f_wet a_s a_s_row f_kind' f_wet' f_wide' f_rows' f_cells' f_sun' f_all' f_firstColumn' f_lastColumn' s_row s_lane s_length) := by
  refine Ct_of (by decide) (Nat.le_of_ble_eq_true rfl) ?_
  intro p e s m args below meth c A ls Cc hK hA hP hD hS hl
  have hl : lv_has ls 4 [(0, .ref a_f), (1, .ref a_s), (2, .int p2)] := hl
  obtain ⟨hx, hb, hr, hml, hown, hts, hlk, hnw⟩ := id Cc
  unfold fX0_becomeText at hf
  refine lv_aload_n hx hb dX0_becomeText_0 rfl (lv_at hl 0 rfl) ?_
  refine lv_aload_n hx hb dX0_becomeText_1 rfl (lv_at hl 1 rfl) ?_
  refine lv_iload_n hx hb dX0_becomeText_2 rfl (lv_at hl 2 rfl) ?_
  refine lv_iconst (v := (1 : Int32)) hx hb dX0_becomeText_3 (by decide) ?_
  refine lv_iadd hx hb dX0_becomeText_4 ?_
  obtain ⟨q5_1, hq1, hf⟩ := Option.bind_eq_some_iff.mp hf
  refine cStN (ws' := (W_fs cI cS a_f a_f_kind a_f_wet a_s a_s_row f_kind f_wet f_wide f_rows f_cells f_sun f_all f_firstColumn f_lastColumn s_row s_lane s_length)) (rest := [.ref a_f]) (st1 := [.int q5_1, .ref a_f]) Cc hK hA hP hD hS hl.1 (ctX4_digitAt l D cI cS a_s a_s_row s_row s_lane s_length (p2 + (1 : Int32)) n q5_1 hq1) ⟨tw_193, nn_13, tw_192, tw_1⟩ mdX4_digitAt ⟨rfl, rfl, Nat.le_of_ble_eq_true rfl, Nat.le_of_ble_eq_true rfl⟩ rfl dX0_becomeText_5 rfl (Nat.le_of_ble_eq_true rfl) ⟨Nat.zero_le _, Nat.zero_le _⟩ rfl [3, 4] [0, 1, 2] [0, 1, 2, 3, 4] rfl rfl (by decide) rfl (fun H locs hP hD hS => ?_)
  refine va_put (D := D) (ci := 0) (v := .int q5_1) (ty := .int) (C := RX0) (T := TX0) (N := 9) hx hb hts inX0 tyX0 tyX0_ok nmX0 hown hK hP hD hS 0 rfl rfl 5 (by decide) (hts _ tw_35) (fun _ h9 => h9) rfl (tyX0_ok 5 (by decide)) rfl rfl (Nat.le_of_ble_eq_true rfl) dX0_becomeText_8 (fun H locs hP hD hS => ?_)
  have hP : va_P D classes (W_fs cI cS a_f a_f_kind a_f_wet a_s a_s_row f_kind f_wet f_wide f_rows f_cells q5_1 f_all f_firstColumn f_lastColumn s_row s_lane s_length) H := hP
  have hD : va_D A (W_fs cI cS a_f a_f_kind a_f_wet a_s a_s_row f_kind f_wet f_wide f_rows f_cells q5_1 f_all f_firstColumn f_lastColumn s_row s_lane s_length) := hD
  refine lv_aload_n hx hb dX0_becomeText_11 rfl (lv_at hl 0 rfl) ?_
  refine lv_aload_n hx hb dX0_becomeText_12 rfl (lv_at hl 1 rfl) ?_
  refine lv_iload_n hx hb dX0_becomeText_13 rfl (lv_at hl 2 rfl) ?_
  refine lv_iconst (v := (2 : Int32)) hx hb dX0_becomeText_14 (by decide) ?_
  refine lv_iadd hx hb dX0_becomeText_15 ?_
  obtain ⟨q16_2, hq2, hf⟩ := Option.bind_eq_some_iff.mp hf
  refine cStN (ws' := (W_fs cI cS a_f a_f_kind a_f_wet a_s a_s_row f_kind f_wet f_wide f_rows f_cells q5_1 f_all f_firstColumn f_lastColumn s_row s_lane s_length)) (rest := [.ref a_f]) (st1 := [.int q16_2, .ref a_f]) Cc hK hA hP hD hS hl.1 (ctX4_digitAt l D cI cS a_s a_s_row s_row s_lane s_length (p2 + (2 : Int32)) n q16_2 hq2) ⟨tw_193, nn_13, tw_192, tw_1⟩ mdX4_digitAt ⟨rfl, rfl, Nat.le_of_ble_eq_true rfl, Nat.le_of_ble_eq_true rfl⟩ rfl dX0_becomeText_16 rfl (Nat.le_of_ble_eq_true rfl) ⟨Nat.zero_le _, Nat.zero_le _⟩ rfl [3, 4] [0, 1, 2] [0, 1, 2, 3, 4] rfl rfl (by decide) rfl (fun H locs hP hD hS => ?_)
  refine lv_aload_n hx hb dX0_becomeText_19 rfl (lv_at hl 1 rfl) ?_
  refine lv_iload_n hx hb dX0_becomeText_20 rfl (lv_at hl 2 rfl) ?_
  refine lv_iconst (v := (3 : Int32)) hx hb dX0_becomeText_21 (by decide) ?_
  refine lv_iadd hx hb dX0_becomeText_22 ?_
  obtain ⟨q23_3, hq3, hf⟩ := Option.bind_eq_some_iff.mp hf
  refine cStN (ws' := (W_fs cI cS a_f a_f_kind a_f_wet a_s a_s_row f_kind f_wet f_wide f_rows f_cells q5_1 f_all f_firstColumn f_lastColumn s_row s_lane s_length)) (rest := [.int q16_2, .ref a_f]) (st1 := [.int q23_3, .int q16_2, .ref a_f]) Cc hK hA hP hD hS hl.1 (ctX4_digitAt l D cI cS a_s a_s_row s_row s_lane s_length (p2 + (3 : Int32)) n q23_3 hq3) ⟨tw_193, nn_13, tw_192, tw_1⟩ mdX4_digitAt ⟨rfl, rfl, Nat.le_of_ble_eq_true rfl, Nat.le_of_ble_eq_true rfl⟩ rfl dX0_becomeText_23 rfl (Nat.le_of_ble_eq_true rfl) ⟨Nat.zero_le _, Nat.zero_le _⟩ rfl [3, 4] [0, 1, 2] [0, 1, 2, 3, 4] rfl rfl (by decide) rfl (fun H locs hP hD hS => ?_)
  obtain ⟨q26_4, hq4, hf⟩ := Option.bind_eq_some_iff.mp hf
  refine cV (ws' := (W_fs cI cS a_f a_f_kind a_f_wet a_s a_s_row f_kind f_wet q26_4.1 q26_4.2.1 q26_4.2.2.1 q5_1 q26_4.2.2.2.1 q26_4.2.2.2.2.1 q26_4.2.2.2.2.2 s_row s_lane s_length)) (rest := []) (st1 := []) Cc hK hA hP hD hS hl.1 (ctX0_setShape l D cI cS a_f a_f_kind a_f_wet f_kind f_wet f_wide f_rows f_cells q5_1 f_all f_firstColumn f_lastColumn q16_2 q23_3 n q26_4.1 q26_4.2.1 q26_4.2.2.1 q26_4.2.2.2.1 q26_4.2.2.2.2.1 q26_4.2.2.2.2.2 hq4) ⟨tw_205, tw_202, tw_204, tp_1, tw_2⟩ mdX0_setShape ⟨rfl, rfl, Nat.le_of_ble_eq_true rfl, Nat.le_of_ble_eq_true rfl⟩ rfl dX0_becomeText_26 rfl (Nat.le_of_ble_eq_true rfl) ⟨Nat.zero_le _, Nat.zero_le _⟩ rfl rfl rfl [0, 1, 2] [3, 4] [2, 3, 4, 0, 1] rfl rfl (by decide) rfl (fun H locs hP hD hS => ?_)
  refine lv_iconst (v := (0 : Int32)) hx hb dX0_becomeText_29 (by decide) ?_
  refine lv_istore_n (lv' := [(3, .int (0 : Int32)), (0, .ref a_f), (1, .ref a_s), (2, .int p2)]) hx hb dX0_becomeText_30 rfl hl (by decide) rfl (fun ls hl => ?_)
  exact bX0_becomeText_31 a_f a_f_kind a_f_wet a_s a_s_row s_lane Cc hK hA n n _ _ _ _ _ _ _ _ _ _ _ _ _ _ _ _ _ _ _ _ _ _ hf _ _ _ hP hD hS (lv_sub hl [1, 2, 3, 0] rfl)
-- X0_becomeLike
def fX0_becomeLike_58 (n : Nat) : Nat → (Nat → Int32) → (Nat → Int32) → Int32 → Int32 → Int32 → Int32 → Int32 → Int32 → Int32 → (Nat → Int32) → (Nat → Int32) → Int32 → Int32 → Int32 → Int32 → Int32 → Int32 → Int32 → Int32 → Option ((Nat → Int32) × (Nat → Int32) × Int32 × Int32 × Int32 × Int32 × Int32 × Int32 × Int32)
  | 0, _, _, _, _, _, _, _, _, _, _, _, _, _, _, _, _, _, _, _ => none
  | k + 1, f_kind, f_wet, f_wide, f_rows, f_cells, f_sun, f_all, f_firstColumn, f_lastColumn, o_kind, o_wet, o_wide, o_rows, o_cells, o_sun, o_all, o_firstColumn, o_lastColumn, x2 => if f_cells ≤ x2 then some (f_kind, f_wet, f_wide, f_rows, f_cells, f_sun, f_all, f_firstColumn, f_lastColumn) else gd x2 12 (gd x2 12 (gd x2 12 (gd x2 12 (fX0_becomeLike_58 n k (upd f_kind x2.toNatClampNeg (o_kind x2.toNatClampNeg)) (upd f_wet x2.toNatClampNeg (o_wet x2.toNatClampNeg)) f_wide f_rows f_cells f_sun f_all f_firstColumn f_lastColumn o_kind o_wet o_wide o_rows o_cells o_sun o_all o_firstColumn o_lastColumn (x2 + 1)))))
def fX0_becomeLike (n : Nat) (f_kind : Nat → Int32) (f_wet : Nat → Int32) (f_wide : Int32) (f_rows : Int32) (f_cells : Int32) (f_sun : Int32) (f_all : Int32) (f_firstColumn : Int32) (f_lastColumn : Int32) (o_kind : Nat → Int32) (o_wet : Nat → Int32) (o_wide : Int32) (o_rows : Int32) (o_cells : Int32) (o_sun : Int32) (o_all : Int32) (o_firstColumn : Int32) (o_lastColumn : Int32)  : Option ((Nat → Int32) × (Nat → Int32) × Int32 × Int32 × Int32 × Int32 × Int32 × Int32 × Int32) := fX0_becomeLike_58 n n f_kind f_wet o_wide o_rows o_cells o_sun o_all o_firstColumn o_lastColumn o_kind o_wet o_wide o_rows o_cells o_sun o_all o_firstColumn o_lastColumn (0 : Int32)
theorem mdX0_becomeLike : yX0_becomeLike.cls = RX0 ∧ yX0_becomeLike.cls ≠ "java/lang/invoke/MethodHandle" ∧ yX0_becomeLike.cls ≠ "java/lang/invoke/VarHandle" ∧ (parseMethodDescriptor yX0_becomeLike.desc).map (fun d => d.parameters.length) = some 1 := by decide +kernel
set_option maxHeartbeats 4000000 in
set_option maxRecDepth 100000 in
theorem bX0_becomeLike_58 {p : Program} {l : Launch} {e : Env} {s : State} {m : MethodId} {args : Array Value} {below : List Frame} {meth : Method} {c : Code} {A : Nat → Prop} {D : va_G} {cI cS : ClassId} (a_f a_f_kind a_f_wet a_o a_o_kind a_o_wet : Nat) (Cc : Cx p s m args meth c RX0 cX0_becomeLike 3 none) (hK : va_K D classes (tysA cI cS) s) (hA : ∀ q, s.heap.size ≤ q → A q) (n : Nat) : ∀ (k : Nat) (f_kind : Nat → Int32) (f_wet : Nat → Int32) (f_wide : Int32) (f_rows : Int32) (f_cells : Int32) (f_sun : Int32) (f_all : Int32) (f_firstColumn : Int32) (f_lastColumn : Int32) (o_kind : Nat → Int32) (o_wet : Nat → Int32) (o_wide : Int32) (o_rows : Int32) (o_cells : Int32) (o_sun : Int32) (o_all : Int32) (o_firstColumn : Int32) (o_lastColumn : Int32) (x2 : Int32) (f_kind' : Nat → Int32) (f_wet' : Nat → Int32) (f_wide' : Int32) (f_rows' : Int32) (f_cells' : Int32) (f_sun' : Int32) (f_all' : Int32) (f_firstColumn' : Int32) (f_lastColumn' : Int32), fX0_becomeLike_58 n k f_kind f_wet f_wide f_rows f_cells f_sun f_all f_firstColumn f_lastColumn o_kind o_wet o_wide o_rows o_cells o_sun o_all o_firstColumn o_lastColumn x2 = some (f_kind', f_wet', f_wide', f_rows', f_cells', f_sun', f_all', f_firstColumn', f_lastColumn') → ∀ (H : Heap) (locs : List Loc) (ls : Array Slot), va_P D classes (W_fo cI cS a_f a_f_kind a_f_wet a_o a_o_kind a_o_wet f_kind f_wet f_wide f_rows f_cells f_sun f_all f_firstColumn f_lastColumn o_kind o_wet o_wide o_rows o_cells o_sun o_all o_firstColumn o_lastColumn) H → va_D A (W_fo cI cS a_f a_f_kind a_f_wet a_o a_o_kind a_o_wet f_kind f_wet f_wide f_rows f_cells f_sun f_all f_firstColumn f_lastColumn o_kind o_wet o_wide o_rows o_cells o_sun o_all o_firstColumn o_lastColumn) → va_S A s.heap H locs → lv_has ls 3 [(0, .ref a_f), (1, .ref a_o), (2, .int x2)] → W p l e (Rm 0) s m args below meth c H locs 0 0 (MQ below (QW D (tysA cI cS) none (W_fo cI cS a_f a_f_kind a_f_wet a_o a_o_kind a_o_wet f_kind' f_wet' f_wide' f_rows' f_cells' f_sun' f_all' f_firstColumn' f_lastColumn' o_kind o_wet o_wide o_rows o_cells o_sun o_all o_firstColumn o_lastColumn) A) args s 0 0 A) (F0 m 58 ls []) := by
  obtain ⟨hx, hb, hr, hml, hown, hts, hlk, hnw⟩ := id Cc
  intro k
  induction k with
  | zero =>
    intro f_kind f_wet f_wide f_rows f_cells f_sun f_all f_firstColumn f_lastColumn o_kind o_wet o_wide o_rows o_cells o_sun o_all o_firstColumn o_lastColumn x2 f_kind' f_wet' f_wide' f_rows' f_cells' f_sun' f_all' f_firstColumn' f_lastColumn' hf
    rw [fX0_becomeLike_58] at hf
    cases hf
  | succ k ih =>
    intro f_kind f_wet f_wide f_rows f_cells f_sun f_all f_firstColumn f_lastColumn o_kind o_wet o_wide o_rows o_cells o_sun o_all o_firstColumn o_lastColumn x2 f_kind' f_wet' f_wide' f_rows' f_cells' f_sun' f_all' f_firstColumn' f_lastColumn' hf H locs ls hP hD hS hl
    rw [fX0_becomeLike_58] at hf
    refine lv_iload_n hx hb dX0_becomeLike_58 rfl (lv_at hl 2 rfl) ?_
    refine lv_aload_n hx hb dX0_becomeLike_59 rfl (lv_at hl 0 rfl) ?_
    refine va_get (D := D) (ci := 0) (v := .int f_cells) (C := RX0) (T := TX0) (N := 9) hx hb hts inX0 hown hK hP 0 rfl rfl 4 (by decide) (hts _ tw_33) (fun _ h9 => h9) rfl dX0_becomeLike_60 ?_
    refine lv_icmp_ge (tgt := 96) hx hb dX0_becomeLike_63 (by decide) (fun hc1 => ?_) (fun hc1 => ?_)
    · replace hf := (if_pos hc1).symm.trans hf
      replace hf := Option.some.inj hf
      obtain ⟨er0, er1⟩ := Prod.mk.inj hf
      obtain ⟨er2, er3⟩ := Prod.mk.inj er1
      obtain ⟨er4, er5⟩ := Prod.mk.inj er3
      obtain ⟨er6, er7⟩ := Prod.mk.inj er5
      obtain ⟨er8, er9⟩ := Prod.mk.inj er7
      obtain ⟨er10, er11⟩ := Prod.mk.inj er9
      obtain ⟨er12, er13⟩ := Prod.mk.inj er11
      obtain ⟨er14, er15⟩ := Prod.mk.inj er13
      clear hf er1 er3 er5 er7 er9 er11 er13
      subst er0
      subst er2
      subst er4
      subst er6
      subst er8
      subst er10
      subst er12
      subst er14
      subst er15
      exact rt_v Cc hK hP hD hS dX0_becomeLike_96
    · replace hf := (if_neg hc1).symm.trans hf
      refine lv_aload_n hx hb dX0_becomeLike_66 rfl (lv_at hl 0 rfl) ?_
      refine va_get (D := D) (ci := 0) (v := .ref a_f_kind) (C := RX0) (T := TX0) (N := 9) hx hb hts inX0 hown hK hP 0 rfl rfl 0 (by decide) (hts _ tw_24) (fun _ h9 => h9) rfl dX0_becomeLike_67 ?_
      refine lv_iload_n hx hb dX0_becomeLike_70 rfl (lv_at hl 2 rfl) ?_
      refine lv_aload_n hx hb dX0_becomeLike_71 rfl (lv_at hl 1 rfl) ?_
      refine va_get (D := D) (ci := 0) (v := .ref a_o_kind) (C := RX0) (T := TX0) (N := 9) hx hb hts inX0 hown hK hP 3 rfl rfl 0 (by decide) (hts _ tw_24) (fun _ h9 => h9) rfl dX0_becomeLike_72 ?_
      refine lv_iload_n hx hb dX0_becomeLike_75 rfl (lv_at hl 2 rfl) ?_
      obtain ⟨hin, hf⟩ := gd_some hf
      refine va_iald hx hb hK hP 4 0 rfl rfl hin dX0_becomeLike_76 ?_
      obtain ⟨hin, hf⟩ := gd_some hf
      refine va_iast hx hb hK hP hD hS 1 0 rfl rfl hin dX0_becomeLike_77 (fun H locs hP hD hS => ?_)
      have hP : va_P D classes (W_fo cI cS a_f a_f_kind a_f_wet a_o a_o_kind a_o_wet (upd f_kind x2.toNatClampNeg (o_kind x2.toNatClampNeg)) f_wet f_wide f_rows f_cells f_sun f_all f_firstColumn f_lastColumn o_kind o_wet o_wide o_rows o_cells o_sun o_all o_firstColumn o_lastColumn) H := hP
      have hD : va_D A (W_fo cI cS a_f a_f_kind a_f_wet a_o a_o_kind a_o_wet (upd f_kind x2.toNatClampNeg (o_kind x2.toNatClampNeg)) f_wet f_wide f_rows f_cells f_sun f_all f_firstColumn f_lastColumn o_kind o_wet o_wide o_rows o_cells o_sun o_all o_firstColumn o_lastColumn) := hD
      refine lv_aload_n hx hb dX0_becomeLike_78 rfl (lv_at hl 0 rfl) ?_
      refine va_get (D := D) (ci := 0) (v := .ref a_f_wet) (C := RX0) (T := TX0) (N := 9) hx hb hts inX0 hown hK hP 0 rfl rfl 1 (by decide) (hts _ tw_26) (fun _ h9 => h9) rfl dX0_becomeLike_79 ?_
      refine lv_iload_n hx hb dX0_becomeLike_82 rfl (lv_at hl 2 rfl) ?_
      refine lv_aload_n hx hb dX0_becomeLike_83 rfl (lv_at hl 1 rfl) ?_
      refine va_get (D := D) (ci := 0) (v := .ref a_o_wet) (C := RX0) (T := TX0) (N := 9) hx hb hts inX0 hown hK hP 3 rfl rfl 1 (by decide) (hts _ tw_26) (fun _ h9 => h9) rfl dX0_becomeLike_84 ?_
      refine lv_iload_n hx hb dX0_becomeLike_87 rfl (lv_at hl 2 rfl) ?_
      obtain ⟨hin, hf⟩ := gd_some hf
      refine va_iald hx hb hK hP 5 0 rfl rfl hin dX0_becomeLike_88 ?_
      obtain ⟨hin, hf⟩ := gd_some hf
      refine va_iast hx hb hK hP hD hS 2 0 rfl rfl hin dX0_becomeLike_89 (fun H locs hP hD hS => ?_)
      have hP : va_P D classes (W_fo cI cS a_f a_f_kind a_f_wet a_o a_o_kind a_o_wet (upd f_kind x2.toNatClampNeg (o_kind x2.toNatClampNeg)) (upd f_wet x2.toNatClampNeg (o_wet x2.toNatClampNeg)) f_wide f_rows f_cells f_sun f_all f_firstColumn f_lastColumn o_kind o_wet o_wide o_rows o_cells o_sun o_all o_firstColumn o_lastColumn) H := hP
      have hD : va_D A (W_fo cI cS a_f a_f_kind a_f_wet a_o a_o_kind a_o_wet (upd f_kind x2.toNatClampNeg (o_kind x2.toNatClampNeg)) (upd f_wet x2.toNatClampNeg (o_wet x2.toNatClampNeg)) f_wide f_rows f_cells f_sun f_all f_firstColumn f_lastColumn o_kind o_wet o_wide o_rows o_cells o_sun o_all o_firstColumn o_lastColumn) := hD
      refine lv_iinc (v := (x2 + 1)) (lv' := [(2, .int (x2 + 1)), (0, .ref a_f), (1, .ref a_o)]) hx hb dX0_becomeLike_90 hl (k := 2) rfl rfl (by decide) rfl (fun ls hl => ?_)
      refine lv_goto (tgt := 58) hx hb dX0_becomeLike_93 (by decide) ?_
      exact ih _ _ _ _ _ _ _ _ _ _ _ _ _ _ _ _ _ _ _ _ _ _ _ _ _ _ _ _ hf _ _ _ hP hD hS (lv_sub hl [1, 2, 0] rfl)
set_option maxHeartbeats 4000000 in
set_option maxRecDepth 100000 in
theorem ctX0_becomeLike (l : Launch) (D : va_G) (cI cS : ClassId) (a_f a_f_kind a_f_wet a_o a_o_kind a_o_wet : Nat) (f_kind : Nat → Int32) (f_wet : Nat → Int32) (f_wide : Int32) (f_rows : Int32) (f_cells : Int32) (f_sun : Int32) (f_all : Int32) (f_firstColumn : Int32) (f_lastColumn : Int32) (o_kind : Nat → Int32) (o_wet : Nat → Int32) (o_wide : Int32) (o_rows : Int32) (o_cells : Int32) (o_sun : Int32) (o_all : Int32) (o_firstColumn : Int32) (o_lastColumn : Int32)  (n : Nat) (f_kind' : Nat → Int32) (f_wet' : Nat → Int32) (f_wide' : Int32) (f_rows' : Int32) (f_cells' : Int32) (f_sun' : Int32) (f_all' : Int32) (f_firstColumn' : Int32) (f_lastColumn' : Int32) (hf : fX0_becomeLike n f_kind f_wet f_wide f_rows f_cells f_sun f_all f_firstColumn f_lastColumn o_kind o_wet o_wide o_rows o_cells o_sun o_all o_firstColumn o_lastColumn  = some (f_kind', f_wet', f_wide', f_rows', f_cells', f_sun', f_all', f_firstColumn', f_lastColumn')) : Ct l D (tysA cI cS) yX0_becomeLike cX0_becomeLike 3 none (Rm 0) [.ref a_f, .ref a_o] (W_fo cI cS a_f a_f_kind a_f_wet a_o a_o_kind a_o_wet f_kind f_wet f_wide f_rows f_cells f_sun f_all f_firstColumn f_lastColumn o_kind o_wet o_wide o_rows o_cells o_sun o_all o_firstColumn o_lastColumn) none (W_fo cI cS a_f a_f_kind a_f_wet a_o a_o_kind a_o_wet f_kind' f_wet' f_wide' f_rows' f_cells' f_sun' f_all' f_firstColumn' f_lastColumn' o_kind o_wet o_wide o_rows o_cells o_sun o_all o_firstColumn o_lastColumn) := by
  refine Ct_of (by decide) (Nat.le_of_ble_eq_true rfl) ?_
  intro p e s m args below meth c A ls Cc hK hA hP hD hS hl
  have hl : lv_has ls 3 [(0, .ref a_f), (1, .ref a_o)] := hl
  obtain ⟨hx, hb, hr, hml, hown, hts, hlk, hnw⟩ := id Cc
  unfold fX0_becomeLike at hf
  refine lv_aload_n hx hb dX0_becomeLike_0 rfl (lv_at hl 0 rfl) ?_
  refine lv_aload_n hx hb dX0_becomeLike_1 rfl (lv_at hl 1 rfl) ?_
  refine va_get (D := D) (ci := 0) (v := .int o_wide) (C := RX0) (T := TX0) (N := 9) hx hb hts inX0 hown hK hP 3 rfl rfl 2 (by decide) (hts _ tw_29) (fun _ h9 => h9) rfl dX0_becomeLike_2 ?_
  refine va_put (D := D) (ci := 0) (v := .int o_wide) (ty := .int) (C := RX0) (T := TX0) (N := 9) hx hb hts inX0 tyX0 tyX0_ok nmX0 hown hK hP hD hS 0 rfl rfl 2 (by decide) (hts _ tw_29) (fun _ h9 => h9) rfl (tyX0_ok 2 (by decide)) rfl rfl (Nat.le_of_ble_eq_true rfl) dX0_becomeLike_5 (fun H locs hP hD hS => ?_)
  have hP : va_P D classes (W_fo cI cS a_f a_f_kind a_f_wet a_o a_o_kind a_o_wet f_kind f_wet o_wide f_rows f_cells f_sun f_all f_firstColumn f_lastColumn o_kind o_wet o_wide o_rows o_cells o_sun o_all o_firstColumn o_lastColumn) H := hP
  have hD : va_D A (W_fo cI cS a_f a_f_kind a_f_wet a_o a_o_kind a_o_wet f_kind f_wet o_wide f_rows f_cells f_sun f_all f_firstColumn f_lastColumn o_kind o_wet o_wide o_rows o_cells o_sun o_all o_firstColumn o_lastColumn) := hD
  refine lv_aload_n hx hb dX0_becomeLike_8 rfl (lv_at hl 0 rfl) ?_
  refine lv_aload_n hx hb dX0_becomeLike_9 rfl (lv_at hl 1 rfl) ?_
  refine va_get (D := D) (ci := 0) (v := .int o_rows) (C := RX0) (T := TX0) (N := 9) hx hb hts inX0 hown hK hP 3 rfl rfl 3 (by decide) (hts _ tw_31) (fun _ h9 => h9) rfl dX0_becomeLike_10 ?_
  refine va_put (D := D) (ci := 0) (v := .int o_rows) (ty := .int) (C := RX0) (T := TX0) (N := 9) hx hb hts inX0 tyX0 tyX0_ok nmX0 hown hK hP hD hS 0 rfl rfl 3 (by decide) (hts _ tw_31) (fun _ h9 => h9) rfl (tyX0_ok 3 (by decide)) rfl rfl (Nat.le_of_ble_eq_true rfl) dX0_becomeLike_13 (fun H locs hP hD hS => ?_)
  have hP : va_P D classes (W_fo cI cS a_f a_f_kind a_f_wet a_o a_o_kind a_o_wet f_kind f_wet o_wide o_rows f_cells f_sun f_all f_firstColumn f_lastColumn o_kind o_wet o_wide o_rows o_cells o_sun o_all o_firstColumn o_lastColumn) H := hP
  have hD : va_D A (W_fo cI cS a_f a_f_kind a_f_wet a_o a_o_kind a_o_wet f_kind f_wet o_wide o_rows f_cells f_sun f_all f_firstColumn f_lastColumn o_kind o_wet o_wide o_rows o_cells o_sun o_all o_firstColumn o_lastColumn) := hD
  refine lv_aload_n hx hb dX0_becomeLike_16 rfl (lv_at hl 0 rfl) ?_
  refine lv_aload_n hx hb dX0_becomeLike_17 rfl (lv_at hl 1 rfl) ?_
  refine va_get (D := D) (ci := 0) (v := .int o_cells) (C := RX0) (T := TX0) (N := 9) hx hb hts inX0 hown hK hP 3 rfl rfl 4 (by decide) (hts _ tw_33) (fun _ h9 => h9) rfl dX0_becomeLike_18 ?_
  refine va_put (D := D) (ci := 0) (v := .int o_cells) (ty := .int) (C := RX0) (T := TX0) (N := 9) hx hb hts inX0 tyX0 tyX0_ok nmX0 hown hK hP hD hS 0 rfl rfl 4 (by decide) (hts _ tw_33) (fun _ h9 => h9) rfl (tyX0_ok 4 (by decide)) rfl rfl (Nat.le_of_ble_eq_true rfl) dX0_becomeLike_21 (fun H locs hP hD hS => ?_)
  have hP : va_P D classes (W_fo cI cS a_f a_f_kind a_f_wet a_o a_o_kind a_o_wet f_kind f_wet o_wide o_rows o_cells f_sun f_all f_firstColumn f_lastColumn o_kind o_wet o_wide o_rows o_cells o_sun o_all o_firstColumn o_lastColumn) H := hP
  have hD : va_D A (W_fo cI cS a_f a_f_kind a_f_wet a_o a_o_kind a_o_wet f_kind f_wet o_wide o_rows o_cells f_sun f_all f_firstColumn f_lastColumn o_kind o_wet o_wide o_rows o_cells o_sun o_all o_firstColumn o_lastColumn) := hD
  refine lv_aload_n hx hb dX0_becomeLike_24 rfl (lv_at hl 0 rfl) ?_
  refine lv_aload_n hx hb dX0_becomeLike_25 rfl (lv_at hl 1 rfl) ?_
  refine va_get (D := D) (ci := 0) (v := .int o_sun) (C := RX0) (T := TX0) (N := 9) hx hb hts inX0 hown hK hP 3 rfl rfl 5 (by decide) (hts _ tw_35) (fun _ h9 => h9) rfl dX0_becomeLike_26 ?_
  refine va_put (D := D) (ci := 0) (v := .int o_sun) (ty := .int) (C := RX0) (T := TX0) (N := 9) hx hb hts inX0 tyX0 tyX0_ok nmX0 hown hK hP hD hS 0 rfl rfl 5 (by decide) (hts _ tw_35) (fun _ h9 => h9) rfl (tyX0_ok 5 (by decide)) rfl rfl (Nat.le_of_ble_eq_true rfl) dX0_becomeLike_29 (fun H locs hP hD hS => ?_)
  have hP : va_P D classes (W_fo cI cS a_f a_f_kind a_f_wet a_o a_o_kind a_o_wet f_kind f_wet o_wide o_rows o_cells o_sun f_all f_firstColumn f_lastColumn o_kind o_wet o_wide o_rows o_cells o_sun o_all o_firstColumn o_lastColumn) H := hP
  have hD : va_D A (W_fo cI cS a_f a_f_kind a_f_wet a_o a_o_kind a_o_wet f_kind f_wet o_wide o_rows o_cells o_sun f_all f_firstColumn f_lastColumn o_kind o_wet o_wide o_rows o_cells o_sun o_all o_firstColumn o_lastColumn) := hD
  refine lv_aload_n hx hb dX0_becomeLike_32 rfl (lv_at hl 0 rfl) ?_
  refine lv_aload_n hx hb dX0_becomeLike_33 rfl (lv_at hl 1 rfl) ?_
  refine va_get (D := D) (ci := 0) (v := .int o_all) (C := RX0) (T := TX0) (N := 9) hx hb hts inX0 hown hK hP 3 rfl rfl 6 (by decide) (hts _ tw_38) (fun _ h9 => h9) rfl dX0_becomeLike_34 ?_
  refine va_put (D := D) (ci := 0) (v := .int o_all) (ty := .int) (C := RX0) (T := TX0) (N := 9) hx hb hts inX0 tyX0 tyX0_ok nmX0 hown hK hP hD hS 0 rfl rfl 6 (by decide) (hts _ tw_38) (fun _ h9 => h9) rfl (tyX0_ok 6 (by decide)) rfl rfl (Nat.le_of_ble_eq_true rfl) dX0_becomeLike_37 (fun H locs hP hD hS => ?_)
  have hP : va_P D classes (W_fo cI cS a_f a_f_kind a_f_wet a_o a_o_kind a_o_wet f_kind f_wet o_wide o_rows o_cells o_sun o_all f_firstColumn f_lastColumn o_kind o_wet o_wide o_rows o_cells o_sun o_all o_firstColumn o_lastColumn) H := hP
  have hD : va_D A (W_fo cI cS a_f a_f_kind a_f_wet a_o a_o_kind a_o_wet f_kind f_wet o_wide o_rows o_cells o_sun o_all f_firstColumn f_lastColumn o_kind o_wet o_wide o_rows o_cells o_sun o_all o_firstColumn o_lastColumn) := hD
  refine lv_aload_n hx hb dX0_becomeLike_40 rfl (lv_at hl 0 rfl) ?_
  refine lv_aload_n hx hb dX0_becomeLike_41 rfl (lv_at hl 1 rfl) ?_
  refine va_get (D := D) (ci := 0) (v := .int o_firstColumn) (C := RX0) (T := TX0) (N := 9) hx hb hts inX0 hown hK hP 3 rfl rfl 7 (by decide) (hts _ tw_40) (fun _ h9 => h9) rfl dX0_becomeLike_42 ?_
  refine va_put (D := D) (ci := 0) (v := .int o_firstColumn) (ty := .int) (C := RX0) (T := TX0) (N := 9) hx hb hts inX0 tyX0 tyX0_ok nmX0 hown hK hP hD hS 0 rfl rfl 7 (by decide) (hts _ tw_40) (fun _ h9 => h9) rfl (tyX0_ok 7 (by decide)) rfl rfl (Nat.le_of_ble_eq_true rfl) dX0_becomeLike_45 (fun H locs hP hD hS => ?_)
  have hP : va_P D classes (W_fo cI cS a_f a_f_kind a_f_wet a_o a_o_kind a_o_wet f_kind f_wet o_wide o_rows o_cells o_sun o_all o_firstColumn f_lastColumn o_kind o_wet o_wide o_rows o_cells o_sun o_all o_firstColumn o_lastColumn) H := hP
  have hD : va_D A (W_fo cI cS a_f a_f_kind a_f_wet a_o a_o_kind a_o_wet f_kind f_wet o_wide o_rows o_cells o_sun o_all o_firstColumn f_lastColumn o_kind o_wet o_wide o_rows o_cells o_sun o_all o_firstColumn o_lastColumn) := hD
  refine lv_aload_n hx hb dX0_becomeLike_48 rfl (lv_at hl 0 rfl) ?_
  refine lv_aload_n hx hb dX0_becomeLike_49 rfl (lv_at hl 1 rfl) ?_
  refine va_get (D := D) (ci := 0) (v := .int o_lastColumn) (C := RX0) (T := TX0) (N := 9) hx hb hts inX0 hown hK hP 3 rfl rfl 8 (by decide) (hts _ tw_41) (fun _ h9 => h9) rfl dX0_becomeLike_50 ?_
  refine va_put (D := D) (ci := 0) (v := .int o_lastColumn) (ty := .int) (C := RX0) (T := TX0) (N := 9) hx hb hts inX0 tyX0 tyX0_ok nmX0 hown hK hP hD hS 0 rfl rfl 8 (by decide) (hts _ tw_41) (fun _ h9 => h9) rfl (tyX0_ok 8 (by decide)) rfl rfl (Nat.le_of_ble_eq_true rfl) dX0_becomeLike_53 (fun H locs hP hD hS => ?_)
  have hP : va_P D classes (W_fo cI cS a_f a_f_kind a_f_wet a_o a_o_kind a_o_wet f_kind f_wet o_wide o_rows o_cells o_sun o_all o_firstColumn o_lastColumn o_kind o_wet o_wide o_rows o_cells o_sun o_all o_firstColumn o_lastColumn) H := hP
  have hD : va_D A (W_fo cI cS a_f a_f_kind a_f_wet a_o a_o_kind a_o_wet f_kind f_wet o_wide o_rows o_cells o_sun o_all o_firstColumn o_lastColumn o_kind o_wet o_wide o_rows o_cells o_sun o_all o_firstColumn o_lastColumn) := hD
  refine lv_iconst (v := (0 : Int32)) hx hb dX0_becomeLike_56 (by decide) ?_
  refine lv_istore_n (lv' := [(2, .int (0 : Int32)), (0, .ref a_f), (1, .ref a_o)]) hx hb dX0_becomeLike_57 rfl hl (by decide) rfl (fun ls hl => ?_)
  exact bX0_becomeLike_58 a_f a_f_kind a_f_wet a_o a_o_kind a_o_wet Cc hK hA n n _ _ _ _ _ _ _ _ _ _ _ _ _ _ _ _ _ _ _ _ _ _ _ _ _ _ _ _ hf _ _ _ hP hD hS (lv_sub hl [1, 2, 0] rfl)
-- X0_isThere
def fX0_isThere (n : Nat) (f_cells : Int32)  : Option (Int32) := if f_cells ≤ 0 then some ((0 : Int32)) else some ((1 : Int32))
theorem mdX0_isThere : yX0_isThere.cls = RX0 ∧ yX0_isThere.cls ≠ "java/lang/invoke/MethodHandle" ∧ yX0_isThere.cls ≠ "java/lang/invoke/VarHandle" ∧ (parseMethodDescriptor yX0_isThere.desc).map (fun d => d.parameters.length) = some 0 := by decide +kernel
set_option maxHeartbeats 4000000 in
set_option maxRecDepth 100000 in
theorem ctX0_isThere (l : Launch) (D : va_G) (cI cS : ClassId) (a_f a_f_kind a_f_wet : Nat) (f_kind : Nat → Int32) (f_wet : Nat → Int32) (f_wide : Int32) (f_rows : Int32) (f_cells : Int32) (f_sun : Int32) (f_all : Int32) (f_firstColumn : Int32) (f_lastColumn : Int32)  (n : Nat) (r : Int32) (hf : fX0_isThere n f_cells  = some (r)) : Ct l D (tysA cI cS) yX0_isThere cX0_isThere 1 (some .boolean) (Rm 0) [.ref a_f] (W_f cI cS a_f a_f_kind a_f_wet f_kind f_wet f_wide f_rows f_cells f_sun f_all f_firstColumn f_lastColumn) (some (.int r)) (W_f cI cS a_f a_f_kind a_f_wet f_kind f_wet f_wide f_rows f_cells f_sun f_all f_firstColumn f_lastColumn) := by
  refine Ct_of (by decide) (Nat.le_of_ble_eq_true rfl) ?_
  intro p e s m args below meth c A ls Cc hK hA hP hD hS hl
  have hl : lv_has ls 1 [(0, .ref a_f)] := hl
  obtain ⟨hx, hb, hr, hml, hown, hts, hlk, hnw⟩ := id Cc
  unfold fX0_isThere at hf
  refine lv_aload_n hx hb dX0_isThere_0 rfl (lv_at hl 0 rfl) ?_
  refine va_get (D := D) (ci := 0) (v := .int f_cells) (C := RX0) (T := TX0) (N := 9) hx hb hts inX0 hown hK hP 0 rfl rfl 4 (by decide) (hts _ tw_33) (fun _ h9 => h9) rfl dX0_isThere_1 ?_
  refine lv_if_le (tgt := 11) hx hb dX0_isThere_4 (by decide) (fun hc1 => ?_) (fun hc1 => ?_)
  · replace hf := (if_pos hc1).symm.trans hf
    refine lv_iconst (v := (0 : Int32)) hx hb dX0_isThere_11 (by decide) ?_
    obtain rfl := Option.some.inj hf
    exact rt_z Cc (by decide) hK hP hD hS dX0_isThere_12
  · replace hf := (if_neg hc1).symm.trans hf
    refine lv_iconst (v := (1 : Int32)) hx hb dX0_isThere_7 (by decide) ?_
    refine lv_goto (tgt := 12) hx hb dX0_isThere_8 (by decide) ?_
    obtain rfl := Option.some.inj hf
    exact rt_z Cc (by decide) hK hP hD hS dX0_isThere_12
-- X0_isCell
def fX0_isCell (n : Nat) (f_cells : Int32) (p1 : Int32) : Option (Int32) := if p1 < 0 then some ((0 : Int32)) else if f_cells ≤ p1 then some ((0 : Int32)) else some ((1 : Int32))
theorem mdX0_isCell : yX0_isCell.cls = RX0 ∧ yX0_isCell.cls ≠ "java/lang/invoke/MethodHandle" ∧ yX0_isCell.cls ≠ "java/lang/invoke/VarHandle" ∧ (parseMethodDescriptor yX0_isCell.desc).map (fun d => d.parameters.length) = some 1 := by decide +kernel
set_option maxHeartbeats 4000000 in
set_option maxRecDepth 100000 in
theorem ctX0_isCell (l : Launch) (D : va_G) (cI cS : ClassId) (a_f a_f_kind a_f_wet : Nat) (f_kind : Nat → Int32) (f_wet : Nat → Int32) (f_wide : Int32) (f_rows : Int32) (f_cells : Int32) (f_sun : Int32) (f_all : Int32) (f_firstColumn : Int32) (f_lastColumn : Int32) (p1 : Int32) (n : Nat) (r : Int32) (hf : fX0_isCell n f_cells p1 = some (r)) : Ct l D (tysA cI cS) yX0_isCell cX0_isCell 2 (some .boolean) (Rm 0) [.ref a_f, .int p1] (W_f cI cS a_f a_f_kind a_f_wet f_kind f_wet f_wide f_rows f_cells f_sun f_all f_firstColumn f_lastColumn) (some (.int r)) (W_f cI cS a_f a_f_kind a_f_wet f_kind f_wet f_wide f_rows f_cells f_sun f_all f_firstColumn f_lastColumn) := by
  refine Ct_of (by decide) (Nat.le_of_ble_eq_true rfl) ?_
  intro p e s m args below meth c A ls Cc hK hA hP hD hS hl
  have hl : lv_has ls 2 [(0, .ref a_f), (1, .int p1)] := hl
  obtain ⟨hx, hb, hr, hml, hown, hts, hlk, hnw⟩ := id Cc
  unfold fX0_isCell at hf
  refine lv_iload_n hx hb dX0_isCell_0 rfl (lv_at hl 1 rfl) ?_
  refine lv_if_lt (tgt := 16) hx hb dX0_isCell_1 (by decide) (fun hc1 => ?_) (fun hc1 => ?_)
  · replace hf := (if_pos hc1).symm.trans hf
    refine lv_iconst (v := (0 : Int32)) hx hb dX0_isCell_16 (by decide) ?_
    obtain rfl := Option.some.inj hf
    exact rt_z Cc (by decide) hK hP hD hS dX0_isCell_17
  · replace hf := (if_neg hc1).symm.trans hf
    refine lv_iload_n hx hb dX0_isCell_4 rfl (lv_at hl 1 rfl) ?_
    refine lv_aload_n hx hb dX0_isCell_5 rfl (lv_at hl 0 rfl) ?_
    refine va_get (D := D) (ci := 0) (v := .int f_cells) (C := RX0) (T := TX0) (N := 9) hx hb hts inX0 hown hK hP 0 rfl rfl 4 (by decide) (hts _ tw_33) (fun _ h9 => h9) rfl dX0_isCell_6 ?_
    refine lv_icmp_ge (tgt := 16) hx hb dX0_isCell_9 (by decide) (fun hc2 => ?_) (fun hc2 => ?_)
    · replace hf := (if_pos hc2).symm.trans hf
      refine lv_iconst (v := (0 : Int32)) hx hb dX0_isCell_16 (by decide) ?_
      obtain rfl := Option.some.inj hf
      exact rt_z Cc (by decide) hK hP hD hS dX0_isCell_17
    · replace hf := (if_neg hc2).symm.trans hf
      refine lv_iconst (v := (1 : Int32)) hx hb dX0_isCell_12 (by decide) ?_
      refine lv_goto (tgt := 17) hx hb dX0_isCell_13 (by decide) ?_
      obtain rfl := Option.some.inj hf
      exact rt_z Cc (by decide) hK hP hD hS dX0_isCell_17
-- X0_losesOf
def fX0_losesOf (n : Nat) (f_kind : Nat → Int32) (f_sun : Int32) (p1 : Int32) : Option (Int32) := gd p1 12 (if (f_kind p1.toNatClampNeg) = 1 then some ((f_sun + (1 : Int32))) else if (f_kind p1.toNatClampNeg) = 2 then some ((f_sun / (2 : Int32))) else some (f_sun))
theorem mdX0_losesOf : yX0_losesOf.cls = RX0 ∧ yX0_losesOf.cls ≠ "java/lang/invoke/MethodHandle" ∧ yX0_losesOf.cls ≠ "java/lang/invoke/VarHandle" ∧ (parseMethodDescriptor yX0_losesOf.desc).map (fun d => d.parameters.length) = some 1 := by decide +kernel
set_option maxHeartbeats 4000000 in
set_option maxRecDepth 100000 in
theorem ctX0_losesOf (l : Launch) (D : va_G) (cI cS : ClassId) (a_f a_f_kind a_f_wet : Nat) (f_kind : Nat → Int32) (f_wet : Nat → Int32) (f_wide : Int32) (f_rows : Int32) (f_cells : Int32) (f_sun : Int32) (f_all : Int32) (f_firstColumn : Int32) (f_lastColumn : Int32) (p1 : Int32) (n : Nat) (r : Int32) (hf : fX0_losesOf n f_kind f_sun p1 = some (r)) : Ct l D (tysA cI cS) yX0_losesOf cX0_losesOf 2 (some .int) (Rm 0) [.ref a_f, .int p1] (W_f cI cS a_f a_f_kind a_f_wet f_kind f_wet f_wide f_rows f_cells f_sun f_all f_firstColumn f_lastColumn) (some (.int r)) (W_f cI cS a_f a_f_kind a_f_wet f_kind f_wet f_wide f_rows f_cells f_sun f_all f_firstColumn f_lastColumn) := by
  refine Ct_of (by decide) (Nat.le_of_ble_eq_true rfl) ?_
  intro p e s m args below meth c A ls Cc hK hA hP hD hS hl
  have hl : lv_has ls 2 [(0, .ref a_f), (1, .int p1)] := hl
  obtain ⟨hx, hb, hr, hml, hown, hts, hlk, hnw⟩ := id Cc
  unfold fX0_losesOf at hf
  refine lv_aload_n hx hb dX0_losesOf_0 rfl (lv_at hl 0 rfl) ?_
  refine va_get (D := D) (ci := 0) (v := .ref a_f_kind) (C := RX0) (T := TX0) (N := 9) hx hb hts inX0 hown hK hP 0 rfl rfl 0 (by decide) (hts _ tw_24) (fun _ h9 => h9) rfl dX0_losesOf_1 ?_
  refine lv_iload_n hx hb dX0_losesOf_4 rfl (lv_at hl 1 rfl) ?_
  obtain ⟨hin, hf⟩ := gd_some hf
  refine va_iald hx hb hK hP 1 0 rfl rfl hin dX0_losesOf_5 ?_
  by_cases hs1_0 : (f_kind p1.toNatClampNeg) = 1
  · replace hf := (if_pos hs1_0).symm.trans hf
    refine lv_lookup (tgt := 32) (off := 26) hx hb dX0_losesOf_6 (by decide) (by rw [hs1_0]; decide) (by decide) ?_
    refine lv_aload_n hx hb dX0_losesOf_32 rfl (lv_at hl 0 rfl) ?_
    refine va_get (D := D) (ci := 0) (v := .int f_sun) (C := RX0) (T := TX0) (N := 9) hx hb hts inX0 hown hK hP 0 rfl rfl 5 (by decide) (hts _ tw_35) (fun _ h9 => h9) rfl dX0_losesOf_33 ?_
    refine lv_iconst (v := (1 : Int32)) hx hb dX0_losesOf_36 (by decide) ?_
    refine lv_iadd hx hb dX0_losesOf_37 ?_
    obtain rfl := Option.some.inj hf
    exact rt_i Cc hK hP hD hS dX0_losesOf_38
  · replace hf := (if_neg hs1_0).symm.trans hf
    by_cases hs1_1 : (f_kind p1.toNatClampNeg) = 2
    · replace hf := (if_pos hs1_1).symm.trans hf
      refine lv_lookup (tgt := 39) (off := 33) hx hb dX0_losesOf_6 (by decide) (by rw [hs1_1]; decide) (by decide) ?_
      refine lv_aload_n hx hb dX0_losesOf_39 rfl (lv_at hl 0 rfl) ?_
      refine va_get (D := D) (ci := 0) (v := .int f_sun) (C := RX0) (T := TX0) (N := 9) hx hb hts inX0 hown hK hP 0 rfl rfl 5 (by decide) (hts _ tw_35) (fun _ h9 => h9) rfl dX0_losesOf_40 ?_
      refine lv_iconst (v := (2 : Int32)) hx hb dX0_losesOf_43 (by decide) ?_
      refine lv_idiv hx hb dX0_losesOf_44 (by decide) ?_
      obtain rfl := Option.some.inj hf
      exact rt_i Cc hK hP hD hS dX0_losesOf_45
    · replace hf := (if_neg hs1_1).symm.trans hf
      refine lv_lookup (tgt := 46) (off := 40) hx hb dX0_losesOf_6 (by decide) (lk_out2 (k0 := 1) (k1 := 2) (nei hs1_0) (nei hs1_1)) (by decide) ?_
      refine lv_aload_n hx hb dX0_losesOf_46 rfl (lv_at hl 0 rfl) ?_
      refine va_get (D := D) (ci := 0) (v := .int f_sun) (C := RX0) (T := TX0) (N := 9) hx hb hts inX0 hown hK hP 0 rfl rfl 5 (by decide) (hts _ tw_35) (fun _ h9 => h9) rfl dX0_losesOf_47 ?_
      obtain rfl := Option.some.inj hf
      exact rt_i Cc hK hP hD hS dX0_losesOf_50
-- X0_passHours
def fX0_passHours_2 (n : Nat) : Nat → (Nat → Int32) → (Nat → Int32) → Int32 → Int32 → Int32 → Int32 → Option ((Nat → Int32))
  | 0, _, _, _, _, _, _ => none
  | k + 1, f_kind, f_wet, f_cells, f_sun, x1, x2 => if f_cells ≤ x2 then some (f_wet) else gd x2 12 ((fX0_losesOf n f_kind f_sun x2).bind fun q25_1 => gd x2 12 (fX0_passHours_2 n k f_kind (upd f_wet x2.toNatClampNeg (if (0 : Int32) < ((f_wet x2.toNatClampNeg) - (x1 * q25_1)) then ((f_wet x2.toNatClampNeg) - (x1 * q25_1)) else (0 : Int32))) f_cells f_sun x1 (x2 + 1)))
def fX0_passHours (n : Nat) (f_kind : Nat → Int32) (f_wet : Nat → Int32) (f_cells : Int32) (f_sun : Int32) (p1 : Int32) : Option ((Nat → Int32)) := fX0_passHours_2 n n f_kind f_wet f_cells f_sun p1 (0 : Int32)
theorem mdX0_passHours : yX0_passHours.cls = RX0 ∧ yX0_passHours.cls ≠ "java/lang/invoke/MethodHandle" ∧ yX0_passHours.cls ≠ "java/lang/invoke/VarHandle" ∧ (parseMethodDescriptor yX0_passHours.desc).map (fun d => d.parameters.length) = some 1 := by decide +kernel
set_option maxHeartbeats 4000000 in
set_option maxRecDepth 100000 in
theorem bX0_passHours_2 {p : Program} {l : Launch} {e : Env} {s : State} {m : MethodId} {args : Array Value} {below : List Frame} {meth : Method} {c : Code} {A : Nat → Prop} {D : va_G} {cI cS : ClassId} (a_f a_f_kind a_f_wet : Nat) (f_wide : Int32) (f_rows : Int32) (f_all : Int32) (f_firstColumn : Int32) (f_lastColumn : Int32) (Cc : Cx p s m args meth c RX0 cX0_passHours 3 none) (hK : va_K D classes (tysA cI cS) s) (hA : ∀ q, s.heap.size ≤ q → A q) (n : Nat) : ∀ (k : Nat) (f_kind : Nat → Int32) (f_wet : Nat → Int32) (f_cells : Int32) (f_sun : Int32) (x1 : Int32) (x2 : Int32) (f_wet' : Nat → Int32), fX0_passHours_2 n k f_kind f_wet f_cells f_sun x1 x2 = some (f_wet') → ∀ (H : Heap) (locs : List Loc) (ls : Array Slot), va_P D classes (W_f cI cS a_f a_f_kind a_f_wet f_kind f_wet f_wide f_rows f_cells f_sun f_all f_firstColumn f_lastColumn) H → va_D A (W_f cI cS a_f a_f_kind a_f_wet f_kind f_wet f_wide f_rows f_cells f_sun f_all f_firstColumn f_lastColumn) → va_S A s.heap H locs → lv_has ls 3 [(0, .ref a_f), (1, .int x1), (2, .int x2)] → W p l e (Rm 1) s m args below meth c H locs 0 0 (MQ below (QW D (tysA cI cS) none (W_f cI cS a_f a_f_kind a_f_wet f_kind f_wet' f_wide f_rows f_cells f_sun f_all f_firstColumn f_lastColumn) A) args s 0 0 A) (F0 m 2 ls []) := by
  obtain ⟨hx, hb, hr, hml, hown, hts, hlk, hnw⟩ := id Cc
  intro k
  induction k with
  | zero =>
    intro f_kind f_wet f_cells f_sun x1 x2 f_wet' hf
    rw [fX0_passHours_2] at hf
    cases hf
  | succ k ih =>
    intro f_kind f_wet f_cells f_sun x1 x2 f_wet' hf H locs ls hP hD hS hl
    rw [fX0_passHours_2] at hf
    refine lv_iload_n hx hb dX0_passHours_2 rfl (lv_at hl 2 rfl) ?_
    refine lv_aload_n hx hb dX0_passHours_3 rfl (lv_at hl 0 rfl) ?_
    refine va_get (D := D) (ci := 0) (v := .int f_cells) (C := RX0) (T := TX0) (N := 9) hx hb hts inX0 hown hK hP 0 rfl rfl 4 (by decide) (hts _ tw_33) (fun _ h9 => h9) rfl dX0_passHours_4 ?_
    refine lv_icmp_ge (tgt := 40) hx hb dX0_passHours_7 (by decide) (fun hc1 => ?_) (fun hc1 => ?_)
    · replace hf := (if_pos hc1).symm.trans hf
      obtain rfl := Option.some.inj hf
      exact rt_v Cc hK hP hD hS dX0_passHours_40
    · replace hf := (if_neg hc1).symm.trans hf
      refine lv_aload_n hx hb dX0_passHours_10 rfl (lv_at hl 0 rfl) ?_
      refine va_get (D := D) (ci := 0) (v := .ref a_f_wet) (C := RX0) (T := TX0) (N := 9) hx hb hts inX0 hown hK hP 0 rfl rfl 1 (by decide) (hts _ tw_26) (fun _ h9 => h9) rfl dX0_passHours_11 ?_
      refine lv_iload_n hx hb dX0_passHours_14 rfl (lv_at hl 2 rfl) ?_
      refine lv_iconst (v := (0 : Int32)) hx hb dX0_passHours_15 (by decide) ?_
      refine lv_aload_n hx hb dX0_passHours_16 rfl (lv_at hl 0 rfl) ?_
      refine va_get (D := D) (ci := 0) (v := .ref a_f_wet) (C := RX0) (T := TX0) (N := 9) hx hb hts inX0 hown hK hP 0 rfl rfl 1 (by decide) (hts _ tw_26) (fun _ h9 => h9) rfl dX0_passHours_17 ?_
      refine lv_iload_n hx hb dX0_passHours_20 rfl (lv_at hl 2 rfl) ?_
      obtain ⟨hin, hf⟩ := gd_some hf
      refine va_iald hx hb hK hP 2 0 rfl rfl hin dX0_passHours_21 ?_
      refine lv_iload_n hx hb dX0_passHours_22 rfl (lv_at hl 1 rfl) ?_
      refine lv_aload_n hx hb dX0_passHours_23 rfl (lv_at hl 0 rfl) ?_
      refine lv_iload_n hx hb dX0_passHours_24 rfl (lv_at hl 2 rfl) ?_
      obtain ⟨q25_1, hq2, hf⟩ := Option.bind_eq_some_iff.mp hf
      refine cV (ws' := (W_f cI cS a_f a_f_kind a_f_wet f_kind f_wet f_wide f_rows f_cells f_sun f_all f_firstColumn f_lastColumn)) (rest := [.int x1, .int (f_wet x2.toNatClampNeg), .int (0 : Int32), .int x2, .ref a_f_wet]) (st1 := [.int q25_1, .int x1, .int (f_wet x2.toNatClampNeg), .int (0 : Int32), .int x2, .ref a_f_wet]) Cc hK hA hP hD hS hl.1 (ctX0_losesOf l D cI cS a_f a_f_kind a_f_wet f_kind f_wet f_wide f_rows f_cells f_sun f_all f_firstColumn f_lastColumn x2 n q25_1 hq2) ⟨tw_222, tw_265, tw_220, tw_221, tw_2⟩ mdX0_losesOf ⟨rfl, rfl, Nat.le_of_ble_eq_true rfl, Nat.le_of_ble_eq_true rfl⟩ rfl dX0_passHours_25 rfl (Nat.le_of_ble_eq_true rfl) ⟨Nat.zero_le _, Nat.zero_le _⟩ rfl rfl rfl [0, 1, 2] [] [0, 1, 2] rfl rfl (by decide) rfl (fun H locs hP hD hS => ?_)
      refine lv_imul hx hb dX0_passHours_28 ?_
      refine lv_isub hx hb dX0_passHours_29 ?_
      refine va_mmax hx hb (hml.trans hl.1.symm) hown (hts _ tw_266) (hts _ tw_267) (hts _ tw_7) (hts _ tw_268) (Nat.le_of_ble_eq_true rfl) (Nat.le_of_ble_eq_true rfl) (Nat.zero_le _) (Nat.zero_le _) dX0_passHours_30 ?_
      obtain ⟨hin, hf⟩ := gd_some hf
      refine va_iast hx hb hK hP hD hS 2 0 rfl rfl hin dX0_passHours_33 (fun H locs hP hD hS => ?_)
      have hP : va_P D classes (W_f cI cS a_f a_f_kind a_f_wet f_kind (upd f_wet x2.toNatClampNeg (if (0 : Int32) < ((f_wet x2.toNatClampNeg) - (x1 * q25_1)) then ((f_wet x2.toNatClampNeg) - (x1 * q25_1)) else (0 : Int32))) f_wide f_rows f_cells f_sun f_all f_firstColumn f_lastColumn) H := hP
      have hD : va_D A (W_f cI cS a_f a_f_kind a_f_wet f_kind (upd f_wet x2.toNatClampNeg (if (0 : Int32) < ((f_wet x2.toNatClampNeg) - (x1 * q25_1)) then ((f_wet x2.toNatClampNeg) - (x1 * q25_1)) else (0 : Int32))) f_wide f_rows f_cells f_sun f_all f_firstColumn f_lastColumn) := hD
      refine lv_iinc (v := (x2 + 1)) (lv' := [(2, .int (x2 + 1)), (0, .ref a_f), (1, .int x1)]) hx hb dX0_passHours_34 hl (k := 2) rfl rfl (by decide) rfl (fun ls hl => ?_)
      refine lv_goto (tgt := 2) hx hb dX0_passHours_37 (by decide) ?_
      exact ih _ _ _ _ _ _ _ hf _ _ _ hP hD hS (lv_sub hl [1, 2, 0] rfl)
set_option maxHeartbeats 4000000 in
set_option maxRecDepth 100000 in
theorem ctX0_passHours (l : Launch) (D : va_G) (cI cS : ClassId) (a_f a_f_kind a_f_wet : Nat) (f_kind : Nat → Int32) (f_wet : Nat → Int32) (f_wide : Int32) (f_rows : Int32) (f_cells : Int32) (f_sun : Int32) (f_all : Int32) (f_firstColumn : Int32) (f_lastColumn : Int32) (p1 : Int32) (n : Nat) (f_wet' : Nat → Int32) (hf : fX0_passHours n f_kind f_wet f_cells f_sun p1 = some (f_wet')) : Ct l D (tysA cI cS) yX0_passHours cX0_passHours 3 none (Rm 1) [.ref a_f, .int p1] (W_f cI cS a_f a_f_kind a_f_wet f_kind f_wet f_wide f_rows f_cells f_sun f_all f_firstColumn f_lastColumn) none (W_f cI cS a_f a_f_kind a_f_wet f_kind f_wet' f_wide f_rows f_cells f_sun f_all f_firstColumn f_lastColumn) := by
  refine Ct_of (by decide) (Nat.le_of_ble_eq_true rfl) ?_
  intro p e s m args below meth c A ls Cc hK hA hP hD hS hl
  have hl : lv_has ls 3 [(0, .ref a_f), (1, .int p1)] := hl
  obtain ⟨hx, hb, hr, hml, hown, hts, hlk, hnw⟩ := id Cc
  unfold fX0_passHours at hf
  refine lv_iconst (v := (0 : Int32)) hx hb dX0_passHours_0 (by decide) ?_
  refine lv_istore_n (lv' := [(2, .int (0 : Int32)), (0, .ref a_f), (1, .int p1)]) hx hb dX0_passHours_1 rfl hl (by decide) rfl (fun ls hl => ?_)
  exact bX0_passHours_2 a_f a_f_kind a_f_wet f_wide f_rows f_all f_firstColumn f_lastColumn Cc hK hA n n _ _ _ _ _ _ _ hf _ _ _ hP hD hS (lv_sub hl [1, 2, 0] rfl)
-- X0_pourOn
def fX0_pourOn (n : Nat) (f_wet : Nat → Int32) (f_cells : Int32) (p1 : Int32) (p2 : Int32) : Option (Int32 × (Nat → Int32)) := (fX0_isCell n f_cells p1).bind fun q2_1 => if q2_1 = 0 then some ((0 : Int32), f_wet) else gd p1 12 (if (f_wet p1.toNatClampNeg) = 0 then some ((0 : Int32), f_wet) else gd p1 12 (gd p1 12 (some ((1 : Int32), (upd f_wet p1.toNatClampNeg (if ((f_wet p1.toNatClampNeg) + p2) < (9 : Int32) then ((f_wet p1.toNatClampNeg) + p2) else (9 : Int32)))))))
theorem mdX0_pourOn : yX0_pourOn.cls = RX0 ∧ yX0_pourOn.cls ≠ "java/lang/invoke/MethodHandle" ∧ yX0_pourOn.cls ≠ "java/lang/invoke/VarHandle" ∧ (parseMethodDescriptor yX0_pourOn.desc).map (fun d => d.parameters.length) = some 2 := by decide +kernel
set_option maxHeartbeats 4000000 in
set_option maxRecDepth 100000 in
theorem ctX0_pourOn (l : Launch) (D : va_G) (cI cS : ClassId) (a_f a_f_kind a_f_wet : Nat) (f_kind : Nat → Int32) (f_wet : Nat → Int32) (f_wide : Int32) (f_rows : Int32) (f_cells : Int32) (f_sun : Int32) (f_all : Int32) (f_firstColumn : Int32) (f_lastColumn : Int32) (p1 : Int32) (p2 : Int32) (n : Nat) (r : Int32) (f_wet' : Nat → Int32) (hf : fX0_pourOn n f_wet f_cells p1 p2 = some (r, f_wet')) : Ct l D (tysA cI cS) yX0_pourOn cX0_pourOn 3 (some .boolean) (Rm 1) [.ref a_f, .int p1, .int p2] (W_f cI cS a_f a_f_kind a_f_wet f_kind f_wet f_wide f_rows f_cells f_sun f_all f_firstColumn f_lastColumn) (some (.int r)) (W_f cI cS a_f a_f_kind a_f_wet f_kind f_wet' f_wide f_rows f_cells f_sun f_all f_firstColumn f_lastColumn) := by
  refine Ct_of (by decide) (Nat.le_of_ble_eq_true rfl) ?_
  intro p e s m args below meth c A ls Cc hK hA hP hD hS hl
  have hl : lv_has ls 3 [(0, .ref a_f), (1, .int p1), (2, .int p2)] := hl
  obtain ⟨hx, hb, hr, hml, hown, hts, hlk, hnw⟩ := id Cc
  unfold fX0_pourOn at hf
  refine lv_aload_n hx hb dX0_pourOn_0 rfl (lv_at hl 0 rfl) ?_
  refine lv_iload_n hx hb dX0_pourOn_1 rfl (lv_at hl 1 rfl) ?_
  obtain ⟨q2_1, hq1, hf⟩ := Option.bind_eq_some_iff.mp hf
  refine cV (ws' := (W_f cI cS a_f a_f_kind a_f_wet f_kind f_wet f_wide f_rows f_cells f_sun f_all f_firstColumn f_lastColumn)) (rest := []) (st1 := [.int q2_1]) Cc hK hA hP hD hS hl.1 (ctX0_isCell l D cI cS a_f a_f_kind a_f_wet f_kind f_wet f_wide f_rows f_cells f_sun f_all f_firstColumn f_lastColumn p1 n q2_1 hq1) ⟨tw_218, tw_278, tw_216, tw_217, tw_2⟩ mdX0_isCell ⟨rfl, rfl, Nat.le_of_ble_eq_true rfl, Nat.le_of_ble_eq_true rfl⟩ rfl dX0_pourOn_2 rfl (Nat.le_of_ble_eq_true rfl) ⟨Nat.zero_le _, Nat.zero_le _⟩ rfl rfl rfl [0, 1, 2] [] [0, 1, 2] rfl rfl (by decide) rfl (fun H locs hP hD hS => ?_)
  refine lv_if_eq (tgt := 17) hx hb dX0_pourOn_5 (by decide) (fun hc2 => ?_) (fun hc2 => ?_)
  · replace hf := (if_pos hc2).symm.trans hf
    refine lv_iconst (v := (0 : Int32)) hx hb dX0_pourOn_17 (by decide) ?_
    replace hf := Option.some.inj hf
    obtain ⟨er0, er1⟩ := Prod.mk.inj hf
    clear hf 
    subst er0
    subst er1
    exact rt_z Cc (by decide) hK hP hD hS dX0_pourOn_18
  · replace hf := (if_neg hc2).symm.trans hf
    refine lv_aload_n hx hb dX0_pourOn_8 rfl (lv_at hl 0 rfl) ?_
    refine va_get (D := D) (ci := 0) (v := .ref a_f_wet) (C := RX0) (T := TX0) (N := 9) hx hb hts inX0 hown hK hP 0 rfl rfl 1 (by decide) (hts _ tw_26) (fun _ h9 => h9) rfl dX0_pourOn_9 ?_
    refine lv_iload_n hx hb dX0_pourOn_12 rfl (lv_at hl 1 rfl) ?_
    obtain ⟨hin, hf⟩ := gd_some hf
    refine va_iald hx hb hK hP 2 0 rfl rfl hin dX0_pourOn_13 ?_
    refine lv_if_ne (tgt := 19) hx hb dX0_pourOn_14 (by decide) (fun hc3 => ?_) (fun hc3 => ?_)
    · replace hf := (if_neg hc3).symm.trans hf
      refine lv_aload_n hx hb dX0_pourOn_19 rfl (lv_at hl 0 rfl) ?_
      refine va_get (D := D) (ci := 0) (v := .ref a_f_wet) (C := RX0) (T := TX0) (N := 9) hx hb hts inX0 hown hK hP 0 rfl rfl 1 (by decide) (hts _ tw_26) (fun _ h9 => h9) rfl dX0_pourOn_20 ?_
      refine lv_iload_n hx hb dX0_pourOn_23 rfl (lv_at hl 1 rfl) ?_
      refine lv_bipush (v := (9 : Int32)) hx hb dX0_pourOn_24 (by decide) ?_
      refine lv_aload_n hx hb dX0_pourOn_26 rfl (lv_at hl 0 rfl) ?_
      refine va_get (D := D) (ci := 0) (v := .ref a_f_wet) (C := RX0) (T := TX0) (N := 9) hx hb hts inX0 hown hK hP 0 rfl rfl 1 (by decide) (hts _ tw_26) (fun _ h9 => h9) rfl dX0_pourOn_27 ?_
      refine lv_iload_n hx hb dX0_pourOn_30 rfl (lv_at hl 1 rfl) ?_
      obtain ⟨hin, hf⟩ := gd_some hf
      refine va_iald hx hb hK hP 2 0 rfl rfl hin dX0_pourOn_31 ?_
      refine lv_iload_n hx hb dX0_pourOn_32 rfl (lv_at hl 2 rfl) ?_
      refine lv_iadd hx hb dX0_pourOn_33 ?_
      refine va_mmin hx hb (hml.trans hl.1.symm) hown (hts _ tw_206) (hts _ tw_207) (hts _ tw_7) (hts _ tw_208) (Nat.le_of_ble_eq_true rfl) (Nat.le_of_ble_eq_true rfl) (Nat.zero_le _) (Nat.zero_le _) dX0_pourOn_34 ?_
      obtain ⟨hin, hf⟩ := gd_some hf
      refine va_iast hx hb hK hP hD hS 2 0 rfl rfl hin dX0_pourOn_37 (fun H locs hP hD hS => ?_)
      have hP : va_P D classes (W_f cI cS a_f a_f_kind a_f_wet f_kind (upd f_wet p1.toNatClampNeg (if ((f_wet p1.toNatClampNeg) + p2) < (9 : Int32) then ((f_wet p1.toNatClampNeg) + p2) else (9 : Int32))) f_wide f_rows f_cells f_sun f_all f_firstColumn f_lastColumn) H := hP
      have hD : va_D A (W_f cI cS a_f a_f_kind a_f_wet f_kind (upd f_wet p1.toNatClampNeg (if ((f_wet p1.toNatClampNeg) + p2) < (9 : Int32) then ((f_wet p1.toNatClampNeg) + p2) else (9 : Int32))) f_wide f_rows f_cells f_sun f_all f_firstColumn f_lastColumn) := hD
      refine lv_iconst (v := (1 : Int32)) hx hb dX0_pourOn_38 (by decide) ?_
      replace hf := Option.some.inj hf
      obtain ⟨er0, er1⟩ := Prod.mk.inj hf
      clear hf 
      subst er0
      subst er1
      exact rt_z Cc (by decide) hK hP hD hS dX0_pourOn_39
    · replace hf := (if_pos hc3).symm.trans hf
      refine lv_iconst (v := (0 : Int32)) hx hb dX0_pourOn_17 (by decide) ?_
      replace hf := Option.some.inj hf
      obtain ⟨er0, er1⟩ := Prod.mk.inj hf
      clear hf 
      subst er0
      subst er1
      exact rt_z Cc (by decide) hK hP hD hS dX0_pourOn_18
-- X0_wetOfAll
def fX0_wetOfAll_4 (n : Nat) : Nat → (Nat → Int32) → Int32 → Int32 → Int32 → Option (Int32)
  | 0, _, _, _, _ => none
  | k + 1, f_wet, f_cells, x1, x2 => if f_cells ≤ x2 then some (x1) else gd x2 12 (fX0_wetOfAll_4 n k f_wet f_cells (x1 + (f_wet x2.toNatClampNeg)) (x2 + 1))
def fX0_wetOfAll (n : Nat) (f_wet : Nat → Int32) (f_cells : Int32)  : Option (Int32) := fX0_wetOfAll_4 n n f_wet f_cells (0 : Int32) (0 : Int32)
theorem mdX0_wetOfAll : yX0_wetOfAll.cls = RX0 ∧ yX0_wetOfAll.cls ≠ "java/lang/invoke/MethodHandle" ∧ yX0_wetOfAll.cls ≠ "java/lang/invoke/VarHandle" ∧ (parseMethodDescriptor yX0_wetOfAll.desc).map (fun d => d.parameters.length) = some 0 := by decide +kernel
set_option maxHeartbeats 4000000 in
set_option maxRecDepth 100000 in
theorem bX0_wetOfAll_4 {p : Program} {l : Launch} {e : Env} {s : State} {m : MethodId} {args : Array Value} {below : List Frame} {meth : Method} {c : Code} {A : Nat → Prop} {D : va_G} {cI cS : ClassId} (a_f a_f_kind a_f_wet : Nat) (f_kind : Nat → Int32) (f_wide : Int32) (f_rows : Int32) (f_sun : Int32) (f_all : Int32) (f_firstColumn : Int32) (f_lastColumn : Int32) (Cc : Cx p s m args meth c RX0 cX0_wetOfAll 3 (some .int)) (hK : va_K D classes (tysA cI cS) s) (hA : ∀ q, s.heap.size ≤ q → A q) (n : Nat) : ∀ (k : Nat) (f_wet : Nat → Int32) (f_cells : Int32) (x1 : Int32) (x2 : Int32) (r : Int32), fX0_wetOfAll_4 n k f_wet f_cells x1 x2 = some (r) → ∀ (H : Heap) (locs : List Loc) (ls : Array Slot), va_P D classes (W_f cI cS a_f a_f_kind a_f_wet f_kind f_wet f_wide f_rows f_cells f_sun f_all f_firstColumn f_lastColumn) H → va_D A (W_f cI cS a_f a_f_kind a_f_wet f_kind f_wet f_wide f_rows f_cells f_sun f_all f_firstColumn f_lastColumn) → va_S A s.heap H locs → lv_has ls 3 [(0, .ref a_f), (1, .int x1), (2, .int x2)] → W p l e (Rm 0) s m args below meth c H locs 0 0 (MQ below (QW D (tysA cI cS) (some (.int r)) (W_f cI cS a_f a_f_kind a_f_wet f_kind f_wet f_wide f_rows f_cells f_sun f_all f_firstColumn f_lastColumn) A) args s 0 0 A) (F0 m 4 ls []) := by
  obtain ⟨hx, hb, hr, hml, hown, hts, hlk, hnw⟩ := id Cc
  intro k
  induction k with
  | zero =>
    intro f_wet f_cells x1 x2 r hf
    rw [fX0_wetOfAll_4] at hf
    cases hf
  | succ k ih =>
    intro f_wet f_cells x1 x2 r hf H locs ls hP hD hS hl
    rw [fX0_wetOfAll_4] at hf
    refine lv_iload_n hx hb dX0_wetOfAll_4 rfl (lv_at hl 2 rfl) ?_
    refine lv_aload_n hx hb dX0_wetOfAll_5 rfl (lv_at hl 0 rfl) ?_
    refine va_get (D := D) (ci := 0) (v := .int f_cells) (C := RX0) (T := TX0) (N := 9) hx hb hts inX0 hown hK hP 0 rfl rfl 4 (by decide) (hts _ tw_33) (fun _ h9 => h9) rfl dX0_wetOfAll_6 ?_
    refine lv_icmp_ge (tgt := 27) hx hb dX0_wetOfAll_9 (by decide) (fun hc1 => ?_) (fun hc1 => ?_)
    · replace hf := (if_pos hc1).symm.trans hf
      refine lv_iload_n hx hb dX0_wetOfAll_27 rfl (lv_at hl 1 rfl) ?_
      obtain rfl := Option.some.inj hf
      exact rt_i Cc hK hP hD hS dX0_wetOfAll_28
    · replace hf := (if_neg hc1).symm.trans hf
      refine lv_iload_n hx hb dX0_wetOfAll_12 rfl (lv_at hl 1 rfl) ?_
      refine lv_aload_n hx hb dX0_wetOfAll_13 rfl (lv_at hl 0 rfl) ?_
      refine va_get (D := D) (ci := 0) (v := .ref a_f_wet) (C := RX0) (T := TX0) (N := 9) hx hb hts inX0 hown hK hP 0 rfl rfl 1 (by decide) (hts _ tw_26) (fun _ h9 => h9) rfl dX0_wetOfAll_14 ?_
      refine lv_iload_n hx hb dX0_wetOfAll_17 rfl (lv_at hl 2 rfl) ?_
      obtain ⟨hin, hf⟩ := gd_some hf
      refine va_iald hx hb hK hP 2 0 rfl rfl hin dX0_wetOfAll_18 ?_
      refine lv_iadd hx hb dX0_wetOfAll_19 ?_
      refine lv_istore_n (lv' := [(1, .int (x1 + (f_wet x2.toNatClampNeg))), (0, .ref a_f), (2, .int x2)]) hx hb dX0_wetOfAll_20 rfl hl (by decide) rfl (fun ls hl => ?_)
      refine lv_iinc (v := (x2 + 1)) (lv' := [(2, .int (x2 + 1)), (1, .int (x1 + (f_wet x2.toNatClampNeg))), (0, .ref a_f)]) hx hb dX0_wetOfAll_21 hl (k := 2) rfl rfl (by decide) rfl (fun ls hl => ?_)
      refine lv_goto (tgt := 4) hx hb dX0_wetOfAll_24 (by decide) ?_
      exact ih _ _ _ _ _ hf _ _ _ hP hD hS (lv_sub hl [2, 1, 0] rfl)
set_option maxHeartbeats 4000000 in
set_option maxRecDepth 100000 in
theorem ctX0_wetOfAll (l : Launch) (D : va_G) (cI cS : ClassId) (a_f a_f_kind a_f_wet : Nat) (f_kind : Nat → Int32) (f_wet : Nat → Int32) (f_wide : Int32) (f_rows : Int32) (f_cells : Int32) (f_sun : Int32) (f_all : Int32) (f_firstColumn : Int32) (f_lastColumn : Int32)  (n : Nat) (r : Int32) (hf : fX0_wetOfAll n f_wet f_cells  = some (r)) : Ct l D (tysA cI cS) yX0_wetOfAll cX0_wetOfAll 3 (some .int) (Rm 0) [.ref a_f] (W_f cI cS a_f a_f_kind a_f_wet f_kind f_wet f_wide f_rows f_cells f_sun f_all f_firstColumn f_lastColumn) (some (.int r)) (W_f cI cS a_f a_f_kind a_f_wet f_kind f_wet f_wide f_rows f_cells f_sun f_all f_firstColumn f_lastColumn) := by
  refine Ct_of (by decide) (Nat.le_of_ble_eq_true rfl) ?_
  intro p e s m args below meth c A ls Cc hK hA hP hD hS hl
  have hl : lv_has ls 3 [(0, .ref a_f)] := hl
  obtain ⟨hx, hb, hr, hml, hown, hts, hlk, hnw⟩ := id Cc
  unfold fX0_wetOfAll at hf
  refine lv_iconst (v := (0 : Int32)) hx hb dX0_wetOfAll_0 (by decide) ?_
  refine lv_istore_n (lv' := [(1, .int (0 : Int32)), (0, .ref a_f)]) hx hb dX0_wetOfAll_1 rfl hl (by decide) rfl (fun ls hl => ?_)
  refine lv_iconst (v := (0 : Int32)) hx hb dX0_wetOfAll_2 (by decide) ?_
  refine lv_istore_n (lv' := [(2, .int (0 : Int32)), (1, .int (0 : Int32)), (0, .ref a_f)]) hx hb dX0_wetOfAll_3 rfl hl (by decide) rfl (fun ls hl => ?_)
  exact bX0_wetOfAll_4 a_f a_f_kind a_f_wet f_kind f_wide f_rows f_sun f_all f_firstColumn f_lastColumn Cc hK hA n n _ _ _ _ _ hf _ _ _ hP hD hS (lv_sub hl [2, 1, 0] rfl)
-- X0_isCrackedBehind
def fX0_isCrackedBehind (n : Nat) (f_kind : Nat → Int32) (f_wet : Nat → Int32) (f_cells : Int32) (f_sun : Int32) (p1 : Int32) (p2 : Int32) : Option (Int32) := (fX0_isCell n f_cells p1).bind fun q2_1 => if q2_1 = 0 then some ((0 : Int32)) else gd p1 12 ((fX0_losesOf n f_kind f_sun p1).bind fun q17_1 => if (p2 * q17_1) < (f_wet p1.toNatClampNeg) then some ((0 : Int32)) else some ((1 : Int32)))
theorem mdX0_isCrackedBehind : yX0_isCrackedBehind.cls = RX0 ∧ yX0_isCrackedBehind.cls ≠ "java/lang/invoke/MethodHandle" ∧ yX0_isCrackedBehind.cls ≠ "java/lang/invoke/VarHandle" ∧ (parseMethodDescriptor yX0_isCrackedBehind.desc).map (fun d => d.parameters.length) = some 2 := by decide +kernel
set_option maxHeartbeats 4000000 in
set_option maxRecDepth 100000 in
theorem ctX0_isCrackedBehind (l : Launch) (D : va_G) (cI cS : ClassId) (a_f a_f_kind a_f_wet : Nat) (f_kind : Nat → Int32) (f_wet : Nat → Int32) (f_wide : Int32) (f_rows : Int32) (f_cells : Int32) (f_sun : Int32) (f_all : Int32) (f_firstColumn : Int32) (f_lastColumn : Int32) (p1 : Int32) (p2 : Int32) (n : Nat) (r : Int32) (hf : fX0_isCrackedBehind n f_kind f_wet f_cells f_sun p1 p2 = some (r)) : Ct l D (tysA cI cS) yX0_isCrackedBehind cX0_isCrackedBehind 3 (some .boolean) (Rm 1) [.ref a_f, .int p1, .int p2] (W_f cI cS a_f a_f_kind a_f_wet f_kind f_wet f_wide f_rows f_cells f_sun f_all f_firstColumn f_lastColumn) (some (.int r)) (W_f cI cS a_f a_f_kind a_f_wet f_kind f_wet f_wide f_rows f_cells f_sun f_all f_firstColumn f_lastColumn) := by
  refine Ct_of (by decide) (Nat.le_of_ble_eq_true rfl) ?_
  intro p e s m args below meth c A ls Cc hK hA hP hD hS hl
  have hl : lv_has ls 3 [(0, .ref a_f), (1, .int p1), (2, .int p2)] := hl
  obtain ⟨hx, hb, hr, hml, hown, hts, hlk, hnw⟩ := id Cc
  unfold fX0_isCrackedBehind at hf
  refine lv_aload_n hx hb dX0_isCrackedBehind_0 rfl (lv_at hl 0 rfl) ?_
  refine lv_iload_n hx hb dX0_isCrackedBehind_1 rfl (lv_at hl 1 rfl) ?_
  obtain ⟨q2_1, hq1, hf⟩ := Option.bind_eq_some_iff.mp hf
  refine cV (ws' := (W_f cI cS a_f a_f_kind a_f_wet f_kind f_wet f_wide f_rows f_cells f_sun f_all f_firstColumn f_lastColumn)) (rest := []) (st1 := [.int q2_1]) Cc hK hA hP hD hS hl.1 (ctX0_isCell l D cI cS a_f a_f_kind a_f_wet f_kind f_wet f_wide f_rows f_cells f_sun f_all f_firstColumn f_lastColumn p1 n q2_1 hq1) ⟨tw_218, tw_278, tw_216, tw_217, tw_2⟩ mdX0_isCell ⟨rfl, rfl, Nat.le_of_ble_eq_true rfl, Nat.le_of_ble_eq_true rfl⟩ rfl dX0_isCrackedBehind_2 rfl (Nat.le_of_ble_eq_true rfl) ⟨Nat.zero_le _, Nat.zero_le _⟩ rfl rfl rfl [0, 1, 2] [] [0, 1, 2] rfl rfl (by decide) rfl (fun H locs hP hD hS => ?_)
  refine lv_if_eq (tgt := 28) hx hb dX0_isCrackedBehind_5 (by decide) (fun hc2 => ?_) (fun hc2 => ?_)
  · replace hf := (if_pos hc2).symm.trans hf
    refine lv_iconst (v := (0 : Int32)) hx hb dX0_isCrackedBehind_28 (by decide) ?_
    obtain rfl := Option.some.inj hf
    exact rt_z Cc (by decide) hK hP hD hS dX0_isCrackedBehind_29
  · replace hf := (if_neg hc2).symm.trans hf
    refine lv_aload_n hx hb dX0_isCrackedBehind_8 rfl (lv_at hl 0 rfl) ?_
    refine va_get (D := D) (ci := 0) (v := .ref a_f_wet) (C := RX0) (T := TX0) (N := 9) hx hb hts inX0 hown hK hP 0 rfl rfl 1 (by decide) (hts _ tw_26) (fun _ h9 => h9) rfl dX0_isCrackedBehind_9 ?_
    refine lv_iload_n hx hb dX0_isCrackedBehind_12 rfl (lv_at hl 1 rfl) ?_
    obtain ⟨hin, hf⟩ := gd_some hf
    refine va_iald hx hb hK hP 2 0 rfl rfl hin dX0_isCrackedBehind_13 ?_
    refine lv_iload_n hx hb dX0_isCrackedBehind_14 rfl (lv_at hl 2 rfl) ?_
    refine lv_aload_n hx hb dX0_isCrackedBehind_15 rfl (lv_at hl 0 rfl) ?_
    refine lv_iload_n hx hb dX0_isCrackedBehind_16 rfl (lv_at hl 1 rfl) ?_
    obtain ⟨q17_1, hq3, hf⟩ := Option.bind_eq_some_iff.mp hf
    refine cV (ws' := (W_f cI cS a_f a_f_kind a_f_wet f_kind f_wet f_wide f_rows f_cells f_sun f_all f_firstColumn f_lastColumn)) (rest := [.int p2, .int (f_wet p1.toNatClampNeg)]) (st1 := [.int q17_1, .int p2, .int (f_wet p1.toNatClampNeg)]) Cc hK hA hP hD hS hl.1 (ctX0_losesOf l D cI cS a_f a_f_kind a_f_wet f_kind f_wet f_wide f_rows f_cells f_sun f_all f_firstColumn f_lastColumn p1 n q17_1 hq3) ⟨tw_222, tw_265, tw_220, tw_221, tw_2⟩ mdX0_losesOf ⟨rfl, rfl, Nat.le_of_ble_eq_true rfl, Nat.le_of_ble_eq_true rfl⟩ rfl dX0_isCrackedBehind_17 rfl (Nat.le_of_ble_eq_true rfl) ⟨Nat.zero_le _, Nat.zero_le _⟩ rfl rfl rfl [0, 1, 2] [] [0, 1, 2] rfl rfl (by decide) rfl (fun H locs hP hD hS => ?_)
    refine lv_imul hx hb dX0_isCrackedBehind_20 ?_
    refine lv_icmp_gt (tgt := 28) hx hb dX0_isCrackedBehind_21 (by decide) (fun hc4 => ?_) (fun hc4 => ?_)
    · replace hf := (if_pos hc4).symm.trans hf
      refine lv_iconst (v := (0 : Int32)) hx hb dX0_isCrackedBehind_28 (by decide) ?_
      obtain rfl := Option.some.inj hf
      exact rt_z Cc (by decide) hK hP hD hS dX0_isCrackedBehind_29
    · replace hf := (if_neg hc4).symm.trans hf
      refine lv_iconst (v := (1 : Int32)) hx hb dX0_isCrackedBehind_24 (by decide) ?_
      refine lv_goto (tgt := 29) hx hb dX0_isCrackedBehind_25 (by decide) ?_
      obtain rfl := Option.some.inj hf
      exact rt_z Cc (by decide) hK hP hD hS dX0_isCrackedBehind_29
-- X0_crackedSetBehind
def fX0_crackedSetBehind_4 (n : Nat) : Nat → (Nat → Int32) → (Nat → Int32) → Int32 → Int32 → Int32 → Int32 → Int32 → Option (Int32)
  | 0, _, _, _, _, _, _, _ => none
  | k + 1, f_kind, f_wet, f_cells, f_sun, x1, x2, x3 => if f_cells ≤ x3 then some (x2) else (fX0_isCrackedBehind n f_kind f_wet f_cells f_sun x3 x1).bind fun q15_1 => if q15_1 = 0 then fX0_crackedSetBehind_4 n k f_kind f_wet f_cells f_sun x1 x2 (x3 + 1) else fX0_crackedSetBehind_4 n k f_kind f_wet f_cells f_sun x1 (x2 ||| ((1 : Int32) <<< (x3 &&& 31))) (x3 + 1)
def fX0_crackedSetBehind (n : Nat) (f_kind : Nat → Int32) (f_wet : Nat → Int32) (f_cells : Int32) (f_sun : Int32) (p1 : Int32) : Option (Int32) := fX0_crackedSetBehind_4 n n f_kind f_wet f_cells f_sun p1 (0 : Int32) (0 : Int32)
theorem mdX0_crackedSetBehind : yX0_crackedSetBehind.cls = RX0 ∧ yX0_crackedSetBehind.cls ≠ "java/lang/invoke/MethodHandle" ∧ yX0_crackedSetBehind.cls ≠ "java/lang/invoke/VarHandle" ∧ (parseMethodDescriptor yX0_crackedSetBehind.desc).map (fun d => d.parameters.length) = some 1 := by decide +kernel
set_option maxHeartbeats 4000000 in
set_option maxRecDepth 100000 in
theorem bX0_crackedSetBehind_4 {p : Program} {l : Launch} {e : Env} {s : State} {m : MethodId} {args : Array Value} {below : List Frame} {meth : Method} {c : Code} {A : Nat → Prop} {D : va_G} {cI cS : ClassId} (a_f a_f_kind a_f_wet : Nat) (f_wide : Int32) (f_rows : Int32) (f_all : Int32) (f_firstColumn : Int32) (f_lastColumn : Int32) (Cc : Cx p s m args meth c RX0 cX0_crackedSetBehind 4 (some .int)) (hK : va_K D classes (tysA cI cS) s) (hA : ∀ q, s.heap.size ≤ q → A q) (n : Nat) : ∀ (k : Nat) (f_kind : Nat → Int32) (f_wet : Nat → Int32) (f_cells : Int32) (f_sun : Int32) (x1 : Int32) (x2 : Int32) (x3 : Int32) (r : Int32), fX0_crackedSetBehind_4 n k f_kind f_wet f_cells f_sun x1 x2 x3 = some (r) → ∀ (H : Heap) (locs : List Loc) (ls : Array Slot), va_P D classes (W_f cI cS a_f a_f_kind a_f_wet f_kind f_wet f_wide f_rows f_cells f_sun f_all f_firstColumn f_lastColumn) H → va_D A (W_f cI cS a_f a_f_kind a_f_wet f_kind f_wet f_wide f_rows f_cells f_sun f_all f_firstColumn f_lastColumn) → va_S A s.heap H locs → lv_has ls 4 [(0, .ref a_f), (1, .int x1), (2, .int x2), (3, .int x3)] → W p l e (Rm 2) s m args below meth c H locs 0 0 (MQ below (QW D (tysA cI cS) (some (.int r)) (W_f cI cS a_f a_f_kind a_f_wet f_kind f_wet f_wide f_rows f_cells f_sun f_all f_firstColumn f_lastColumn) A) args s 0 0 A) (F0 m 4 ls []) := by
  obtain ⟨hx, hb, hr, hml, hown, hts, hlk, hnw⟩ := id Cc
  intro k
  induction k with
  | zero =>
    intro f_kind f_wet f_cells f_sun x1 x2 x3 r hf
    rw [fX0_crackedSetBehind_4] at hf
    cases hf
  | succ k ih =>
    intro f_kind f_wet f_cells f_sun x1 x2 x3 r hf H locs ls hP hD hS hl
    rw [fX0_crackedSetBehind_4] at hf
    refine lv_iload_n hx hb dX0_crackedSetBehind_4 rfl (lv_at hl 3 rfl) ?_
    refine lv_aload_n hx hb dX0_crackedSetBehind_5 rfl (lv_at hl 0 rfl) ?_
    refine va_get (D := D) (ci := 0) (v := .int f_cells) (C := RX0) (T := TX0) (N := 9) hx hb hts inX0 hown hK hP 0 rfl rfl 4 (by decide) (hts _ tw_33) (fun _ h9 => h9) rfl dX0_crackedSetBehind_6 ?_
    refine lv_icmp_ge (tgt := 33) hx hb dX0_crackedSetBehind_9 (by decide) (fun hc1 => ?_) (fun hc1 => ?_)
    · replace hf := (if_pos hc1).symm.trans hf
      refine lv_iload_n hx hb dX0_crackedSetBehind_33 rfl (lv_at hl 2 rfl) ?_
      obtain rfl := Option.some.inj hf
      exact rt_i Cc hK hP hD hS dX0_crackedSetBehind_34
    · replace hf := (if_neg hc1).symm.trans hf
      refine lv_aload_n hx hb dX0_crackedSetBehind_12 rfl (lv_at hl 0 rfl) ?_
      refine lv_iload_n hx hb dX0_crackedSetBehind_13 rfl (lv_at hl 3 rfl) ?_
      refine lv_iload_n hx hb dX0_crackedSetBehind_14 rfl (lv_at hl 1 rfl) ?_
      obtain ⟨q15_1, hq2, hf⟩ := Option.bind_eq_some_iff.mp hf
      refine cV (ws' := (W_f cI cS a_f a_f_kind a_f_wet f_kind f_wet f_wide f_rows f_cells f_sun f_all f_firstColumn f_lastColumn)) (rest := []) (st1 := [.int q15_1]) Cc hK hA hP hD hS hl.1 (ctX0_isCrackedBehind l D cI cS a_f a_f_kind a_f_wet f_kind f_wet f_wide f_rows f_cells f_sun f_all f_firstColumn f_lastColumn x3 x1 n q15_1 hq2) ⟨tw_354, tw_363, tw_352, tw_353, tw_2⟩ mdX0_isCrackedBehind ⟨rfl, rfl, Nat.le_of_ble_eq_true rfl, Nat.le_of_ble_eq_true rfl⟩ rfl dX0_crackedSetBehind_15 rfl (Nat.le_of_ble_eq_true rfl) ⟨Nat.zero_le _, Nat.zero_le _⟩ rfl rfl rfl [0, 1, 2] [] [0, 1, 2] rfl rfl (by decide) rfl (fun H locs hP hD hS => ?_)
      refine lv_if_eq (tgt := 27) hx hb dX0_crackedSetBehind_18 (by decide) (fun hc3 => ?_) (fun hc3 => ?_)
      · replace hf := (if_pos hc3).symm.trans hf
        refine lv_iinc (v := (x3 + 1)) (lv' := [(3, .int (x3 + 1)), (0, .ref a_f), (1, .int x1), (2, .int x2)]) hx hb dX0_crackedSetBehind_27 hl (k := 3) rfl rfl (by decide) rfl (fun ls hl => ?_)
        refine lv_goto (tgt := 4) hx hb dX0_crackedSetBehind_30 (by decide) ?_
        exact ih _ _ _ _ _ _ _ _ hf _ _ _ hP hD hS (lv_sub hl [1, 2, 3, 0] rfl)
      · replace hf := (if_neg hc3).symm.trans hf
        refine lv_iload_n hx hb dX0_crackedSetBehind_21 rfl (lv_at hl 2 rfl) ?_
        refine lv_iconst (v := (1 : Int32)) hx hb dX0_crackedSetBehind_22 (by decide) ?_
        refine lv_iload_n hx hb dX0_crackedSetBehind_23 rfl (lv_at hl 3 rfl) ?_
        refine lv_ishl hx hb dX0_crackedSetBehind_24 ?_
        refine lv_ior hx hb dX0_crackedSetBehind_25 ?_
        refine lv_istore_n (lv' := [(2, .int (x2 ||| ((1 : Int32) <<< (x3 &&& 31)))), (0, .ref a_f), (1, .int x1), (3, .int x3)]) hx hb dX0_crackedSetBehind_26 rfl hl (by decide) rfl (fun ls hl => ?_)
        refine lv_iinc (v := (x3 + 1)) (lv' := [(3, .int (x3 + 1)), (2, .int (x2 ||| ((1 : Int32) <<< (x3 &&& 31)))), (0, .ref a_f), (1, .int x1)]) hx hb dX0_crackedSetBehind_27 hl (k := 3) rfl rfl (by decide) rfl (fun ls hl => ?_)
        refine lv_goto (tgt := 4) hx hb dX0_crackedSetBehind_30 (by decide) ?_
        exact ih _ _ _ _ _ _ _ _ hf _ _ _ hP hD hS (lv_sub hl [2, 3, 1, 0] rfl)
set_option maxHeartbeats 4000000 in
set_option maxRecDepth 100000 in
theorem ctX0_crackedSetBehind (l : Launch) (D : va_G) (cI cS : ClassId) (a_f a_f_kind a_f_wet : Nat) (f_kind : Nat → Int32) (f_wet : Nat → Int32) (f_wide : Int32) (f_rows : Int32) (f_cells : Int32) (f_sun : Int32) (f_all : Int32) (f_firstColumn : Int32) (f_lastColumn : Int32) (p1 : Int32) (n : Nat) (r : Int32) (hf : fX0_crackedSetBehind n f_kind f_wet f_cells f_sun p1 = some (r)) : Ct l D (tysA cI cS) yX0_crackedSetBehind cX0_crackedSetBehind 4 (some .int) (Rm 2) [.ref a_f, .int p1] (W_f cI cS a_f a_f_kind a_f_wet f_kind f_wet f_wide f_rows f_cells f_sun f_all f_firstColumn f_lastColumn) (some (.int r)) (W_f cI cS a_f a_f_kind a_f_wet f_kind f_wet f_wide f_rows f_cells f_sun f_all f_firstColumn f_lastColumn) := by
  refine Ct_of (by decide) (Nat.le_of_ble_eq_true rfl) ?_
  intro p e s m args below meth c A ls Cc hK hA hP hD hS hl
  have hl : lv_has ls 4 [(0, .ref a_f), (1, .int p1)] := hl
  obtain ⟨hx, hb, hr, hml, hown, hts, hlk, hnw⟩ := id Cc
  unfold fX0_crackedSetBehind at hf
  refine lv_iconst (v := (0 : Int32)) hx hb dX0_crackedSetBehind_0 (by decide) ?_
  refine lv_istore_n (lv' := [(2, .int (0 : Int32)), (0, .ref a_f), (1, .int p1)]) hx hb dX0_crackedSetBehind_1 rfl hl (by decide) rfl (fun ls hl => ?_)
  refine lv_iconst (v := (0 : Int32)) hx hb dX0_crackedSetBehind_2 (by decide) ?_
  refine lv_istore_n (lv' := [(3, .int (0 : Int32)), (2, .int (0 : Int32)), (0, .ref a_f), (1, .int p1)]) hx hb dX0_crackedSetBehind_3 rfl hl (by decide) rfl (fun ls hl => ?_)
  exact bX0_crackedSetBehind_4 a_f a_f_kind a_f_wet f_wide f_rows f_all f_firstColumn f_lastColumn Cc hK hA n n _ _ _ _ _ _ _ _ hf _ _ _ hP hD hS (lv_sub hl [2, 3, 1, 0] rfl)
-- X0_crackedSet
def fX0_crackedSet_4 (n : Nat) : Nat → (Nat → Int32) → Int32 → Int32 → Int32 → Option (Int32)
  | 0, _, _, _, _ => none
  | k + 1, f_wet, f_cells, x1, x2 => if f_cells ≤ x2 then some (x1) else gd x2 12 (if (f_wet x2.toNatClampNeg) = 0 then fX0_crackedSet_4 n k f_wet f_cells (x1 ||| ((1 : Int32) <<< (x2 &&& 31))) (x2 + 1) else fX0_crackedSet_4 n k f_wet f_cells x1 (x2 + 1))
def fX0_crackedSet (n : Nat) (f_wet : Nat → Int32) (f_cells : Int32)  : Option (Int32) := fX0_crackedSet_4 n n f_wet f_cells (0 : Int32) (0 : Int32)
theorem mdX0_crackedSet : yX0_crackedSet.cls = RX0 ∧ yX0_crackedSet.cls ≠ "java/lang/invoke/MethodHandle" ∧ yX0_crackedSet.cls ≠ "java/lang/invoke/VarHandle" ∧ (parseMethodDescriptor yX0_crackedSet.desc).map (fun d => d.parameters.length) = some 0 := by decide +kernel
set_option maxHeartbeats 4000000 in
set_option maxRecDepth 100000 in
theorem bX0_crackedSet_4 {p : Program} {l : Launch} {e : Env} {s : State} {m : MethodId} {args : Array Value} {below : List Frame} {meth : Method} {c : Code} {A : Nat → Prop} {D : va_G} {cI cS : ClassId} (a_f a_f_kind a_f_wet : Nat) (f_kind : Nat → Int32) (f_wide : Int32) (f_rows : Int32) (f_sun : Int32) (f_all : Int32) (f_firstColumn : Int32) (f_lastColumn : Int32) (Cc : Cx p s m args meth c RX0 cX0_crackedSet 3 (some .int)) (hK : va_K D classes (tysA cI cS) s) (hA : ∀ q, s.heap.size ≤ q → A q) (n : Nat) : ∀ (k : Nat) (f_wet : Nat → Int32) (f_cells : Int32) (x1 : Int32) (x2 : Int32) (r : Int32), fX0_crackedSet_4 n k f_wet f_cells x1 x2 = some (r) → ∀ (H : Heap) (locs : List Loc) (ls : Array Slot), va_P D classes (W_f cI cS a_f a_f_kind a_f_wet f_kind f_wet f_wide f_rows f_cells f_sun f_all f_firstColumn f_lastColumn) H → va_D A (W_f cI cS a_f a_f_kind a_f_wet f_kind f_wet f_wide f_rows f_cells f_sun f_all f_firstColumn f_lastColumn) → va_S A s.heap H locs → lv_has ls 3 [(0, .ref a_f), (1, .int x1), (2, .int x2)] → W p l e (Rm 0) s m args below meth c H locs 0 0 (MQ below (QW D (tysA cI cS) (some (.int r)) (W_f cI cS a_f a_f_kind a_f_wet f_kind f_wet f_wide f_rows f_cells f_sun f_all f_firstColumn f_lastColumn) A) args s 0 0 A) (F0 m 4 ls []) := by
  obtain ⟨hx, hb, hr, hml, hown, hts, hlk, hnw⟩ := id Cc
  intro k
  induction k with
  | zero =>
    intro f_wet f_cells x1 x2 r hf
    rw [fX0_crackedSet_4] at hf
    cases hf
  | succ k ih =>
    intro f_wet f_cells x1 x2 r hf H locs ls hP hD hS hl
    rw [fX0_crackedSet_4] at hf
    refine lv_iload_n hx hb dX0_crackedSet_4 rfl (lv_at hl 2 rfl) ?_
    refine lv_aload_n hx hb dX0_crackedSet_5 rfl (lv_at hl 0 rfl) ?_
    refine va_get (D := D) (ci := 0) (v := .int f_cells) (C := RX0) (T := TX0) (N := 9) hx hb hts inX0 hown hK hP 0 rfl rfl 4 (by decide) (hts _ tw_33) (fun _ h9 => h9) rfl dX0_crackedSet_6 ?_
    refine lv_icmp_ge (tgt := 33) hx hb dX0_crackedSet_9 (by decide) (fun hc1 => ?_) (fun hc1 => ?_)
    · replace hf := (if_pos hc1).symm.trans hf
      refine lv_iload_n hx hb dX0_crackedSet_33 rfl (lv_at hl 1 rfl) ?_
      obtain rfl := Option.some.inj hf
      exact rt_i Cc hK hP hD hS dX0_crackedSet_34
    · replace hf := (if_neg hc1).symm.trans hf
      refine lv_aload_n hx hb dX0_crackedSet_12 rfl (lv_at hl 0 rfl) ?_
      refine va_get (D := D) (ci := 0) (v := .ref a_f_wet) (C := RX0) (T := TX0) (N := 9) hx hb hts inX0 hown hK hP 0 rfl rfl 1 (by decide) (hts _ tw_26) (fun _ h9 => h9) rfl dX0_crackedSet_13 ?_
      refine lv_iload_n hx hb dX0_crackedSet_16 rfl (lv_at hl 2 rfl) ?_
      obtain ⟨hin, hf⟩ := gd_some hf
      refine va_iald hx hb hK hP 2 0 rfl rfl hin dX0_crackedSet_17 ?_
      refine lv_if_ne (tgt := 27) hx hb dX0_crackedSet_18 (by decide) (fun hc2 => ?_) (fun hc2 => ?_)
      · replace hf := (if_neg hc2).symm.trans hf
        refine lv_iinc (v := (x2 + 1)) (lv' := [(2, .int (x2 + 1)), (0, .ref a_f), (1, .int x1)]) hx hb dX0_crackedSet_27 hl (k := 2) rfl rfl (by decide) rfl (fun ls hl => ?_)
        refine lv_goto (tgt := 4) hx hb dX0_crackedSet_30 (by decide) ?_
        exact ih _ _ _ _ _ hf _ _ _ hP hD hS (lv_sub hl [1, 2, 0] rfl)
      · replace hf := (if_pos hc2).symm.trans hf
        refine lv_iload_n hx hb dX0_crackedSet_21 rfl (lv_at hl 1 rfl) ?_
        refine lv_iconst (v := (1 : Int32)) hx hb dX0_crackedSet_22 (by decide) ?_
        refine lv_iload_n hx hb dX0_crackedSet_23 rfl (lv_at hl 2 rfl) ?_
        refine lv_ishl hx hb dX0_crackedSet_24 ?_
        refine lv_ior hx hb dX0_crackedSet_25 ?_
        refine lv_istore_n (lv' := [(1, .int (x1 ||| ((1 : Int32) <<< (x2 &&& 31)))), (0, .ref a_f), (2, .int x2)]) hx hb dX0_crackedSet_26 rfl hl (by decide) rfl (fun ls hl => ?_)
        refine lv_iinc (v := (x2 + 1)) (lv' := [(2, .int (x2 + 1)), (1, .int (x1 ||| ((1 : Int32) <<< (x2 &&& 31)))), (0, .ref a_f)]) hx hb dX0_crackedSet_27 hl (k := 2) rfl rfl (by decide) rfl (fun ls hl => ?_)
        refine lv_goto (tgt := 4) hx hb dX0_crackedSet_30 (by decide) ?_
        exact ih _ _ _ _ _ hf _ _ _ hP hD hS (lv_sub hl [2, 1, 0] rfl)
set_option maxHeartbeats 4000000 in
set_option maxRecDepth 100000 in
theorem ctX0_crackedSet (l : Launch) (D : va_G) (cI cS : ClassId) (a_f a_f_kind a_f_wet : Nat) (f_kind : Nat → Int32) (f_wet : Nat → Int32) (f_wide : Int32) (f_rows : Int32) (f_cells : Int32) (f_sun : Int32) (f_all : Int32) (f_firstColumn : Int32) (f_lastColumn : Int32)  (n : Nat) (r : Int32) (hf : fX0_crackedSet n f_wet f_cells  = some (r)) : Ct l D (tysA cI cS) yX0_crackedSet cX0_crackedSet 3 (some .int) (Rm 0) [.ref a_f] (W_f cI cS a_f a_f_kind a_f_wet f_kind f_wet f_wide f_rows f_cells f_sun f_all f_firstColumn f_lastColumn) (some (.int r)) (W_f cI cS a_f a_f_kind a_f_wet f_kind f_wet f_wide f_rows f_cells f_sun f_all f_firstColumn f_lastColumn) := by
  refine Ct_of (by decide) (Nat.le_of_ble_eq_true rfl) ?_
  intro p e s m args below meth c A ls Cc hK hA hP hD hS hl
  have hl : lv_has ls 3 [(0, .ref a_f)] := hl
  obtain ⟨hx, hb, hr, hml, hown, hts, hlk, hnw⟩ := id Cc
  unfold fX0_crackedSet at hf
  refine lv_iconst (v := (0 : Int32)) hx hb dX0_crackedSet_0 (by decide) ?_
  refine lv_istore_n (lv' := [(1, .int (0 : Int32)), (0, .ref a_f)]) hx hb dX0_crackedSet_1 rfl hl (by decide) rfl (fun ls hl => ?_)
  refine lv_iconst (v := (0 : Int32)) hx hb dX0_crackedSet_2 (by decide) ?_
  refine lv_istore_n (lv' := [(2, .int (0 : Int32)), (1, .int (0 : Int32)), (0, .ref a_f)]) hx hb dX0_crackedSet_3 rfl hl (by decide) rfl (fun ls hl => ?_)
  exact bX0_crackedSet_4 a_f a_f_kind a_f_wet f_kind f_wide f_rows f_sun f_all f_firstColumn f_lastColumn Cc hK hA n n _ _ _ _ _ hf _ _ _ hP hD hS (lv_sub hl [2, 1, 0] rfl)
-- X0_wetSet
def fX0_wetSet (n : Nat) (f_wet : Nat → Int32) (f_cells : Int32) (f_all : Int32)  : Option (Int32) := (fX0_crackedSet n f_wet f_cells).bind fun q5_1 => some ((f_all &&& (q5_1 ^^^ (-1 : Int32))))
theorem mdX0_wetSet : yX0_wetSet.cls = RX0 ∧ yX0_wetSet.cls ≠ "java/lang/invoke/MethodHandle" ∧ yX0_wetSet.cls ≠ "java/lang/invoke/VarHandle" ∧ (parseMethodDescriptor yX0_wetSet.desc).map (fun d => d.parameters.length) = some 0 := by decide +kernel
set_option maxHeartbeats 4000000 in
set_option maxRecDepth 100000 in
theorem ctX0_wetSet (l : Launch) (D : va_G) (cI cS : ClassId) (a_f a_f_kind a_f_wet : Nat) (f_kind : Nat → Int32) (f_wet : Nat → Int32) (f_wide : Int32) (f_rows : Int32) (f_cells : Int32) (f_sun : Int32) (f_all : Int32) (f_firstColumn : Int32) (f_lastColumn : Int32)  (n : Nat) (r : Int32) (hf : fX0_wetSet n f_wet f_cells f_all  = some (r)) : Ct l D (tysA cI cS) yX0_wetSet cX0_wetSet 1 (some .int) (Rm 1) [.ref a_f] (W_f cI cS a_f a_f_kind a_f_wet f_kind f_wet f_wide f_rows f_cells f_sun f_all f_firstColumn f_lastColumn) (some (.int r)) (W_f cI cS a_f a_f_kind a_f_wet f_kind f_wet f_wide f_rows f_cells f_sun f_all f_firstColumn f_lastColumn) := by
  refine Ct_of (by decide) (Nat.le_of_ble_eq_true rfl) ?_
  intro p e s m args below meth c A ls Cc hK hA hP hD hS hl
  have hl : lv_has ls 1 [(0, .ref a_f)] := hl
  obtain ⟨hx, hb, hr, hml, hown, hts, hlk, hnw⟩ := id Cc
  unfold fX0_wetSet at hf
  refine lv_aload_n hx hb dX0_wetSet_0 rfl (lv_at hl 0 rfl) ?_
  refine va_get (D := D) (ci := 0) (v := .int f_all) (C := RX0) (T := TX0) (N := 9) hx hb hts inX0 hown hK hP 0 rfl rfl 6 (by decide) (hts _ tw_38) (fun _ h9 => h9) rfl dX0_wetSet_1 ?_
  refine lv_aload_n hx hb dX0_wetSet_4 rfl (lv_at hl 0 rfl) ?_
  obtain ⟨q5_1, hq1, hf⟩ := Option.bind_eq_some_iff.mp hf
  refine cV (ws' := (W_f cI cS a_f a_f_kind a_f_wet f_kind f_wet f_wide f_rows f_cells f_sun f_all f_firstColumn f_lastColumn)) (rest := [.int f_all]) (st1 := [.int q5_1, .int f_all]) Cc hK hA hP hD hS hl.1 (ctX0_crackedSet l D cI cS a_f a_f_kind a_f_wet f_kind f_wet f_wide f_rows f_cells f_sun f_all f_firstColumn f_lastColumn  n q5_1 hq1) ⟨tw_230, tw_227, tw_228, tw_229, tw_2⟩ mdX0_crackedSet ⟨rfl, rfl, Nat.le_of_ble_eq_true rfl, Nat.le_of_ble_eq_true rfl⟩ rfl dX0_wetSet_5 rfl (Nat.le_of_ble_eq_true rfl) ⟨Nat.zero_le _, Nat.zero_le _⟩ rfl rfl rfl [0, 1, 2] [] [0, 1, 2] rfl rfl (by decide) rfl (fun H locs hP hD hS => ?_)
  refine lv_iconst (v := (-1 : Int32)) hx hb dX0_wetSet_8 (by decide) ?_
  refine lv_ixor hx hb dX0_wetSet_9 ?_
  refine lv_iand hx hb dX0_wetSet_10 ?_
  obtain rfl := Option.some.inj hf
  exact rt_i Cc hK hP hD hS dX0_wetSet_11
