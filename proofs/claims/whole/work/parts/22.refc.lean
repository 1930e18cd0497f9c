-- X5_when
def fX5_when_33 (n : Nat) (m_sun : Int32) (m_wide : Int32) (m_deep : Int32) (m_kind : Nat → Int32) (m_wet : Nat → Int32) (x2 : Int32) : Option (Int32) := if (20 : Int32) < x2 then some ((-9 : Int32)) else some (x2)
def fX5_when_12 (n : Nat) : Nat → Int32 → Int32 → Int32 → (Nat → Int32) → (Nat → Int32) → Int32 → Int32 → Option (Int32)
  | 0, _, _, _, _, _, _, _ => none
  | k + 1, m_sun, m_wide, m_deep, m_kind, m_wet, x1, x2 => if (20 : Int32) < x2 then fX5_when_33 n m_sun m_wide m_deep m_kind m_wet x2 else (fX5_wetBehind n m_sun m_kind m_wet x1 x2).bind fun q21_1 => if q21_1 ≤ 0 then fX5_when_33 n m_sun m_wide m_deep m_kind m_wet x2 else fX5_when_12 n k m_sun m_wide m_deep m_kind m_wet x1 (x2 + 1)
def fX5_when (n : Nat) (m_sun : Int32) (m_wide : Int32) (m_deep : Int32) (m_kind : Nat → Int32) (m_wet : Nat → Int32) (p1 : Int32) : Option (Int32) := (fX5_isCell n m_wide m_deep p1).bind fun q2_1 => if q2_1 = 0 then some ((-1 : Int32)) else fX5_when_12 n n m_sun m_wide m_deep m_kind m_wet p1 (0 : Int32)
theorem mdX5_when : yX5_when.cls = RX5 ∧ yX5_when.cls ≠ "java/lang/invoke/MethodHandle" ∧ yX5_when.cls ≠ "java/lang/invoke/VarHandle" ∧ (parseMethodDescriptor yX5_when.desc).map (fun d => d.parameters.length) = some 1 := by decide +kernel
set_option maxHeartbeats 4000000 in
set_option maxRecDepth 100000 in
theorem bX5_when_33 {p : Program} {l : Launch} {e : Env} {s : State} {m : MethodId} {args : Array Value} {below : List Frame} {meth : Method} {c : Code} {A : Nat → Prop} {D : va_G} {cI cS : ClassId} (a_m a_m_sorts a_m_sheetLong a_m_cells a_m_kind a_m_wet a_m_readKind a_m_readWet a_m_keptWet a_m_readCells a_m_readHours a_m_readCracked : Nat) (m_fault : Int32) (m_trace : Int32) (m_sorts : Nat → Int32) (m_sheetLong : Nat → Int32) (m_cells : Nat → Int32) (m_hour : Int32) (m_at : Int32) (m_readSun : Int32) (m_readWide : Int32) (m_readDeep : Int32) (m_readKind : Nat → Int32) (m_readWet : Nat → Int32) (m_keptWet : Nat → Int32) (m_keptSun : Int32) (m_openFirst : Int32) (m_planHours : Int32) (m_readings : Int32) (m_readCells : Nat → Int32) (m_readHours : Nat → Int32) (m_readCracked : Nat → Int32) (Cc : Cx p s m args meth c RX5 cX5_when 3 (some .int)) (hK : va_K D classes (tysA cI cS) s) (hA : ∀ q, s.heap.size ≤ q → A q) (n : Nat) : ∀ (m_sun : Int32) (m_wide : Int32) (m_deep : Int32) (m_kind : Nat → Int32) (m_wet : Nat → Int32) (x2 : Int32) (r : Int32), fX5_when_33 n m_sun m_wide m_deep m_kind m_wet x2 = some (r) → ∀ (H : Heap) (locs : List Loc) (ls : Array Slot), va_P D classes (W_m cI cS a_m a_m_sorts a_m_sheetLong a_m_cells a_m_kind a_m_wet a_m_readKind a_m_readWet a_m_keptWet a_m_readCells a_m_readHours a_m_readCracked m_fault m_trace m_sorts m_sheetLong m_cells m_sun m_wide m_deep m_hour m_kind m_wet m_at m_readSun m_readWide m_readDeep m_readKind m_readWet m_keptWet m_keptSun m_openFirst m_planHours m_readings m_readCells m_readHours m_readCracked) H → va_D A (W_m cI cS a_m a_m_sorts a_m_sheetLong a_m_cells a_m_kind a_m_wet a_m_readKind a_m_readWet a_m_keptWet a_m_readCells a_m_readHours a_m_readCracked m_fault m_trace m_sorts m_sheetLong m_cells m_sun m_wide m_deep m_hour m_kind m_wet m_at m_readSun m_readWide m_readDeep m_readKind m_readWet m_keptWet m_keptSun m_openFirst m_planHours m_readings m_readCells m_readHours m_readCracked) → va_S A s.heap H locs → lv_has ls 3 [(2, .int x2)] → W p l e (Rm 2) s m args below meth c H locs 0 0 (MQ below (QW D (tysA cI cS) (some (.int r)) (W_m cI cS a_m a_m_sorts a_m_sheetLong a_m_cells a_m_kind a_m_wet a_m_readKind a_m_readWet a_m_keptWet a_m_readCells a_m_readHours a_m_readCracked m_fault m_trace m_sorts m_sheetLong m_cells m_sun m_wide m_deep m_hour m_kind m_wet m_at m_readSun m_readWide m_readDeep m_readKind m_readWet m_keptWet m_keptSun m_openFirst m_planHours m_readings m_readCells m_readHours m_readCracked) A) args s 0 0 A) (F0 m 33 ls []) := by
  obtain ⟨hx, hb, hr, hml, hown, hts, hlk, hnw⟩ := id Cc
  intro m_sun m_wide m_deep m_kind m_wet x2 r hf H locs ls hP hD hS hl
  unfold fX5_when_33 at hf
  refine lv_iload_n hx hb dX5_when_33 rfl (lv_at hl 0 rfl) ?_
  refine lv_bipush (v := (20 : Int32)) hx hb dX5_when_34 (by decide) ?_
  refine lv_icmp_gt (tgt := 43) hx hb dX5_when_36 (by decide) (fun hc4 => ?_) (fun hc4 => ?_)
  · replace hf := (if_pos hc4).symm.trans hf
    refine lv_bipush (v := (-9 : Int32)) hx hb dX5_when_43 (by decide) ?_
    obtain rfl := Option.some.inj hf
    exact rt_i Cc hK hP hD hS dX5_when_45
  · replace hf := (if_neg hc4).symm.trans hf
    refine lv_iload_n hx hb dX5_when_39 rfl (lv_at hl 0 rfl) ?_
    refine lv_goto (tgt := 45) hx hb dX5_when_40 (by decide) ?_
    obtain rfl := Option.some.inj hf
    exact rt_i Cc hK hP hD hS dX5_when_45
set_option maxHeartbeats 4000000 in
set_option maxRecDepth 100000 in
theorem bX5_when_12 {p : Program} {l : Launch} {e : Env} {s : State} {m : MethodId} {args : Array Value} {below : List Frame} {meth : Method} {c : Code} {A : Nat → Prop} {D : va_G} {cI cS : ClassId} (a_m a_m_sorts a_m_sheetLong a_m_cells a_m_kind a_m_wet a_m_readKind a_m_readWet a_m_keptWet a_m_readCells a_m_readHours a_m_readCracked : Nat) (m_fault : Int32) (m_trace : Int32) (m_sorts : Nat → Int32) (m_sheetLong : Nat → Int32) (m_cells : Nat → Int32) (m_hour : Int32) (m_at : Int32) (m_readSun : Int32) (m_readWide : Int32) (m_readDeep : Int32) (m_readKind : Nat → Int32) (m_readWet : Nat → Int32) (m_keptWet : Nat → Int32) (m_keptSun : Int32) (m_openFirst : Int32) (m_planHours : Int32) (m_readings : Int32) (m_readCells : Nat → Int32) (m_readHours : Nat → Int32) (m_readCracked : Nat → Int32) (Cc : Cx p s m args meth c RX5 cX5_when 3 (some .int)) (hK : va_K D classes (tysA cI cS) s) (hA : ∀ q, s.heap.size ≤ q → A q) (n : Nat) : ∀ (k : Nat) (m_sun : Int32) (m_wide : Int32) (m_deep : Int32) (m_kind : Nat → Int32) (m_wet : Nat → Int32) (x1 : Int32) (x2 : Int32) (r : Int32), fX5_when_12 n k m_sun m_wide m_deep m_kind m_wet x1 x2 = some (r) → ∀ (H : Heap) (locs : List Loc) (ls : Array Slot), va_P D classes (W_m cI cS a_m a_m_sorts a_m_sheetLong a_m_cells a_m_kind a_m_wet a_m_readKind a_m_readWet a_m_keptWet a_m_readCells a_m_readHours a_m_readCracked m_fault m_trace m_sorts m_sheetLong m_cells m_sun m_wide m_deep m_hour m_kind m_wet m_at m_readSun m_readWide m_readDeep m_readKind m_readWet m_keptWet m_keptSun m_openFirst m_planHours m_readings m_readCells m_readHours m_readCracked) H → va_D A (W_m cI cS a_m a_m_sorts a_m_sheetLong a_m_cells a_m_kind a_m_wet a_m_readKind a_m_readWet a_m_keptWet a_m_readCells a_m_readHours a_m_readCracked m_fault m_trace m_sorts m_sheetLong m_cells m_sun m_wide m_deep m_hour m_kind m_wet m_at m_readSun m_readWide m_readDeep m_readKind m_readWet m_keptWet m_keptSun m_openFirst m_planHours m_readings m_readCells m_readHours m_readCracked) → va_S A s.heap H locs → lv_has ls 3 [(0, .ref a_m), (1, .int x1), (2, .int x2)] → W p l e (Rm 2) s m args below meth c H locs 0 0 (MQ below (QW D (tysA cI cS) (some (.int r)) (W_m cI cS a_m a_m_sorts a_m_sheetLong a_m_cells a_m_kind a_m_wet a_m_readKind a_m_readWet a_m_keptWet a_m_readCells a_m_readHours a_m_readCracked m_fault m_trace m_sorts m_sheetLong m_cells m_sun m_wide m_deep m_hour m_kind m_wet m_at m_readSun m_readWide m_readDeep m_readKind m_readWet m_keptWet m_keptSun m_openFirst m_planHours m_readings m_readCells m_readHours m_readCracked) A) args s 0 0 A) (F0 m 12 ls []) := by
  obtain ⟨hx, hb, hr, hml, hown, hts, hlk, hnw⟩ := id Cc
  intro k
  induction k with
  | zero =>
    intro m_sun m_wide m_deep m_kind m_wet x1 x2 r hf
    rw [fX5_when_12] at hf
    cases hf
  | succ k ih =>
    intro m_sun m_wide m_deep m_kind m_wet x1 x2 r hf H locs ls hP hD hS hl
    rw [fX5_when_12] at hf
    refine lv_iload_n hx hb dX5_when_12 rfl (lv_at hl 2 rfl) ?_
    refine lv_bipush (v := (20 : Int32)) hx hb dX5_when_13 (by decide) ?_
    refine lv_icmp_gt (tgt := 33) hx hb dX5_when_15 (by decide) (fun hc3 => ?_) (fun hc3 => ?_)
    · replace hf := (if_pos hc3).symm.trans hf
      exact bX5_when_33 a_m a_m_sorts a_m_sheetLong a_m_cells a_m_kind a_m_wet a_m_readKind a_m_readWet a_m_keptWet a_m_readCells a_m_readHours a_m_readCracked m_fault m_trace m_sorts m_sheetLong m_cells m_hour m_at m_readSun m_readWide m_readDeep m_readKind m_readWet m_keptWet m_keptSun m_openFirst m_planHours m_readings m_readCells m_readHours m_readCracked Cc hK hA n _ _ _ _ _ _ _ hf _ _ _ hP hD hS (lv_sub hl [2] rfl)
    · replace hf := (if_neg hc3).symm.trans hf
      refine lv_aload_n hx hb dX5_when_18 rfl (lv_at hl 0 rfl) ?_
      refine lv_iload_n hx hb dX5_when_19 rfl (lv_at hl 1 rfl) ?_
      refine lv_iload_n hx hb dX5_when_20 rfl (lv_at hl 2 rfl) ?_
      obtain ⟨q21_1, hq5, hf⟩ := Option.bind_eq_some_iff.mp hf
      refine cV (ws' := (W_m cI cS a_m a_m_sorts a_m_sheetLong a_m_cells a_m_kind a_m_wet a_m_readKind a_m_readWet a_m_keptWet a_m_readCells a_m_readHours a_m_readCracked m_fault m_trace m_sorts m_sheetLong m_cells m_sun m_wide m_deep m_hour m_kind m_wet m_at m_readSun m_readWide m_readDeep m_readKind m_readWet m_keptWet m_keptSun m_openFirst m_planHours m_readings m_readCells m_readHours m_readCracked)) (rest := []) (st1 := [.int q21_1]) Cc hK hA hP hD hS hl.1 (ctX5_wetBehind l D cI cS a_m a_m_sorts a_m_sheetLong a_m_cells a_m_kind a_m_wet a_m_readKind a_m_readWet a_m_keptWet a_m_readCells a_m_readHours a_m_readCracked m_fault m_trace m_sorts m_sheetLong m_cells m_sun m_wide m_deep m_hour m_kind m_wet m_at m_readSun m_readWide m_readDeep m_readKind m_readWet m_keptWet m_keptSun m_openFirst m_planHours m_readings m_readCells m_readHours m_readCracked x1 x2 n q21_1 hq5) ⟨tw_643, tw_640, tw_642, tp_22, tw_6⟩ mdX5_wetBehind ⟨rfl, rfl, Nat.le_of_ble_eq_true rfl, Nat.le_of_ble_eq_true rfl⟩ rfl dX5_when_21 rfl (Nat.le_of_ble_eq_true rfl) ⟨Nat.zero_le _, Nat.zero_le _⟩ rfl rfl rfl [0, 1, 2, 3, 4, 5, 6, 7, 8, 9, 10, 11] [] [0, 1, 2, 3, 4, 5, 6, 7, 8, 9, 10, 11] rfl rfl (by decide) rfl (fun H locs hP hD hS => ?_)
      refine lv_if_le (tgt := 33) hx hb dX5_when_24 (by decide) (fun hc6 => ?_) (fun hc6 => ?_)
      · replace hf := (if_pos hc6).symm.trans hf
        exact bX5_when_33 a_m a_m_sorts a_m_sheetLong a_m_cells a_m_kind a_m_wet a_m_readKind a_m_readWet a_m_keptWet a_m_readCells a_m_readHours a_m_readCracked m_fault m_trace m_sorts m_sheetLong m_cells m_hour m_at m_readSun m_readWide m_readDeep m_readKind m_readWet m_keptWet m_keptSun m_openFirst m_planHours m_readings m_readCells m_readHours m_readCracked Cc hK hA n _ _ _ _ _ _ _ hf _ _ _ hP hD hS (lv_sub hl [2] rfl)
      · replace hf := (if_neg hc6).symm.trans hf
        refine lv_iinc (v := (x2 + 1)) (lv' := [(2, .int (x2 + 1)), (0, .ref a_m), (1, .int x1)]) hx hb dX5_when_27 hl (k := 2) rfl rfl (by decide) rfl (fun ls hl => ?_)
        refine lv_goto (tgt := 12) hx hb dX5_when_30 (by decide) ?_
        exact ih _ _ _ _ _ _ _ _ hf _ _ _ hP hD hS (lv_sub hl [1, 2, 0] rfl)
set_option maxHeartbeats 4000000 in
set_option maxRecDepth 100000 in
theorem ctX5_when (l : Launch) (D : va_G) (cI cS : ClassId) (a_m a_m_sorts a_m_sheetLong a_m_cells a_m_kind a_m_wet a_m_readKind a_m_readWet a_m_keptWet a_m_readCells a_m_readHours a_m_readCracked : Nat) (m_fault : Int32) (m_trace : Int32) (m_sorts : Nat → Int32) (m_sheetLong : Nat → Int32) (m_cells : Nat → Int32) (m_sun : Int32) (m_wide : Int32) (m_deep : Int32) (m_hour : Int32) (m_kind : Nat → Int32) (m_wet : Nat → Int32) (m_at : Int32) (m_readSun : Int32) (m_readWide : Int32) (m_readDeep : Int32) (m_readKind : Nat → Int32) (m_readWet : Nat → Int32) (m_keptWet : Nat → Int32) (m_keptSun : Int32) (m_openFirst : Int32) (m_planHours : Int32) (m_readings : Int32) (m_readCells : Nat → Int32) (m_readHours : Nat → Int32) (m_readCracked : Nat → Int32) (p1 : Int32) (n : Nat) (r : Int32) (hf : fX5_when n m_sun m_wide m_deep m_kind m_wet p1 = some (r)) : Ct l D (tysA cI cS) yX5_when cX5_when 3 (some .int) (Rm 2) [.ref a_m, .int p1] (W_m cI cS a_m a_m_sorts a_m_sheetLong a_m_cells a_m_kind a_m_wet a_m_readKind a_m_readWet a_m_keptWet a_m_readCells a_m_readHours a_m_readCracked m_fault m_trace m_sorts m_sheetLong m_cells m_sun m_wide m_deep m_hour m_kind m_wet m_at m_readSun m_readWide m_readDeep m_readKind m_readWet m_keptWet m_keptSun m_openFirst m_planHours m_readings m_readCells m_readHours m_readCracked) (some (.int r)) (W_m cI cS a_m a_m_sorts a_m_sheetLong a_m_cells a_m_kind a_m_wet a_m_readKind a_m_readWet a_m_keptWet a_m_readCells a_m_readHours a_m_readCracked m_fault m_trace m_sorts m_sheetLong m_cells m_sun m_wide m_deep m_hour m_kind m_wet m_at m_readSun m_readWide m_readDeep m_readKind m_readWet m_keptWet m_keptSun m_openFirst m_planHours m_readings m_readCells m_readHours m_readCracked) := by
  refine Ct_of (by decide) (Nat.le_of_ble_eq_true rfl) ?_
  intro p e s m args below meth c A ls Cc hK hA hP hD hS hl
  have hl : lv_has ls 3 [(0, .ref a_m), (1, .int p1)] := hl
  obtain ⟨hx, hb, hr, hml, hown, hts, hlk, hnw⟩ := id Cc
  unfold fX5_when at hf
  refine lv_aload_n hx hb dX5_when_0 rfl (lv_at hl 0 rfl) ?_
  refine lv_iload_n hx hb dX5_when_1 rfl (lv_at hl 1 rfl) ?_
  obtain ⟨q2_1, hq1, hf⟩ := Option.bind_eq_some_iff.mp hf
  refine cV (ws' := (W_m cI cS a_m a_m_sorts a_m_sheetLong a_m_cells a_m_kind a_m_wet a_m_readKind a_m_readWet a_m_keptWet a_m_readCells a_m_readHours a_m_readCracked m_fault m_trace m_sorts m_sheetLong m_cells m_sun m_wide m_deep m_hour m_kind m_wet m_at m_readSun m_readWide m_readDeep m_readKind m_readWet m_keptWet m_keptSun m_openFirst m_planHours m_readings m_readCells m_readHours m_readCracked)) (rest := []) (st1 := [.int q2_1]) Cc hK hA hP hD hS hl.1 (ctX5_isCell l D cI cS a_m a_m_sorts a_m_sheetLong a_m_cells a_m_kind a_m_wet a_m_readKind a_m_readWet a_m_keptWet a_m_readCells a_m_readHours a_m_readCracked m_fault m_trace m_sorts m_sheetLong m_cells m_sun m_wide m_deep m_hour m_kind m_wet m_at m_readSun m_readWide m_readDeep m_readKind m_readWet m_keptWet m_keptSun m_openFirst m_planHours m_readings m_readCells m_readHours m_readCracked p1 n q2_1 hq1) ⟨tw_627, tw_624, tw_626, tp_18, tw_6⟩ mdX5_isCell ⟨rfl, rfl, Nat.le_of_ble_eq_true rfl, Nat.le_of_ble_eq_true rfl⟩ rfl dX5_when_2 rfl (Nat.le_of_ble_eq_true rfl) ⟨Nat.zero_le _, Nat.zero_le _⟩ rfl rfl rfl [0, 1, 2, 3, 4, 5, 6, 7, 8, 9, 10, 11] [] [0, 1, 2, 3, 4, 5, 6, 7, 8, 9, 10, 11] rfl rfl (by decide) rfl (fun H locs hP hD hS => ?_)
  refine lv_if_ne (tgt := 10) hx hb dX5_when_5 (by decide) (fun hc2 => ?_) (fun hc2 => ?_)
  · replace hf := (if_neg hc2).symm.trans hf
    refine lv_iconst (v := (0 : Int32)) hx hb dX5_when_10 (by decide) ?_
    refine lv_istore_n (lv' := [(2, .int (0 : Int32)), (0, .ref a_m), (1, .int p1)]) hx hb dX5_when_11 rfl hl (by decide) rfl (fun ls hl => ?_)
    exact bX5_when_12 a_m a_m_sorts a_m_sheetLong a_m_cells a_m_kind a_m_wet a_m_readKind a_m_readWet a_m_keptWet a_m_readCells a_m_readHours a_m_readCracked m_fault m_trace m_sorts m_sheetLong m_cells m_hour m_at m_readSun m_readWide m_readDeep m_readKind m_readWet m_keptWet m_keptSun m_openFirst m_planHours m_readings m_readCells m_readHours m_readCracked Cc hK hA n n _ _ _ _ _ _ _ _ hf _ _ _ hP hD hS (lv_sub hl [1, 2, 0] rfl)
  · replace hf := (if_pos hc2).symm.trans hf
    refine lv_iconst (v := (-1 : Int32)) hx hb dX5_when_8 (by decide) ?_
    obtain rfl := Option.some.inj hf
    exact rt_i Cc hK hP hD hS dX5_when_9
-- X5_opens
def fX5_opens_36 (n : Nat) (m_sun : Int32) (m_wide : Int32) (m_deep : Int32) (m_kind : Nat → Int32) (m_wet : Nat → Int32) (x1 : Int32) : Option (Int32) := if (20 : Int32) < x1 then some ((-9 : Int32)) else some (x1)
def fX5_opens_12 (n : Nat) : Nat → Int32 → Int32 → Int32 → (Nat → Int32) → (Nat → Int32) → Int32 → Option (Int32)
  | 0, _, _, _, _, _, _ => none
  | k + 1, m_sun, m_wide, m_deep, m_kind, m_wet, x1 => if (20 : Int32) < x1 then fX5_opens_36 n m_sun m_wide m_deep m_kind m_wet x1 else (fX5_crackedBehind n m_sun m_wide m_deep m_kind m_wet x1).bind fun q21_1 => (fX5_isOpen n m_wide m_deep q21_1).bind fun q24_2 => if q24_2 = 0 then fX5_opens_12 n k m_sun m_wide m_deep m_kind m_wet (x1 + 1) else fX5_opens_36 n m_sun m_wide m_deep m_kind m_wet x1
def fX5_opens (n : Nat) (m_sun : Int32) (m_wide : Int32) (m_deep : Int32) (m_kind : Nat → Int32) (m_wet : Nat → Int32)  : Option (Int32) := if m_wide = 0 then some ((-3 : Int32)) else fX5_opens_12 n n m_sun m_wide m_deep m_kind m_wet (0 : Int32)
theorem mdX5_opens : yX5_opens.cls = RX5 ∧ yX5_opens.cls ≠ "java/lang/invoke/MethodHandle" ∧ yX5_opens.cls ≠ "java/lang/invoke/VarHandle" ∧ (parseMethodDescriptor yX5_opens.desc).map (fun d => d.parameters.length) = some 0 := by decide +kernel
set_option maxHeartbeats 4000000 in
set_option maxRecDepth 100000 in
theorem bX5_opens_36 {p : Program} {l : Launch} {e : Env} {s : State} {m : MethodId} {args : Array Value} {below : List Frame} {meth : Method} {c : Code} {A : Nat → Prop} {D : va_G} {cI cS : ClassId} (a_m a_m_sorts a_m_sheetLong a_m_cells a_m_kind a_m_wet a_m_readKind a_m_readWet a_m_keptWet a_m_readCells a_m_readHours a_m_readCracked : Nat) (m_fault : Int32) (m_trace : Int32) (m_sorts : Nat → Int32) (m_sheetLong : Nat → Int32) (m_cells : Nat → Int32) (m_hour : Int32) (m_at : Int32) (m_readSun : Int32) (m_readWide : Int32) (m_readDeep : Int32) (m_readKind : Nat → Int32) (m_readWet : Nat → Int32) (m_keptWet : Nat → Int32) (m_keptSun : Int32) (m_openFirst : Int32) (m_planHours : Int32) (m_readings : Int32) (m_readCells : Nat → Int32) (m_readHours : Nat → Int32) (m_readCracked : Nat → Int32) (Cc : Cx p s m args meth c RX5 cX5_opens 2 (some .int)) (hK : va_K D classes (tysA cI cS) s) (hA : ∀ q, s.heap.size ≤ q → A q) (n : Nat) : ∀ (m_sun : Int32) (m_wide : Int32) (m_deep : Int32) (m_kind : Nat → Int32) (m_wet : Nat → Int32) (x1 : Int32) (r : Int32), fX5_opens_36 n m_sun m_wide m_deep m_kind m_wet x1 = some (r) → ∀ (H : Heap) (locs : List Loc) (ls : Array Slot), va_P D classes (W_m cI cS a_m a_m_sorts a_m_sheetLong a_m_cells a_m_kind a_m_wet a_m_readKind a_m_readWet a_m_keptWet a_m_readCells a_m_readHours a_m_readCracked m_fault m_trace m_sorts m_sheetLong m_cells m_sun m_wide m_deep m_hour m_kind m_wet m_at m_readSun m_readWide m_readDeep m_readKind m_readWet m_keptWet m_keptSun m_openFirst m_planHours m_readings m_readCells m_readHours m_readCracked) H → va_D A (W_m cI cS a_m a_m_sorts a_m_sheetLong a_m_cells a_m_kind a_m_wet a_m_readKind a_m_readWet a_m_keptWet a_m_readCells a_m_readHours a_m_readCracked m_fault m_trace m_sorts m_sheetLong m_cells m_sun m_wide m_deep m_hour m_kind m_wet m_at m_readSun m_readWide m_readDeep m_readKind m_readWet m_keptWet m_keptSun m_openFirst m_planHours m_readings m_readCells m_readHours m_readCracked) → va_S A s.heap H locs → lv_has ls 2 [(1, .int x1)] → W p l e (Rm 4) s m args below meth c H locs 0 0 (MQ below (QW D (tysA cI cS) (some (.int r)) (W_m cI cS a_m a_m_sorts a_m_sheetLong a_m_cells a_m_kind a_m_wet a_m_readKind a_m_readWet a_m_keptWet a_m_readCells a_m_readHours a_m_readCracked m_fault m_trace m_sorts m_sheetLong m_cells m_sun m_wide m_deep m_hour m_kind m_wet m_at m_readSun m_readWide m_readDeep m_readKind m_readWet m_keptWet m_keptSun m_openFirst m_planHours m_readings m_readCells m_readHours m_readCracked) A) args s 0 0 A) (F0 m 36 ls []) := by
  obtain ⟨hx, hb, hr, hml, hown, hts, hlk, hnw⟩ := id Cc
  intro m_sun m_wide m_deep m_kind m_wet x1 r hf H locs ls hP hD hS hl
  unfold fX5_opens_36 at hf
  refine lv_iload_n hx hb dX5_opens_36 rfl (lv_at hl 0 rfl) ?_
  refine lv_bipush (v := (20 : Int32)) hx hb dX5_opens_37 (by decide) ?_
  refine lv_icmp_gt (tgt := 46) hx hb dX5_opens_39 (by decide) (fun hc3 => ?_) (fun hc3 => ?_)
  · replace hf := (if_pos hc3).symm.trans hf
    refine lv_bipush (v := (-9 : Int32)) hx hb dX5_opens_46 (by decide) ?_
    obtain rfl := Option.some.inj hf
    exact rt_i Cc hK hP hD hS dX5_opens_48
  · replace hf := (if_neg hc3).symm.trans hf
    refine lv_iload_n hx hb dX5_opens_42 rfl (lv_at hl 0 rfl) ?_
    refine lv_goto (tgt := 48) hx hb dX5_opens_43 (by decide) ?_
    obtain rfl := Option.some.inj hf
    exact rt_i Cc hK hP hD hS dX5_opens_48
set_option maxHeartbeats 4000000 in
set_option maxRecDepth 100000 in
theorem bX5_opens_12 {p : Program} {l : Launch} {e : Env} {s : State} {m : MethodId} {args : Array Value} {below : List Frame} {meth : Method} {c : Code} {A : Nat → Prop} {D : va_G} {cI cS : ClassId} (a_m a_m_sorts a_m_sheetLong a_m_cells a_m_kind a_m_wet a_m_readKind a_m_readWet a_m_keptWet a_m_readCells a_m_readHours a_m_readCracked : Nat) (m_fault : Int32) (m_trace : Int32) (m_sorts : Nat → Int32) (m_sheetLong : Nat → Int32) (m_cells : Nat → Int32) (m_hour : Int32) (m_at : Int32) (m_readSun : Int32) (m_readWide : Int32) (m_readDeep : Int32) (m_readKind : Nat → Int32) (m_readWet : Nat → Int32) (m_keptWet : Nat → Int32) (m_keptSun : Int32) (m_openFirst : Int32) (m_planHours : Int32) (m_readings : Int32) (m_readCells : Nat → Int32) (m_readHours : Nat → Int32) (m_readCracked : Nat → Int32) (Cc : Cx p s m args meth c RX5 cX5_opens 2 (some .int)) (hK : va_K D classes (tysA cI cS) s) (hA : ∀ q, s.heap.size ≤ q → A q) (n : Nat) : ∀ (k : Nat) (m_sun : Int32) (m_wide : Int32) (m_deep : Int32) (m_kind : Nat → Int32) (m_wet : Nat → Int32) (x1 : Int32) (r : Int32), fX5_opens_12 n k m_sun m_wide m_deep m_kind m_wet x1 = some (r) → ∀ (H : Heap) (locs : List Loc) (ls : Array Slot), va_P D classes (W_m cI cS a_m a_m_sorts a_m_sheetLong a_m_cells a_m_kind a_m_wet a_m_readKind a_m_readWet a_m_keptWet a_m_readCells a_m_readHours a_m_readCracked m_fault m_trace m_sorts m_sheetLong m_cells m_sun m_wide m_deep m_hour m_kind m_wet m_at m_readSun m_readWide m_readDeep m_readKind m_readWet m_keptWet m_keptSun m_openFirst m_planHours m_readings m_readCells m_readHours m_readCracked) H → va_D A (W_m cI cS a_m a_m_sorts a_m_sheetLong a_m_cells a_m_kind a_m_wet a_m_readKind a_m_readWet a_m_keptWet a_m_readCells a_m_readHours a_m_readCracked m_fault m_trace m_sorts m_sheetLong m_cells m_sun m_wide m_deep m_hour m_kind m_wet m_at m_readSun m_readWide m_readDeep m_readKind m_readWet m_keptWet m_keptSun m_openFirst m_planHours m_readings m_readCells m_readHours m_readCracked) → va_S A s.heap H locs → lv_has ls 2 [(0, .ref a_m), (1, .int x1)] → W p l e (Rm 4) s m args below meth c H locs 0 0 (MQ below (QW D (tysA cI cS) (some (.int r)) (W_m cI cS a_m a_m_sorts a_m_sheetLong a_m_cells a_m_kind a_m_wet a_m_readKind a_m_readWet a_m_keptWet a_m_readCells a_m_readHours a_m_readCracked m_fault m_trace m_sorts m_sheetLong m_cells m_sun m_wide m_deep m_hour m_kind m_wet m_at m_readSun m_readWide m_readDeep m_readKind m_readWet m_keptWet m_keptSun m_openFirst m_planHours m_readings m_readCells m_readHours m_readCracked) A) args s 0 0 A) (F0 m 12 ls []) := by
  obtain ⟨hx, hb, hr, hml, hown, hts, hlk, hnw⟩ := id Cc
  intro k
  induction k with
  | zero =>
    intro m_sun m_wide m_deep m_kind m_wet x1 r hf
    rw [fX5_opens_12] at hf
    cases hf
  | succ k ih =>
    intro m_sun m_wide m_deep m_kind m_wet x1 r hf H locs ls hP hD hS hl
    rw [fX5_opens_12] at hf
    refine lv_iload_n hx hb dX5_opens_12 rfl (lv_at hl 1 rfl) ?_
    refine lv_bipush (v := (20 : Int32)) hx hb dX5_opens_13 (by decide) ?_
    refine lv_icmp_gt (tgt := 36) hx hb dX5_opens_15 (by decide) (fun hc2 => ?_) (fun hc2 => ?_)
    · replace hf := (if_pos hc2).symm.trans hf
      exact bX5_opens_36 a_m a_m_sorts a_m_sheetLong a_m_cells a_m_kind a_m_wet a_m_readKind a_m_readWet a_m_keptWet a_m_readCells a_m_readHours a_m_readCracked m_fault m_trace m_sorts m_sheetLong m_cells m_hour m_at m_readSun m_readWide m_readDeep m_readKind m_readWet m_keptWet m_keptSun m_openFirst m_planHours m_readings m_readCells m_readHours m_readCracked Cc hK hA n _ _ _ _ _ _ _ hf _ _ _ hP hD hS (lv_sub hl [1] rfl)
    · replace hf := (if_neg hc2).symm.trans hf
      refine lv_aload_n hx hb dX5_opens_18 rfl (lv_at hl 0 rfl) ?_
      refine lv_aload_n hx hb dX5_opens_19 rfl (lv_at hl 0 rfl) ?_
      refine lv_iload_n hx hb dX5_opens_20 rfl (lv_at hl 1 rfl) ?_
      obtain ⟨q21_1, hq4, hf⟩ := Option.bind_eq_some_iff.mp hf
      refine cV (ws' := (W_m cI cS a_m a_m_sorts a_m_sheetLong a_m_cells a_m_kind a_m_wet a_m_readKind a_m_readWet a_m_keptWet a_m_readCells a_m_readHours a_m_readCracked m_fault m_trace m_sorts m_sheetLong m_cells m_sun m_wide m_deep m_hour m_kind m_wet m_at m_readSun m_readWide m_readDeep m_readKind m_readWet m_keptWet m_keptSun m_openFirst m_planHours m_readings m_readCells m_readHours m_readCracked)) (rest := [.ref a_m]) (st1 := [.int q21_1, .ref a_m]) Cc hK hA hP hD hS hl.1 (ctX5_crackedBehind l D cI cS a_m a_m_sorts a_m_sheetLong a_m_cells a_m_kind a_m_wet a_m_readKind a_m_readWet a_m_keptWet a_m_readCells a_m_readHours a_m_readCracked m_fault m_trace m_sorts m_sheetLong m_cells m_sun m_wide m_deep m_hour m_kind m_wet m_at m_readSun m_readWide m_readDeep m_readKind m_readWet m_keptWet m_keptSun m_openFirst m_planHours m_readings m_readCells m_readHours m_readCracked x1 n q21_1 hq4) ⟨tw_639, tw_636, tw_638, tp_21, tw_6⟩ mdX5_crackedBehind ⟨rfl, rfl, Nat.le_of_ble_eq_true rfl, Nat.le_of_ble_eq_true rfl⟩ rfl dX5_opens_21 rfl (Nat.le_of_ble_eq_true rfl) ⟨Nat.zero_le _, Nat.zero_le _⟩ rfl rfl rfl [0, 1, 2, 3, 4, 5, 6, 7, 8, 9, 10, 11] [] [0, 1, 2, 3, 4, 5, 6, 7, 8, 9, 10, 11] rfl rfl (by decide) rfl (fun H locs hP hD hS => ?_)
      obtain ⟨q24_2, hq5, hf⟩ := Option.bind_eq_some_iff.mp hf
      refine cV (ws' := (W_m cI cS a_m a_m_sorts a_m_sheetLong a_m_cells a_m_kind a_m_wet a_m_readKind a_m_readWet a_m_keptWet a_m_readCells a_m_readHours a_m_readCracked m_fault m_trace m_sorts m_sheetLong m_cells m_sun m_wide m_deep m_hour m_kind m_wet m_at m_readSun m_readWide m_readDeep m_readKind m_readWet m_keptWet m_keptSun m_openFirst m_planHours m_readings m_readCells m_readHours m_readCracked)) (rest := []) (st1 := [.int q24_2]) Cc hK hA hP hD hS hl.1 (ctX5_isOpen l D cI cS a_m a_m_sorts a_m_sheetLong a_m_cells a_m_kind a_m_wet a_m_readKind a_m_readWet a_m_keptWet a_m_readCells a_m_readHours a_m_readCracked m_fault m_trace m_sorts m_sheetLong m_cells m_sun m_wide m_deep m_hour m_kind m_wet m_at m_readSun m_readWide m_readDeep m_readKind m_readWet m_keptWet m_keptSun m_openFirst m_planHours m_readings m_readCells m_readHours m_readCracked q21_1 n q24_2 hq5) ⟨tw_692, tw_689, tw_691, tp_27, tw_6⟩ mdX5_isOpen ⟨rfl, rfl, Nat.le_of_ble_eq_true rfl, Nat.le_of_ble_eq_true rfl⟩ rfl dX5_opens_24 rfl (Nat.le_of_ble_eq_true rfl) ⟨Nat.zero_le _, Nat.zero_le _⟩ rfl rfl rfl [0, 1, 2, 3, 4, 5, 6, 7, 8, 9, 10, 11] [] [0, 1, 2, 3, 4, 5, 6, 7, 8, 9, 10, 11] rfl rfl (by decide) rfl (fun H locs hP hD hS => ?_)
      refine lv_if_ne (tgt := 36) hx hb dX5_opens_27 (by decide) (fun hc6 => ?_) (fun hc6 => ?_)
      · replace hf := (if_neg hc6).symm.trans hf
        exact bX5_opens_36 a_m a_m_sorts a_m_sheetLong a_m_cells a_m_kind a_m_wet a_m_readKind a_m_readWet a_m_keptWet a_m_readCells a_m_readHours a_m_readCracked m_fault m_trace m_sorts m_sheetLong m_cells m_hour m_at m_readSun m_readWide m_readDeep m_readKind m_readWet m_keptWet m_keptSun m_openFirst m_planHours m_readings m_readCells m_readHours m_readCracked Cc hK hA n _ _ _ _ _ _ _ hf _ _ _ hP hD hS (lv_sub hl [1] rfl)
      · replace hf := (if_pos hc6).symm.trans hf
        refine lv_iinc (v := (x1 + 1)) (lv' := [(1, .int (x1 + 1)), (0, .ref a_m)]) hx hb dX5_opens_30 hl (k := 1) rfl rfl (by decide) rfl (fun ls hl => ?_)
        refine lv_goto (tgt := 12) hx hb dX5_opens_33 (by decide) ?_
        exact ih _ _ _ _ _ _ _ hf _ _ _ hP hD hS (lv_sub hl [1, 0] rfl)
set_option maxHeartbeats 4000000 in
set_option maxRecDepth 100000 in
theorem ctX5_opens (l : Launch) (D : va_G) (cI cS : ClassId) (a_m a_m_sorts a_m_sheetLong a_m_cells a_m_kind a_m_wet a_m_readKind a_m_readWet a_m_keptWet a_m_readCells a_m_readHours a_m_readCracked : Nat) (m_fault : Int32) (m_trace : Int32) (m_sorts : Nat → Int32) (m_sheetLong : Nat → Int32) (m_cells : Nat → Int32) (m_sun : Int32) (m_wide : Int32) (m_deep : Int32) (m_hour : Int32) (m_kind : Nat → Int32) (m_wet : Nat → Int32) (m_at : Int32) (m_readSun : Int32) (m_readWide : Int32) (m_readDeep : Int32) (m_readKind : Nat → Int32) (m_readWet : Nat → Int32) (m_keptWet : Nat → Int32) (m_keptSun : Int32) (m_openFirst : Int32) (m_planHours : Int32) (m_readings : Int32) (m_readCells : Nat → Int32) (m_readHours : Nat → Int32) (m_readCracked : Nat → Int32)  (n : Nat) (r : Int32) (hf : fX5_opens n m_sun m_wide m_deep m_kind m_wet  = some (r)) : Ct l D (tysA cI cS) yX5_opens cX5_opens 2 (some .int) (Rm 4) [.ref a_m] (W_m cI cS a_m a_m_sorts a_m_sheetLong a_m_cells a_m_kind a_m_wet a_m_readKind a_m_readWet a_m_keptWet a_m_readCells a_m_readHours a_m_readCracked m_fault m_trace m_sorts m_sheetLong m_cells m_sun m_wide m_deep m_hour m_kind m_wet m_at m_readSun m_readWide m_readDeep m_readKind m_readWet m_keptWet m_keptSun m_openFirst m_planHours m_readings m_readCells m_readHours m_readCracked) (some (.int r)) (W_m cI cS a_m a_m_sorts a_m_sheetLong a_m_cells a_m_kind a_m_wet a_m_readKind a_m_readWet a_m_keptWet a_m_readCells a_m_readHours a_m_readCracked m_fault m_trace m_sorts m_sheetLong m_cells m_sun m_wide m_deep m_hour m_kind m_wet m_at m_readSun m_readWide m_readDeep m_readKind m_readWet m_keptWet m_keptSun m_openFirst m_planHours m_readings m_readCells m_readHours m_readCracked) := by
  refine Ct_of (by decide) (Nat.le_of_ble_eq_true rfl) ?_
  intro p e s m args below meth c A ls Cc hK hA hP hD hS hl
  have hl : lv_has ls 2 [(0, .ref a_m)] := hl
  obtain ⟨hx, hb, hr, hml, hown, hts, hlk, hnw⟩ := id Cc
  unfold fX5_opens at hf
  refine lv_aload_n hx hb dX5_opens_0 rfl (lv_at hl 0 rfl) ?_
  refine va_get (D := D) (ci := 5) (v := .int m_wide) (C := RX5) (T := TX5) (N := 25) hx hb hts inX5 hown hK hP 0 rfl rfl 6 (by decide) (hts _ tw_509) (fun _ h9 => h9) rfl dX5_opens_1 ?_
  refine lv_if_ne (tgt := 10) hx hb dX5_opens_4 (by decide) (fun hc1 => ?_) (fun hc1 => ?_)
  · replace hf := (if_neg hc1).symm.trans hf
    refine lv_iconst (v := (0 : Int32)) hx hb dX5_opens_10 (by decide) ?_
    refine lv_istore_n (lv' := [(1, .int (0 : Int32)), (0, .ref a_m)]) hx hb dX5_opens_11 rfl hl (by decide) rfl (fun ls hl => ?_)
    exact bX5_opens_12 a_m a_m_sorts a_m_sheetLong a_m_cells a_m_kind a_m_wet a_m_readKind a_m_readWet a_m_keptWet a_m_readCells a_m_readHours a_m_readCracked m_fault m_trace m_sorts m_sheetLong m_cells m_hour m_at m_readSun m_readWide m_readDeep m_readKind m_readWet m_keptWet m_keptSun m_openFirst m_planHours m_readings m_readCells m_readHours m_readCracked Cc hK hA n n _ _ _ _ _ _ _ hf _ _ _ hP hD hS (lv_sub hl [1, 0] rfl)
  · replace hf := (if_pos hc1).symm.trans hf
    refine lv_bipush (v := (-3 : Int32)) hx hb dX5_opens_7 (by decide) ?_
    obtain rfl := Option.some.inj hf
    exact rt_i Cc hK hP hD hS dX5_opens_9
-- X5_bars
def fX5_bars_35 (n : Nat) : Nat → Int32 → Int32 → Int32 → (Nat → Int32) → (Nat → Int32) → Int32 → Int32 → Int32 → Option (Int32)
  | 0, _, _, _, _, _, _, _, _ => none
  | k + 1, m_sun, m_wide, m_deep, m_kind, m_wet, x2, x3, x4 => (fX5_cellsOf n m_wide m_deep).bind fun q39_1 => if ((1 : Int32) <<< (q39_1 &&& 31)) ≤ x4 then some (x3) else if x3 = (-9 : Int32) then (fX5_isOpen n m_wide m_deep (x2 &&& (x4 ^^^ (-1 : Int32)))).bind fun q83_1 => if q83_1 = 0 then fX5_bars_35 n k m_sun m_wide m_deep m_kind m_wet x2 x4 (x4 + 1) else fX5_bars_35 n k m_sun m_wide m_deep m_kind m_wet x2 x3 (x4 + 1) else (fX5_size n x4).bind fun q54_1 => (fX5_size n x3).bind fun q58_2 => if q58_2 ≤ q54_1 then fX5_bars_35 n k m_sun m_wide m_deep m_kind m_wet x2 x3 (x4 + 1) else (fX5_isOpen n m_wide m_deep (x2 &&& (x4 ^^^ (-1 : Int32)))).bind fun q83_1 => if q83_1 = 0 then fX5_bars_35 n k m_sun m_wide m_deep m_kind m_wet x2 x4 (x4 + 1) else fX5_bars_35 n k m_sun m_wide m_deep m_kind m_wet x2 x3 (x4 + 1)
def fX5_bars (n : Nat) (m_sun : Int32) (m_wide : Int32) (m_deep : Int32) (m_kind : Nat → Int32) (m_wet : Nat → Int32) (p1 : Int32) : Option (Int32) := (fX5_within n p1 (0 : Int32) (20 : Int32)).bind fun q4_1 => if q4_1 = 0 then some ((-2 : Int32)) else if m_wide = 0 then some ((-3 : Int32)) else (fX5_crackedBehind n m_sun m_wide m_deep m_kind m_wet p1).bind fun q25_1 => fX5_bars_35 n n m_sun m_wide m_deep m_kind m_wet q25_1 (-9 : Int32) (0 : Int32)
theorem mdX5_bars : yX5_bars.cls = RX5 ∧ yX5_bars.cls ≠ "java/lang/invoke/MethodHandle" ∧ yX5_bars.cls ≠ "java/lang/invoke/VarHandle" ∧ (parseMethodDescriptor yX5_bars.desc).map (fun d => d.parameters.length) = some 1 := by decide +kernel
set_option maxHeartbeats 4000000 in
set_option maxRecDepth 100000 in
theorem bX5_bars_35 {p : Program} {l : Launch} {e : Env} {s : State} {m : MethodId} {args : Array Value} {below : List Frame} {meth : Method} {c : Code} {A : Nat → Prop} {D : va_G} {cI cS : ClassId} (a_m a_m_sorts a_m_sheetLong a_m_cells a_m_kind a_m_wet a_m_readKind a_m_readWet a_m_keptWet a_m_readCells a_m_readHours a_m_readCracked : Nat) (m_fault : Int32) (m_trace : Int32) (m_sorts : Nat → Int32) (m_sheetLong : Nat → Int32) (m_cells : Nat → Int32) (m_hour : Int32) (m_at : Int32) (m_readSun : Int32) (m_readWide : Int32) (m_readDeep : Int32) (m_readKind : Nat → Int32) (m_readWet : Nat → Int32) (m_keptWet : Nat → Int32) (m_keptSun : Int32) (m_openFirst : Int32) (m_planHours : Int32) (m_readings : Int32) (m_readCells : Nat → Int32) (m_readHours : Nat → Int32) (m_readCracked : Nat → Int32) (Cc : Cx p s m args meth c RX5 cX5_bars 6 (some .int)) (hK : va_K D classes (tysA cI cS) s) (hA : ∀ q, s.heap.size ≤ q → A q) (n : Nat) : ∀ (k : Nat) (m_sun : Int32) (m_wide : Int32) (m_deep : Int32) (m_kind : Nat → Int32) (m_wet : Nat → Int32) (x2 : Int32) (x3 : Int32) (x4 : Int32) (r : Int32), fX5_bars_35 n k m_sun m_wide m_deep m_kind m_wet x2 x3 x4 = some (r) → ∀ (H : Heap) (locs : List Loc) (ls : Array Slot), va_P D classes (W_m cI cS a_m a_m_sorts a_m_sheetLong a_m_cells a_m_kind a_m_wet a_m_readKind a_m_readWet a_m_keptWet a_m_readCells a_m_readHours a_m_readCracked m_fault m_trace m_sorts m_sheetLong m_cells m_sun m_wide m_deep m_hour m_kind m_wet m_at m_readSun m_readWide m_readDeep m_readKind m_readWet m_keptWet m_keptSun m_openFirst m_planHours m_readings m_readCells m_readHours m_readCracked) H → va_D A (W_m cI cS a_m a_m_sorts a_m_sheetLong a_m_cells a_m_kind a_m_wet a_m_readKind a_m_readWet a_m_keptWet a_m_readCells a_m_readHours a_m_readCracked m_fault m_trace m_sorts m_sheetLong m_cells m_sun m_wide m_deep m_hour m_kind m_wet m_at m_readSun m_readWide m_readDeep m_readKind m_readWet m_keptWet m_keptSun m_openFirst m_planHours m_readings m_readCells m_readHours m_readCracked) → va_S A s.heap H locs → lv_has ls 6 [(0, .ref a_m), (2, .int x2), (3, .int x3), (4, .int x4)] → W p l e (Rm 4) s m args below meth c H locs 0 0 (MQ below (QW D (tysA cI cS) (some (.int r)) (W_m cI cS a_m a_m_sorts a_m_sheetLong a_m_cells a_m_kind a_m_wet a_m_readKind a_m_readWet a_m_keptWet a_m_readCells a_m_readHours a_m_readCracked m_fault m_trace m_sorts m_sheetLong m_cells m_sun m_wide m_deep m_hour m_kind m_wet m_at m_readSun m_readWide m_readDeep m_readKind m_readWet m_keptWet m_keptSun m_openFirst m_planHours m_readings m_readCells m_readHours m_readCracked) A) args s 0 0 A) (F0 m 35 ls []) := by
  obtain ⟨hx, hb, hr, hml, hown, hts, hlk, hnw⟩ := id Cc
  intro k
  induction k with
  | zero =>
    intro m_sun m_wide m_deep m_kind m_wet x2 x3 x4 r hf
    rw [fX5_bars_35] at hf
    cases hf
  | succ k ih =>
    intro m_sun m_wide m_deep m_kind m_wet x2 x3 x4 r hf H locs ls hP hD hS hl
    rw [fX5_bars_35] at hf
    refine lv_iload hx hb dX5_bars_35 (lv_at hl 3 rfl) ?_
    refine lv_iconst (v := (1 : Int32)) hx hb dX5_bars_37 (by decide) ?_
    refine lv_aload_n hx hb dX5_bars_38 rfl (lv_at hl 0 rfl) ?_
    obtain ⟨q39_1, hq5, hf⟩ := Option.bind_eq_some_iff.mp hf
    refine cV (ws' := (W_m cI cS a_m a_m_sorts a_m_sheetLong a_m_cells a_m_kind a_m_wet a_m_readKind a_m_readWet a_m_keptWet a_m_readCells a_m_readHours a_m_readCracked m_fault m_trace m_sorts m_sheetLong m_cells m_sun m_wide m_deep m_hour m_kind m_wet m_at m_readSun m_readWide m_readDeep m_readKind m_readWet m_keptWet m_keptSun m_openFirst m_planHours m_readings m_readCells m_readHours m_readCracked)) (rest := [.int (1 : Int32), .int x4]) (st1 := [.int q39_1, .int (1 : Int32), .int x4]) Cc hK hA hP hD hS hl.1 (ctX5_cellsOf l D cI cS a_m a_m_sorts a_m_sheetLong a_m_cells a_m_kind a_m_wet a_m_readKind a_m_readWet a_m_keptWet a_m_readCells a_m_readHours a_m_readCracked m_fault m_trace m_sorts m_sheetLong m_cells m_sun m_wide m_deep m_hour m_kind m_wet m_at m_readSun m_readWide m_readDeep m_readKind m_readWet m_keptWet m_keptSun m_openFirst m_planHours m_readings m_readCells m_readHours m_readCracked  n q39_1 hq5) ⟨tw_619, tw_616, tw_618, tp_17, tw_6⟩ mdX5_cellsOf ⟨rfl, rfl, Nat.le_of_ble_eq_true rfl, Nat.le_of_ble_eq_true rfl⟩ rfl dX5_bars_39 rfl (Nat.le_of_ble_eq_true rfl) ⟨Nat.zero_le _, Nat.zero_le _⟩ rfl rfl rfl [0, 1, 2, 3, 4, 5, 6, 7, 8, 9, 10, 11] [] [0, 1, 2, 3, 4, 5, 6, 7, 8, 9, 10, 11] rfl rfl (by decide) rfl (fun H locs hP hD hS => ?_)
    refine lv_ishl hx hb dX5_bars_42 ?_
    refine lv_icmp_ge (tgt := 98) hx hb dX5_bars_43 (by decide) (fun hc6 => ?_) (fun hc6 => ?_)
    · replace hf := (if_pos hc6).symm.trans hf
      refine lv_iload_n hx hb dX5_bars_98 rfl (lv_at hl 2 rfl) ?_
      obtain rfl := Option.some.inj hf
      exact rt_i Cc hK hP hD hS dX5_bars_99
    · replace hf := (if_neg hc6).symm.trans hf
      refine lv_iload_n hx hb dX5_bars_46 rfl (lv_at hl 2 rfl) ?_
      refine lv_bipush (v := (-9 : Int32)) hx hb dX5_bars_47 (by decide) ?_
      refine lv_icmp_eq (tgt := 64) hx hb dX5_bars_49 (by decide) (fun hc7 => ?_) (fun hc7 => ?_)
      · replace hf := (if_pos hc7).symm.trans hf
        refine lv_iconst (v := (1 : Int32)) hx hb dX5_bars_64 (by decide) ?_
        refine lv_goto (tgt := 69) hx hb dX5_bars_65 (by decide) ?_
        refine lv_istore (lv' := [(5, .int (1 : Int32)), (0, .ref a_m), (2, .int x2), (3, .int x3), (4, .int x4)]) hx hb dX5_bars_69 hl (by decide) rfl (fun ls hl => ?_)
        refine lv_iload hx hb dX5_bars_71 (lv_at hl 0 rfl) ?_
        refine lv_if_eq (tgt := 92) hx hb dX5_bars_73 (by decide) (fun hc => absurd hc (by decide)) (fun _ => ?_)
        refine lv_aload_n hx hb dX5_bars_76 rfl (lv_at hl 1 rfl) ?_
        refine lv_iload_n hx hb dX5_bars_77 rfl (lv_at hl 2 rfl) ?_
        refine lv_iload hx hb dX5_bars_78 (lv_at hl 4 rfl) ?_
        refine lv_iconst (v := (-1 : Int32)) hx hb dX5_bars_80 (by decide) ?_
        refine lv_ixor hx hb dX5_bars_81 ?_
        refine lv_iand hx hb dX5_bars_82 ?_
        obtain ⟨q83_1, hq8, hf⟩ := Option.bind_eq_some_iff.mp hf
        refine cV (ws' := (W_m cI cS a_m a_m_sorts a_m_sheetLong a_m_cells a_m_kind a_m_wet a_m_readKind a_m_readWet a_m_keptWet a_m_readCells a_m_readHours a_m_readCracked m_fault m_trace m_sorts m_sheetLong m_cells m_sun m_wide m_deep m_hour m_kind m_wet m_at m_readSun m_readWide m_readDeep m_readKind m_readWet m_keptWet m_keptSun m_openFirst m_planHours m_readings m_readCells m_readHours m_readCracked)) (rest := []) (st1 := [.int q83_1]) Cc hK hA hP hD hS hl.1 (ctX5_isOpen l D cI cS a_m a_m_sorts a_m_sheetLong a_m_cells a_m_kind a_m_wet a_m_readKind a_m_readWet a_m_keptWet a_m_readCells a_m_readHours a_m_readCracked m_fault m_trace m_sorts m_sheetLong m_cells m_sun m_wide m_deep m_hour m_kind m_wet m_at m_readSun m_readWide m_readDeep m_readKind m_readWet m_keptWet m_keptSun m_openFirst m_planHours m_readings m_readCells m_readHours m_readCracked (x2 &&& (x4 ^^^ (-1 : Int32))) n q83_1 hq8) ⟨tw_692, tw_689, tw_691, tp_27, tw_6⟩ mdX5_isOpen ⟨rfl, rfl, Nat.le_of_ble_eq_true rfl, Nat.le_of_ble_eq_true rfl⟩ rfl dX5_bars_83 rfl (Nat.le_of_ble_eq_true rfl) ⟨Nat.zero_le _, Nat.zero_le _⟩ rfl rfl rfl [0, 1, 2, 3, 4, 5, 6, 7, 8, 9, 10, 11] [] [0, 1, 2, 3, 4, 5, 6, 7, 8, 9, 10, 11] rfl rfl (by decide) rfl (fun H locs hP hD hS => ?_)
        refine lv_if_ne (tgt := 92) hx hb dX5_bars_86 (by decide) (fun hc9 => ?_) (fun hc9 => ?_)
        · replace hf := (if_neg hc9).symm.trans hf
          refine lv_iinc (v := (x4 + 1)) (lv' := [(4, .int (x4 + 1)), (5, .int (1 : Int32)), (0, .ref a_m), (2, .int x2), (3, .int x3)]) hx hb dX5_bars_92 hl (k := 4) rfl rfl (by decide) rfl (fun ls hl => ?_)
          refine lv_goto (tgt := 35) hx hb dX5_bars_95 (by decide) ?_
          exact ih _ _ _ _ _ _ _ _ _ hf _ _ _ hP hD hS (lv_sub hl [2, 3, 4, 0] rfl)
        · replace hf := (if_pos hc9).symm.trans hf
          refine lv_iload hx hb dX5_bars_89 (lv_at hl 4 rfl) ?_
          refine lv_istore_n (lv' := [(3, .int x4), (5, .int (1 : Int32)), (0, .ref a_m), (2, .int x2), (4, .int x4)]) hx hb dX5_bars_91 rfl hl (by decide) rfl (fun ls hl => ?_)
          refine lv_iinc (v := (x4 + 1)) (lv' := [(4, .int (x4 + 1)), (3, .int x4), (5, .int (1 : Int32)), (0, .ref a_m), (2, .int x2)]) hx hb dX5_bars_92 hl (k := 4) rfl rfl (by decide) rfl (fun ls hl => ?_)
          refine lv_goto (tgt := 35) hx hb dX5_bars_95 (by decide) ?_
          exact ih _ _ _ _ _ _ _ _ _ hf _ _ _ hP hD hS (lv_sub hl [3, 4, 1, 0] rfl)
      · replace hf := (if_neg hc7).symm.trans hf
        refine lv_iload hx hb dX5_bars_52 (lv_at hl 3 rfl) ?_
        obtain ⟨q54_1, hq10, hf⟩ := Option.bind_eq_some_iff.mp hf
        refine cSt (ws' := (W_m cI cS a_m a_m_sorts a_m_sheetLong a_m_cells a_m_kind a_m_wet a_m_readKind a_m_readWet a_m_keptWet a_m_readCells a_m_readHours a_m_readCracked m_fault m_trace m_sorts m_sheetLong m_cells m_sun m_wide m_deep m_hour m_kind m_wet m_at m_readSun m_readWide m_readDeep m_readKind m_readWet m_keptWet m_keptSun m_openFirst m_planHours m_readings m_readCells m_readHours m_readCracked)) (rest := []) (st1 := [.int q54_1]) Cc hK hA hP hD hS hl.1 (ctX5_size l D cI cS   x4 n q54_1 hq10) ⟨tw_657, tw_655, tw_656, tw_6⟩ mdX5_size ⟨rfl, rfl, Nat.le_of_ble_eq_true rfl, Nat.le_of_ble_eq_true rfl⟩ rfl dX5_bars_54 rfl (Nat.le_of_ble_eq_true rfl) ⟨Nat.zero_le _, Nat.zero_le _⟩ rfl [] [0, 1, 2, 3, 4, 5, 6, 7, 8, 9, 10, 11] [0, 1, 2, 3, 4, 5, 6, 7, 8, 9, 10, 11] rfl rfl (by decide) rfl (fun H locs hP hD hS => ?_)
        refine lv_iload_n hx hb dX5_bars_57 rfl (lv_at hl 2 rfl) ?_
        obtain ⟨q58_2, hq11, hf⟩ := Option.bind_eq_some_iff.mp hf
        refine cSt (ws' := (W_m cI cS a_m a_m_sorts a_m_sheetLong a_m_cells a_m_kind a_m_wet a_m_readKind a_m_readWet a_m_keptWet a_m_readCells a_m_readHours a_m_readCracked m_fault m_trace m_sorts m_sheetLong m_cells m_sun m_wide m_deep m_hour m_kind m_wet m_at m_readSun m_readWide m_readDeep m_readKind m_readWet m_keptWet m_keptSun m_openFirst m_planHours m_readings m_readCells m_readHours m_readCracked)) (rest := [.int q54_1]) (st1 := [.int q58_2, .int q54_1]) Cc hK hA hP hD hS hl.1 (ctX5_size l D cI cS   x3 n q58_2 hq11) ⟨tw_657, tw_655, tw_656, tw_6⟩ mdX5_size ⟨rfl, rfl, Nat.le_of_ble_eq_true rfl, Nat.le_of_ble_eq_true rfl⟩ rfl dX5_bars_58 rfl (Nat.le_of_ble_eq_true rfl) ⟨Nat.zero_le _, Nat.zero_le _⟩ rfl [] [0, 1, 2, 3, 4, 5, 6, 7, 8, 9, 10, 11] [0, 1, 2, 3, 4, 5, 6, 7, 8, 9, 10, 11] rfl rfl (by decide) rfl (fun H locs hP hD hS => ?_)
        refine lv_icmp_ge (tgt := 68) hx hb dX5_bars_61 (by decide) (fun hc12 => ?_) (fun hc12 => ?_)
        · replace hf := (if_pos hc12).symm.trans hf
          refine lv_iconst (v := (0 : Int32)) hx hb dX5_bars_68 (by decide) ?_
          refine lv_istore (lv' := [(5, .int (0 : Int32)), (0, .ref a_m), (2, .int x2), (3, .int x3), (4, .int x4)]) hx hb dX5_bars_69 hl (by decide) rfl (fun ls hl => ?_)
          refine lv_iload hx hb dX5_bars_71 (lv_at hl 0 rfl) ?_
          refine lv_if_eq (tgt := 92) hx hb dX5_bars_73 (by decide) (fun _ => ?_) (fun hc => absurd hc (by decide))
          refine lv_iinc (v := (x4 + 1)) (lv' := [(4, .int (x4 + 1)), (5, .int (0 : Int32)), (0, .ref a_m), (2, .int x2), (3, .int x3)]) hx hb dX5_bars_92 hl (k := 4) rfl rfl (by decide) rfl (fun ls hl => ?_)
          refine lv_goto (tgt := 35) hx hb dX5_bars_95 (by decide) ?_
          exact ih _ _ _ _ _ _ _ _ _ hf _ _ _ hP hD hS (lv_sub hl [2, 3, 4, 0] rfl)
        · replace hf := (if_neg hc12).symm.trans hf
          refine lv_iconst (v := (1 : Int32)) hx hb dX5_bars_64 (by decide) ?_
          refine lv_goto (tgt := 69) hx hb dX5_bars_65 (by decide) ?_
          refine lv_istore (lv' := [(5, .int (1 : Int32)), (0, .ref a_m), (2, .int x2), (3, .int x3), (4, .int x4)]) hx hb dX5_bars_69 hl (by decide) rfl (fun ls hl => ?_)
          refine lv_iload hx hb dX5_bars_71 (lv_at hl 0 rfl) ?_
          refine lv_if_eq (tgt := 92) hx hb dX5_bars_73 (by decide) (fun hc => absurd hc (by decide)) (fun _ => ?_)
          refine lv_aload_n hx hb dX5_bars_76 rfl (lv_at hl 1 rfl) ?_
          refine lv_iload_n hx hb dX5_bars_77 rfl (lv_at hl 2 rfl) ?_
          refine lv_iload hx hb dX5_bars_78 (lv_at hl 4 rfl) ?_
          refine lv_iconst (v := (-1 : Int32)) hx hb dX5_bars_80 (by decide) ?_
          refine lv_ixor hx hb dX5_bars_81 ?_
          refine lv_iand hx hb dX5_bars_82 ?_
          obtain ⟨q83_1, hq13, hf⟩ := Option.bind_eq_some_iff.mp hf
          refine cV (ws' := (W_m cI cS a_m a_m_sorts a_m_sheetLong a_m_cells a_m_kind a_m_wet a_m_readKind a_m_readWet a_m_keptWet a_m_readCells a_m_readHours a_m_readCracked m_fault m_trace m_sorts m_sheetLong m_cells m_sun m_wide m_deep m_hour m_kind m_wet m_at m_readSun m_readWide m_readDeep m_readKind m_readWet m_keptWet m_keptSun m_openFirst m_planHours m_readings m_readCells m_readHours m_readCracked)) (rest := []) (st1 := [.int q83_1]) Cc hK hA hP hD hS hl.1 (ctX5_isOpen l D cI cS a_m a_m_sorts a_m_sheetLong a_m_cells a_m_kind a_m_wet a_m_readKind a_m_readWet a_m_keptWet a_m_readCells a_m_readHours a_m_readCracked m_fault m_trace m_sorts m_sheetLong m_cells m_sun m_wide m_deep m_hour m_kind m_wet m_at m_readSun m_readWide m_readDeep m_readKind m_readWet m_keptWet m_keptSun m_openFirst m_planHours m_readings m_readCells m_readHours m_readCracked (x2 &&& (x4 ^^^ (-1 : Int32))) n q83_1 hq13) ⟨tw_692, tw_689, tw_691, tp_27, tw_6⟩ mdX5_isOpen ⟨rfl, rfl, Nat.le_of_ble_eq_true rfl, Nat.le_of_ble_eq_true rfl⟩ rfl dX5_bars_83 rfl (Nat.le_of_ble_eq_true rfl) ⟨Nat.zero_le _, Nat.zero_le _⟩ rfl rfl rfl [0, 1, 2, 3, 4, 5, 6, 7, 8, 9, 10, 11] [] [0, 1, 2, 3, 4, 5, 6, 7, 8, 9, 10, 11] rfl rfl (by decide) rfl (fun H locs hP hD hS => ?_)
          refine lv_if_ne (tgt := 92) hx hb dX5_bars_86 (by decide) (fun hc14 => ?_) (fun hc14 => ?_)
          · replace hf := (if_neg hc14).symm.trans hf
            refine lv_iinc (v := (x4 + 1)) (lv' := [(4, .int (x4 + 1)), (5, .int (1 : Int32)), (0, .ref a_m), (2, .int x2), (3, .int x3)]) hx hb dX5_bars_92 hl (k := 4) rfl rfl (by decide) rfl (fun ls hl => ?_)
            refine lv_goto (tgt := 35) hx hb dX5_bars_95 (by decide) ?_
            exact ih _ _ _ _ _ _ _ _ _ hf _ _ _ hP hD hS (lv_sub hl [2, 3, 4, 0] rfl)
          · replace hf := (if_pos hc14).symm.trans hf
            refine lv_iload hx hb dX5_bars_89 (lv_at hl 4 rfl) ?_
            refine lv_istore_n (lv' := [(3, .int x4), (5, .int (1 : Int32)), (0, .ref a_m), (2, .int x2), (4, .int x4)]) hx hb dX5_bars_91 rfl hl (by decide) rfl (fun ls hl => ?_)
            refine lv_iinc (v := (x4 + 1)) (lv' := [(4, .int (x4 + 1)), (3, .int x4), (5, .int (1 : Int32)), (0, .ref a_m), (2, .int x2)]) hx hb dX5_bars_92 hl (k := 4) rfl rfl (by decide) rfl (fun ls hl => ?_)
            refine lv_goto (tgt := 35) hx hb dX5_bars_95 (by decide) ?_
            exact ih _ _ _ _ _ _ _ _ _ hf _ _ _ hP hD hS (lv_sub hl [3, 4, 1, 0] rfl)
set_option maxHeartbeats 4000000 in
set_option maxRecDepth 100000 in
theorem ctX5_bars (l : Launch) (D : va_G) (cI cS : ClassId) (a_m a_m_sorts a_m_sheetLong a_m_cells a_m_kind a_m_wet a_m_readKind a_m_readWet a_m_keptWet a_m_readCells a_m_readHours a_m_readCracked : Nat) (m_fault : Int32) (m_trace : Int32) (m_sorts : Nat → Int32) (m_sheetLong : Nat → Int32) (m_cells : Nat → Int32) (m_sun : Int32) (m_wide : Int32) (m_deep : Int32) (m_hour : Int32) (m_kind : Nat → Int32) (m_wet : Nat → Int32) (m_at : Int32) (m_readSun : Int32) (m_readWide : Int32) (m_readDeep : Int32) (m_readKind : Nat → Int32) (m_readWet : Nat → Int32) (m_keptWet : Nat → Int32) (m_keptSun : Int32) (m_openFirst : Int32) (m_planHours : Int32) (m_readings : Int32) (m_readCells : Nat → Int32) (m_readHours : Nat → Int32) (m_readCracked : Nat → Int32) (p1 : Int32) (n : Nat) (r : Int32) (hf : fX5_bars n m_sun m_wide m_deep m_kind m_wet p1 = some (r)) : Ct l D (tysA cI cS) yX5_bars cX5_bars 6 (some .int) (Rm 4) [.ref a_m, .int p1] (W_m cI cS a_m a_m_sorts a_m_sheetLong a_m_cells a_m_kind a_m_wet a_m_readKind a_m_readWet a_m_keptWet a_m_readCells a_m_readHours a_m_readCracked m_fault m_trace m_sorts m_sheetLong m_cells m_sun m_wide m_deep m_hour m_kind m_wet m_at m_readSun m_readWide m_readDeep m_readKind m_readWet m_keptWet m_keptSun m_openFirst m_planHours m_readings m_readCells m_readHours m_readCracked) (some (.int r)) (W_m cI cS a_m a_m_sorts a_m_sheetLong a_m_cells a_m_kind a_m_wet a_m_readKind a_m_readWet a_m_keptWet a_m_readCells a_m_readHours a_m_readCracked m_fault m_trace m_sorts m_sheetLong m_cells m_sun m_wide m_deep m_hour m_kind m_wet m_at m_readSun m_readWide m_readDeep m_readKind m_readWet m_keptWet m_keptSun m_openFirst m_planHours m_readings m_readCells m_readHours m_readCracked) := by
  refine Ct_of (by decide) (Nat.le_of_ble_eq_true rfl) ?_
  intro p e s m args below meth c A ls Cc hK hA hP hD hS hl
  have hl : lv_has ls 6 [(0, .ref a_m), (1, .int p1)] := hl
  obtain ⟨hx, hb, hr, hml, hown, hts, hlk, hnw⟩ := id Cc
  unfold fX5_bars at hf
  refine lv_iload_n hx hb dX5_bars_0 rfl (lv_at hl 1 rfl) ?_
  refine lv_iconst (v := (0 : Int32)) hx hb dX5_bars_1 (by decide) ?_
  refine lv_bipush (v := (20 : Int32)) hx hb dX5_bars_2 (by decide) ?_
  obtain ⟨q4_1, hq1, hf⟩ := Option.bind_eq_some_iff.mp hf
  refine cSt (ws' := (W_m cI cS a_m a_m_sorts a_m_sheetLong a_m_cells a_m_kind a_m_wet a_m_readKind a_m_readWet a_m_keptWet a_m_readCells a_m_readHours a_m_readCracked m_fault m_trace m_sorts m_sheetLong m_cells m_sun m_wide m_deep m_hour m_kind m_wet m_at m_readSun m_readWide m_readDeep m_readKind m_readWet m_keptWet m_keptSun m_openFirst m_planHours m_readings m_readCells m_readHours m_readCracked)) (rest := []) (st1 := [.int q4_1]) Cc hK hA hP hD hS hl.1 (ctX5_within l D cI cS   p1 (0 : Int32) (20 : Int32) n q4_1 hq1) ⟨tw_588, tw_586, tw_587, tw_6⟩ mdX5_within ⟨rfl, rfl, Nat.le_of_ble_eq_true rfl, Nat.le_of_ble_eq_true rfl⟩ rfl dX5_bars_4 rfl (Nat.le_of_ble_eq_true rfl) ⟨Nat.zero_le _, Nat.zero_le _⟩ rfl [] [0, 1, 2, 3, 4, 5, 6, 7, 8, 9, 10, 11] [0, 1, 2, 3, 4, 5, 6, 7, 8, 9, 10, 11] rfl rfl (by decide) rfl (fun H locs hP hD hS => ?_)
  refine lv_if_ne (tgt := 13) hx hb dX5_bars_7 (by decide) (fun hc2 => ?_) (fun hc2 => ?_)
  · replace hf := (if_neg hc2).symm.trans hf
    refine lv_aload_n hx hb dX5_bars_13 rfl (lv_at hl 0 rfl) ?_
    refine va_get (D := D) (ci := 5) (v := .int m_wide) (C := RX5) (T := TX5) (N := 25) hx hb hts inX5 hown hK hP 0 rfl rfl 6 (by decide) (hts _ tw_509) (fun _ h9 => h9) rfl dX5_bars_14 ?_
    refine lv_if_ne (tgt := 23) hx hb dX5_bars_17 (by decide) (fun hc3 => ?_) (fun hc3 => ?_)
    · replace hf := (if_neg hc3).symm.trans hf
      refine lv_aload_n hx hb dX5_bars_23 rfl (lv_at hl 0 rfl) ?_
      refine lv_iload_n hx hb dX5_bars_24 rfl (lv_at hl 1 rfl) ?_
      obtain ⟨q25_1, hq4, hf⟩ := Option.bind_eq_some_iff.mp hf
      refine cV (ws' := (W_m cI cS a_m a_m_sorts a_m_sheetLong a_m_cells a_m_kind a_m_wet a_m_readKind a_m_readWet a_m_keptWet a_m_readCells a_m_readHours a_m_readCracked m_fault m_trace m_sorts m_sheetLong m_cells m_sun m_wide m_deep m_hour m_kind m_wet m_at m_readSun m_readWide m_readDeep m_readKind m_readWet m_keptWet m_keptSun m_openFirst m_planHours m_readings m_readCells m_readHours m_readCracked)) (rest := []) (st1 := [.int q25_1]) Cc hK hA hP hD hS hl.1 (ctX5_crackedBehind l D cI cS a_m a_m_sorts a_m_sheetLong a_m_cells a_m_kind a_m_wet a_m_readKind a_m_readWet a_m_keptWet a_m_readCells a_m_readHours a_m_readCracked m_fault m_trace m_sorts m_sheetLong m_cells m_sun m_wide m_deep m_hour m_kind m_wet m_at m_readSun m_readWide m_readDeep m_readKind m_readWet m_keptWet m_keptSun m_openFirst m_planHours m_readings m_readCells m_readHours m_readCracked p1 n q25_1 hq4) ⟨tw_639, tw_636, tw_638, tp_21, tw_6⟩ mdX5_crackedBehind ⟨rfl, rfl, Nat.le_of_ble_eq_true rfl, Nat.le_of_ble_eq_true rfl⟩ rfl dX5_bars_25 rfl (Nat.le_of_ble_eq_true rfl) ⟨Nat.zero_le _, Nat.zero_le _⟩ rfl rfl rfl [0, 1, 2, 3, 4, 5, 6, 7, 8, 9, 10, 11] [] [0, 1, 2, 3, 4, 5, 6, 7, 8, 9, 10, 11] rfl rfl (by decide) rfl (fun H locs hP hD hS => ?_)
      refine lv_istore_n (lv' := [(2, .int q25_1), (0, .ref a_m), (1, .int p1)]) hx hb dX5_bars_28 rfl hl (by decide) rfl (fun ls hl => ?_)
      refine lv_bipush (v := (-9 : Int32)) hx hb dX5_bars_29 (by decide) ?_
      refine lv_istore_n (lv' := [(3, .int (-9 : Int32)), (2, .int q25_1), (0, .ref a_m), (1, .int p1)]) hx hb dX5_bars_31 rfl hl (by decide) rfl (fun ls hl => ?_)
      refine lv_iconst (v := (0 : Int32)) hx hb dX5_bars_32 (by decide) ?_
      refine lv_istore (lv' := [(4, .int (0 : Int32)), (3, .int (-9 : Int32)), (2, .int q25_1), (0, .ref a_m), (1, .int p1)]) hx hb dX5_bars_33 hl (by decide) rfl (fun ls hl => ?_)
      exact bX5_bars_35 a_m a_m_sorts a_m_sheetLong a_m_cells a_m_kind a_m_wet a_m_readKind a_m_readWet a_m_keptWet a_m_readCells a_m_readHours a_m_readCracked m_fault m_trace m_sorts m_sheetLong m_cells m_hour m_at m_readSun m_readWide m_readDeep m_readKind m_readWet m_keptWet m_keptSun m_openFirst m_planHours m_readings m_readCells m_readHours m_readCracked Cc hK hA n n _ _ _ _ _ _ _ _ _ hf _ _ _ hP hD hS (lv_sub hl [3, 2, 1, 0] rfl)
    · replace hf := (if_pos hc3).symm.trans hf
      refine lv_bipush (v := (-3 : Int32)) hx hb dX5_bars_20 (by decide) ?_
      obtain rfl := Option.some.inj hf
      exact rt_i Cc hK hP hD hS dX5_bars_22
  · replace hf := (if_pos hc2).symm.trans hf
    refine lv_bipush (v := (-2 : Int32)) hx hb dX5_bars_10 (by decide) ?_
    obtain rfl := Option.some.inj hf
    exact rt_i Cc hK hP hD hS dX5_bars_12
-- X5_dates
def fX5_dates_33 (n : Nat) : Nat → Int32 → Int32 → Int32 → (Nat → Int32) → (Nat → Int32) → Int32 → Int32 → Int32 → Option (Int32)
  | 0, _, _, _, _, _, _, _, _ => none
  | k + 1, m_sun, m_wide, m_deep, m_kind, m_wet, x1, x2, x3 => if (20 : Int32) < x3 then some (x2) else (fX5_crackedBehind n m_sun m_wide m_deep m_kind m_wet x3).bind fun q42_1 => if q42_1 = x1 then fX5_dates_33 n k m_sun m_wide m_deep m_kind m_wet x1 (x2 ||| ((1 : Int32) <<< (x3 &&& 31))) (x3 + 1) else fX5_dates_33 n k m_sun m_wide m_deep m_kind m_wet x1 (x2 ||| (0 : Int32)) (x3 + 1)
def fX5_dates (n : Nat) (m_sun : Int32) (m_wide : Int32) (m_deep : Int32) (m_kind : Nat → Int32) (m_wet : Nat → Int32) (p1 : Int32) : Option (Int32) := if m_wide = 0 then some ((-3 : Int32)) else (fX5_cellsOf n m_wide m_deep).bind fun q14_1 => (fX5_within n p1 (0 : Int32) (((1 : Int32) <<< (q14_1 &&& 31)) - (1 : Int32))).bind fun q20_2 => if q20_2 = 0 then some ((-2 : Int32)) else fX5_dates_33 n n m_sun m_wide m_deep m_kind m_wet p1 (0 : Int32) (0 : Int32)
theorem mdX5_dates : yX5_dates.cls = RX5 ∧ yX5_dates.cls ≠ "java/lang/invoke/MethodHandle" ∧ yX5_dates.cls ≠ "java/lang/invoke/VarHandle" ∧ (parseMethodDescriptor yX5_dates.desc).map (fun d => d.parameters.length) = some 1 := by decide +kernel
set_option maxHeartbeats 4000000 in
set_option maxRecDepth 100000 in
theorem bX5_dates_33 {p : Program} {l : Launch} {e : Env} {s : State} {m : MethodId} {args : Array Value} {below : List Frame} {meth : Method} {c : Code} {A : Nat → Prop} {D : va_G} {cI cS : ClassId} (a_m a_m_sorts a_m_sheetLong a_m_cells a_m_kind a_m_wet a_m_readKind a_m_readWet a_m_keptWet a_m_readCells a_m_readHours a_m_readCracked : Nat) (m_fault : Int32) (m_trace : Int32) (m_sorts : Nat → Int32) (m_sheetLong : Nat → Int32) (m_cells : Nat → Int32) (m_hour : Int32) (m_at : Int32) (m_readSun : Int32) (m_readWide : Int32) (m_readDeep : Int32) (m_readKind : Nat → Int32) (m_readWet : Nat → Int32) (m_keptWet : Nat → Int32) (m_keptSun : Int32) (m_openFirst : Int32) (m_planHours : Int32) (m_readings : Int32) (m_readCells : Nat → Int32) (m_readHours : Nat → Int32) (m_readCracked : Nat → Int32) (Cc : Cx p s m args meth c RX5 cX5_dates 4 (some .int)) (hK : va_K D classes (tysA cI cS) s) (hA : ∀ q, s.heap.size ≤ q → A q) (n : Nat) : ∀ (k : Nat) (m_sun : Int32) (m_wide : Int32) (m_deep : Int32) (m_kind : Nat → Int32) (m_wet : Nat → Int32) (x1 : Int32) (x2 : Int32) (x3 : Int32) (r : Int32), fX5_dates_33 n k m_sun m_wide m_deep m_kind m_wet x1 x2 x3 = some (r) → ∀ (H : Heap) (locs : List Loc) (ls : Array Slot), va_P D classes (W_m cI cS a_m a_m_sorts a_m_sheetLong a_m_cells a_m_kind a_m_wet a_m_readKind a_m_readWet a_m_keptWet a_m_readCells a_m_readHours a_m_readCracked m_fault m_trace m_sorts m_sheetLong m_cells m_sun m_wide m_deep m_hour m_kind m_wet m_at m_readSun m_readWide m_readDeep m_readKind m_readWet m_keptWet m_keptSun m_openFirst m_planHours m_readings m_readCells m_readHours m_readCracked) H → va_D A (W_m cI cS a_m a_m_sorts a_m_sheetLong a_m_cells a_m_kind a_m_wet a_m_readKind a_m_readWet a_m_keptWet a_m_readCells a_m_readHours a_m_readCracked m_fault m_trace m_sorts m_sheetLong m_cells m_sun m_wide m_deep m_hour m_kind m_wet m_at m_readSun m_readWide m_readDeep m_readKind m_readWet m_keptWet m_keptSun m_openFirst m_planHours m_readings m_readCells m_readHours m_readCracked) → va_S A s.heap H locs → lv_has ls 4 [(0, .ref a_m), (1, .int x1), (2, .int x2), (3, .int x3)] → W p l e (Rm 3) s m args below meth c H locs 0 0 (MQ below (QW D (tysA cI cS) (some (.int r)) (W_m cI cS a_m a_m_sorts a_m_sheetLong a_m_cells a_m_kind a_m_wet a_m_readKind a_m_readWet a_m_keptWet a_m_readCells a_m_readHours a_m_readCracked m_fault m_trace m_sorts m_sheetLong m_cells m_sun m_wide m_deep m_hour m_kind m_wet m_at m_readSun m_readWide m_readDeep m_readKind m_readWet m_keptWet m_keptSun m_openFirst m_planHours m_readings m_readCells m_readHours m_readCracked) A) args s 0 0 A) (F0 m 33 ls []) := by
  obtain ⟨hx, hb, hr, hml, hown, hts, hlk, hnw⟩ := id Cc
  intro k
  induction k with
  | zero =>
    intro m_sun m_wide m_deep m_kind m_wet x1 x2 x3 r hf
    rw [fX5_dates_33] at hf
    cases hf
  | succ k ih =>
    intro m_sun m_wide m_deep m_kind m_wet x1 x2 x3 r hf H locs ls hP hD hS hl
    rw [fX5_dates_33] at hf
    refine lv_iload_n hx hb dX5_dates_33 rfl (lv_at hl 3 rfl) ?_
    refine lv_bipush (v := (20 : Int32)) hx hb dX5_dates_34 (by decide) ?_
    refine lv_icmp_gt (tgt := 64) hx hb dX5_dates_36 (by decide) (fun hc5 => ?_) (fun hc5 => ?_)
    · replace hf := (if_pos hc5).symm.trans hf
      refine lv_iload_n hx hb dX5_dates_64 rfl (lv_at hl 2 rfl) ?_
      obtain rfl := Option.some.inj hf
      exact rt_i Cc hK hP hD hS dX5_dates_65
    · replace hf := (if_neg hc5).symm.trans hf
      refine lv_iload_n hx hb dX5_dates_39 rfl (lv_at hl 2 rfl) ?_
      refine lv_aload_n hx hb dX5_dates_40 rfl (lv_at hl 0 rfl) ?_
      refine lv_iload_n hx hb dX5_dates_41 rfl (lv_at hl 3 rfl) ?_
      obtain ⟨q42_1, hq6, hf⟩ := Option.bind_eq_some_iff.mp hf
      refine cV (ws' := (W_m cI cS a_m a_m_sorts a_m_sheetLong a_m_cells a_m_kind a_m_wet a_m_readKind a_m_readWet a_m_keptWet a_m_readCells a_m_readHours a_m_readCracked m_fault m_trace m_sorts m_sheetLong m_cells m_sun m_wide m_deep m_hour m_kind m_wet m_at m_readSun m_readWide m_readDeep m_readKind m_readWet m_keptWet m_keptSun m_openFirst m_planHours m_readings m_readCells m_readHours m_readCracked)) (rest := [.int x2]) (st1 := [.int q42_1, .int x2]) Cc hK hA hP hD hS hl.1 (ctX5_crackedBehind l D cI cS a_m a_m_sorts a_m_sheetLong a_m_cells a_m_kind a_m_wet a_m_readKind a_m_readWet a_m_keptWet a_m_readCells a_m_readHours a_m_readCracked m_fault m_trace m_sorts m_sheetLong m_cells m_sun m_wide m_deep m_hour m_kind m_wet m_at m_readSun m_readWide m_readDeep m_readKind m_readWet m_keptWet m_keptSun m_openFirst m_planHours m_readings m_readCells m_readHours m_readCracked x3 n q42_1 hq6) ⟨tw_639, tw_636, tw_638, tp_21, tw_6⟩ mdX5_crackedBehind ⟨rfl, rfl, Nat.le_of_ble_eq_true rfl, Nat.le_of_ble_eq_true rfl⟩ rfl dX5_dates_42 rfl (Nat.le_of_ble_eq_true rfl) ⟨Nat.zero_le _, Nat.zero_le _⟩ rfl rfl rfl [0, 1, 2, 3, 4, 5, 6, 7, 8, 9, 10, 11] [] [0, 1, 2, 3, 4, 5, 6, 7, 8, 9, 10, 11] rfl rfl (by decide) rfl (fun H locs hP hD hS => ?_)
      refine lv_iload_n hx hb dX5_dates_45 rfl (lv_at hl 1 rfl) ?_
      refine lv_icmp_ne (tgt := 55) hx hb dX5_dates_46 (by decide) (fun hc7 => ?_) (fun hc7 => ?_)
      · replace hf := (if_neg hc7).symm.trans hf
        refine lv_iconst (v := (0 : Int32)) hx hb dX5_dates_55 (by decide) ?_
        refine lv_ior hx hb dX5_dates_56 ?_
        refine lv_istore_n (lv' := [(2, .int (x2 ||| (0 : Int32))), (0, .ref a_m), (1, .int x1), (3, .int x3)]) hx hb dX5_dates_57 rfl hl (by decide) rfl (fun ls hl => ?_)
        refine lv_iinc (v := (x3 + 1)) (lv' := [(3, .int (x3 + 1)), (2, .int (x2 ||| (0 : Int32))), (0, .ref a_m), (1, .int x1)]) hx hb dX5_dates_58 hl (k := 3) rfl rfl (by decide) rfl (fun ls hl => ?_)
        refine lv_goto (tgt := 33) hx hb dX5_dates_61 (by decide) ?_
        exact ih _ _ _ _ _ _ _ _ _ hf _ _ _ hP hD hS (lv_sub hl [2, 3, 1, 0] rfl)
      · replace hf := (if_pos hc7).symm.trans hf
        refine lv_iconst (v := (1 : Int32)) hx hb dX5_dates_49 (by decide) ?_
        refine lv_iload_n hx hb dX5_dates_50 rfl (lv_at hl 3 rfl) ?_
        refine lv_ishl hx hb dX5_dates_51 ?_
        refine lv_goto (tgt := 56) hx hb dX5_dates_52 (by decide) ?_
        refine lv_ior hx hb dX5_dates_56 ?_
        refine lv_istore_n (lv' := [(2, .int (x2 ||| ((1 : Int32) <<< (x3 &&& 31)))), (0, .ref a_m), (1, .int x1), (3, .int x3)]) hx hb dX5_dates_57 rfl hl (by decide) rfl (fun ls hl => ?_)
        refine lv_iinc (v := (x3 + 1)) (lv' := [(3, .int (x3 + 1)), (2, .int (x2 ||| ((1 : Int32) <<< (x3 &&& 31)))), (0, .ref a_m), (1, .int x1)]) hx hb dX5_dates_58 hl (k := 3) rfl rfl (by decide) rfl (fun ls hl => ?_)
        refine lv_goto (tgt := 33) hx hb dX5_dates_61 (by decide) ?_
        exact ih _ _ _ _ _ _ _ _ _ hf _ _ _ hP hD hS (lv_sub hl [2, 3, 1, 0] rfl)
set_option maxHeartbeats 4000000 in
set_option maxRecDepth 100000 in
theorem ctX5_dates (l : Launch) (D : va_G) (cI cS : ClassId) (a_m a_m_sorts a_m_sheetLong a_m_cells a_m_kind a_m_wet a_m_readKind a_m_readWet a_m_keptWet a_m_readCells a_m_readHours a_m_readCracked : Nat) (m_fault : Int32) (m_trace : Int32) (m_sorts : Nat → Int32) (m_sheetLong : Nat → Int32) (m_cells : Nat → Int32) (m_sun : Int32) (m_wide : Int32) (m_deep : Int32) (m_hour : Int32) (m_kind : Nat → Int32) (m_wet : Nat → Int32) (m_at : Int32) (m_readSun : Int32) (m_readWide : Int32) (m_readDeep : Int32) (m_readKind : Nat → Int32) (m_readWet : Nat → Int32) (m_keptWet : Nat → Int32) (m_keptSun : Int32) (m_openFirst : Int32) (m_planHours : Int32) (m_readings : Int32) (m_readCells : Nat → Int32) (m_readHours : Nat → Int32) (m_readCracked : Nat → Int32) (p1 : Int32) (n : Nat) (r : Int32) (hf : fX5_dates n m_sun m_wide m_deep m_kind m_wet p1 = some (r)) : Ct l D (tysA cI cS) yX5_dates cX5_dates 4 (some .int) (Rm 3) [.ref a_m, .int p1] (W_m cI cS a_m a_m_sorts a_m_sheetLong a_m_cells a_m_kind a_m_wet a_m_readKind a_m_readWet a_m_keptWet a_m_readCells a_m_readHours a_m_readCracked m_fault m_trace m_sorts m_sheetLong m_cells m_sun m_wide m_deep m_hour m_kind m_wet m_at m_readSun m_readWide m_readDeep m_readKind m_readWet m_keptWet m_keptSun m_openFirst m_planHours m_readings m_readCells m_readHours m_readCracked) (some (.int r)) (W_m cI cS a_m a_m_sorts a_m_sheetLong a_m_cells a_m_kind a_m_wet a_m_readKind a_m_readWet a_m_keptWet a_m_readCells a_m_readHours a_m_readCracked m_fault m_trace m_sorts m_sheetLong m_cells m_sun m_wide m_deep m_hour m_kind m_wet m_at m_readSun m_readWide m_readDeep m_readKind m_readWet m_keptWet m_keptSun m_openFirst m_planHours m_readings m_readCells m_readHours m_readCracked) := by
  refine Ct_of (by decide) (Nat.le_of_ble_eq_true rfl) ?_
  intro p e s m args below meth c A ls Cc hK hA hP hD hS hl
  have hl : lv_has ls 4 [(0, .ref a_m), (1, .int p1)] := hl
  obtain ⟨hx, hb, hr, hml, hown, hts, hlk, hnw⟩ := id Cc
  unfold fX5_dates at hf
  refine lv_aload_n hx hb dX5_dates_0 rfl (lv_at hl 0 rfl) ?_
  refine va_get (D := D) (ci := 5) (v := .int m_wide) (C := RX5) (T := TX5) (N := 25) hx hb hts inX5 hown hK hP 0 rfl rfl 6 (by decide) (hts _ tw_509) (fun _ h9 => h9) rfl dX5_dates_1 ?_
  refine lv_if_ne (tgt := 10) hx hb dX5_dates_4 (by decide) (fun hc1 => ?_) (fun hc1 => ?_)
  · replace hf := (if_neg hc1).symm.trans hf
    refine lv_iload_n hx hb dX5_dates_10 rfl (lv_at hl 1 rfl) ?_
    refine lv_iconst (v := (0 : Int32)) hx hb dX5_dates_11 (by decide) ?_
    refine lv_iconst (v := (1 : Int32)) hx hb dX5_dates_12 (by decide) ?_
    refine lv_aload_n hx hb dX5_dates_13 rfl (lv_at hl 0 rfl) ?_
    obtain ⟨q14_1, hq2, hf⟩ := Option.bind_eq_some_iff.mp hf
    refine cV (ws' := (W_m cI cS a_m a_m_sorts a_m_sheetLong a_m_cells a_m_kind a_m_wet a_m_readKind a_m_readWet a_m_keptWet a_m_readCells a_m_readHours a_m_readCracked m_fault m_trace m_sorts m_sheetLong m_cells m_sun m_wide m_deep m_hour m_kind m_wet m_at m_readSun m_readWide m_readDeep m_readKind m_readWet m_keptWet m_keptSun m_openFirst m_planHours m_readings m_readCells m_readHours m_readCracked)) (rest := [.int (1 : Int32), .int (0 : Int32), .int p1]) (st1 := [.int q14_1, .int (1 : Int32), .int (0 : Int32), .int p1]) Cc hK hA hP hD hS hl.1 (ctX5_cellsOf l D cI cS a_m a_m_sorts a_m_sheetLong a_m_cells a_m_kind a_m_wet a_m_readKind a_m_readWet a_m_keptWet a_m_readCells a_m_readHours a_m_readCracked m_fault m_trace m_sorts m_sheetLong m_cells m_sun m_wide m_deep m_hour m_kind m_wet m_at m_readSun m_readWide m_readDeep m_readKind m_readWet m_keptWet m_keptSun m_openFirst m_planHours m_readings m_readCells m_readHours m_readCracked  n q14_1 hq2) ⟨tw_619, tw_616, tw_618, tp_17, tw_6⟩ mdX5_cellsOf ⟨rfl, rfl, Nat.le_of_ble_eq_true rfl, Nat.le_of_ble_eq_true rfl⟩ rfl dX5_dates_14 rfl (Nat.le_of_ble_eq_true rfl) ⟨Nat.zero_le _, Nat.zero_le _⟩ rfl rfl rfl [0, 1, 2, 3, 4, 5, 6, 7, 8, 9, 10, 11] [] [0, 1, 2, 3, 4, 5, 6, 7, 8, 9, 10, 11] rfl rfl (by decide) rfl (fun H locs hP hD hS => ?_)
    refine lv_ishl hx hb dX5_dates_17 ?_
    refine lv_iconst (v := (1 : Int32)) hx hb dX5_dates_18 (by decide) ?_
    refine lv_isub hx hb dX5_dates_19 ?_
    obtain ⟨q20_2, hq3, hf⟩ := Option.bind_eq_some_iff.mp hf
    refine cSt (ws' := (W_m cI cS a_m a_m_sorts a_m_sheetLong a_m_cells a_m_kind a_m_wet a_m_readKind a_m_readWet a_m_keptWet a_m_readCells a_m_readHours a_m_readCracked m_fault m_trace m_sorts m_sheetLong m_cells m_sun m_wide m_deep m_hour m_kind m_wet m_at m_readSun m_readWide m_readDeep m_readKind m_readWet m_keptWet m_keptSun m_openFirst m_planHours m_readings m_readCells m_readHours m_readCracked)) (rest := []) (st1 := [.int q20_2]) Cc hK hA hP hD hS hl.1 (ctX5_within l D cI cS   p1 (0 : Int32) (((1 : Int32) <<< (q14_1 &&& 31)) - (1 : Int32)) n q20_2 hq3) ⟨tw_588, tw_586, tw_587, tw_6⟩ mdX5_within ⟨rfl, rfl, Nat.le_of_ble_eq_true rfl, Nat.le_of_ble_eq_true rfl⟩ rfl dX5_dates_20 rfl (Nat.le_of_ble_eq_true rfl) ⟨Nat.zero_le _, Nat.zero_le _⟩ rfl [] [0, 1, 2, 3, 4, 5, 6, 7, 8, 9, 10, 11] [0, 1, 2, 3, 4, 5, 6, 7, 8, 9, 10, 11] rfl rfl (by decide) rfl (fun H locs hP hD hS => ?_)
    refine lv_if_ne (tgt := 29) hx hb dX5_dates_23 (by decide) (fun hc4 => ?_) (fun hc4 => ?_)
    · replace hf := (if_neg hc4).symm.trans hf
      refine lv_iconst (v := (0 : Int32)) hx hb dX5_dates_29 (by decide) ?_
      refine lv_istore_n (lv' := [(2, .int (0 : Int32)), (0, .ref a_m), (1, .int p1)]) hx hb dX5_dates_30 rfl hl (by decide) rfl (fun ls hl => ?_)
      refine lv_iconst (v := (0 : Int32)) hx hb dX5_dates_31 (by decide) ?_
      refine lv_istore_n (lv' := [(3, .int (0 : Int32)), (2, .int (0 : Int32)), (0, .ref a_m), (1, .int p1)]) hx hb dX5_dates_32 rfl hl (by decide) rfl (fun ls hl => ?_)
      exact bX5_dates_33 a_m a_m_sorts a_m_sheetLong a_m_cells a_m_kind a_m_wet a_m_readKind a_m_readWet a_m_keptWet a_m_readCells a_m_readHours a_m_readCracked m_fault m_trace m_sorts m_sheetLong m_cells m_hour m_at m_readSun m_readWide m_readDeep m_readKind m_readWet m_keptWet m_keptSun m_openFirst m_planHours m_readings m_readCells m_readHours m_readCracked Cc hK hA n n _ _ _ _ _ _ _ _ _ hf _ _ _ hP hD hS (lv_sub hl [2, 3, 1, 0] rfl)
    · replace hf := (if_pos hc4).symm.trans hf
      refine lv_bipush (v := (-2 : Int32)) hx hb dX5_dates_26 (by decide) ?_
      obtain rfl := Option.some.inj hf
      exact rt_i Cc hK hP hD hS dX5_dates_28
  · replace hf := (if_pos hc1).symm.trans hf
    refine lv_bipush (v := (-3 : Int32)) hx hb dX5_dates_7 (by decide) ?_
    obtain rfl := Option.some.inj hf
    exact rt_i Cc hK hP hD hS dX5_dates_9
-- X5_reading
def fX5_reading (n : Nat) (m_wide : Int32) (m_deep : Int32) (m_readings : Int32) (m_readCells : Nat → Int32) (m_readHours : Nat → Int32) (m_readCracked : Nat → Int32) (p1 : Int32) (p2 : Int32) (p3 : Int32) : Option (Int32 × Int32 × (Nat → Int32) × (Nat → Int32) × (Nat → Int32)) := (fX5_isCell n m_wide m_deep p1).bind fun q2_1 => if q2_1 = 0 then some ((-1 : Int32), m_readings, m_readCells, m_readHours, m_readCracked) else (fX5_within n p2 (0 : Int32) (20 : Int32)).bind fun q14_1 => if q14_1 = 0 then some ((-2 : Int32), m_readings, m_readCells, m_readHours, m_readCracked) else (fX5_within n p3 (0 : Int32) (1 : Int32)).bind fun q23_1 => if q23_1 = 0 then some ((-2 : Int32), m_readings, m_readCells, m_readHours, m_readCracked) else if m_readings = (8 : Int32) then some ((-4 : Int32), m_readings, m_readCells, m_readHours, m_readCracked) else gd m_readings 8 (gd m_readings 8 (gd m_readings 8 (some (((m_readings + (1 : Int32)) - (1 : Int32)), (m_readings + (1 : Int32)), (upd m_readCells m_readings.toNatClampNeg p1), (upd m_readHours m_readings.toNatClampNeg p2), (upd m_readCracked m_readings.toNatClampNeg p3)))))
theorem mdX5_reading : yX5_reading.cls = RX5 ∧ yX5_reading.cls ≠ "java/lang/invoke/MethodHandle" ∧ yX5_reading.cls ≠ "java/lang/invoke/VarHandle" ∧ (parseMethodDescriptor yX5_reading.desc).map (fun d => d.parameters.length) = some 3 := by decide +kernel
set_option maxHeartbeats 4000000 in
set_option maxRecDepth 100000 in
theorem ctX5_reading (l : Launch) (D : va_G) (cI cS : ClassId) (a_m a_m_sorts a_m_sheetLong a_m_cells a_m_kind a_m_wet a_m_readKind a_m_readWet a_m_keptWet a_m_readCells a_m_readHours a_m_readCracked : Nat) (m_fault : Int32) (m_trace : Int32) (m_sorts : Nat → Int32) (m_sheetLong : Nat → Int32) (m_cells : Nat → Int32) (m_sun : Int32) (m_wide : Int32) (m_deep : Int32) (m_hour : Int32) (m_kind : Nat → Int32) (m_wet : Nat → Int32) (m_at : Int32) (m_readSun : Int32) (m_readWide : Int32) (m_readDeep : Int32) (m_readKind : Nat → Int32) (m_readWet : Nat → Int32) (m_keptWet : Nat → Int32) (m_keptSun : Int32) (m_openFirst : Int32) (m_planHours : Int32) (m_readings : Int32) (m_readCells : Nat → Int32) (m_readHours : Nat → Int32) (m_readCracked : Nat → Int32) (p1 : Int32) (p2 : Int32) (p3 : Int32) (n : Nat) (r : Int32) (m_readings' : Int32) (m_readCells' : Nat → Int32) (m_readHours' : Nat → Int32) (m_readCracked' : Nat → Int32) (hf : fX5_reading n m_wide m_deep m_readings m_readCells m_readHours m_readCracked p1 p2 p3 = some (r, m_readings', m_readCells', m_readHours', m_readCracked')) : Ct l D (tysA cI cS) yX5_reading cX5_reading 4 (some .int) (Rm 2) [.ref a_m, .int p1, .int p2, .int p3] (W_m cI cS a_m a_m_sorts a_m_sheetLong a_m_cells a_m_kind a_m_wet a_m_readKind a_m_readWet a_m_keptWet a_m_readCells a_m_readHours a_m_readCracked m_fault m_trace m_sorts m_sheetLong m_cells m_sun m_wide m_deep m_hour m_kind m_wet m_at m_readSun m_readWide m_readDeep m_readKind m_readWet m_keptWet m_keptSun m_openFirst m_planHours m_readings m_readCells m_readHours m_readCracked) (some (.int r)) (W_m cI cS a_m a_m_sorts a_m_sheetLong a_m_cells a_m_kind a_m_wet a_m_readKind a_m_readWet a_m_keptWet a_m_readCells a_m_readHours a_m_readCracked m_fault m_trace m_sorts m_sheetLong m_cells m_sun m_wide m_deep m_hour m_kind m_wet m_at m_readSun m_readWide m_readDeep m_readKind m_readWet m_keptWet m_keptSun m_openFirst m_planHours m_readings' m_readCells' m_readHours' m_readCracked') := by
  refine Ct_of (by decide) (Nat.le_of_ble_eq_true rfl) ?_
  intro p e s m args below meth c A ls Cc hK hA hP hD hS hl
  have hl : lv_has ls 4 [(0, .ref a_m), (1, .int p1), (2, .int p2), (3, .int p3)] := hl
  obtain ⟨hx, hb, hr, hml, hown, hts, hlk, hnw⟩ := id Cc
  unfold fX5_reading at hf
  refine lv_aload_n hx hb dX5_reading_0 rfl (lv_at hl 0 rfl) ?_
  refine lv_iload_n hx hb dX5_reading_1 rfl (lv_at hl 1 rfl) ?_
  obtain ⟨q2_1, hq1, hf⟩ := Option.bind_eq_some_iff.mp hf
  refine cV (ws' := (W_m cI cS a_m a_m_sorts a_m_sheetLong a_m_cells a_m_kind a_m_wet a_m_readKind a_m_readWet a_m_keptWet a_m_readCells a_m_readHours a_m_readCracked m_fault m_trace m_sorts m_sheetLong m_cells m_sun m_wide m_deep m_hour m_kind m_wet m_at m_readSun m_readWide m_readDeep m_readKind m_readWet m_keptWet m_keptSun m_openFirst m_planHours m_readings m_readCells m_readHours m_readCracked)) (rest := []) (st1 := [.int q2_1]) Cc hK hA hP hD hS hl.1 (ctX5_isCell l D cI cS a_m a_m_sorts a_m_sheetLong a_m_cells a_m_kind a_m_wet a_m_readKind a_m_readWet a_m_keptWet a_m_readCells a_m_readHours a_m_readCracked m_fault m_trace m_sorts m_sheetLong m_cells m_sun m_wide m_deep m_hour m_kind m_wet m_at m_readSun m_readWide m_readDeep m_readKind m_readWet m_keptWet m_keptSun m_openFirst m_planHours m_readings m_readCells m_readHours m_readCracked p1 n q2_1 hq1) ⟨tw_627, tw_624, tw_626, tp_18, tw_6⟩ mdX5_isCell ⟨rfl, rfl, Nat.le_of_ble_eq_true rfl, Nat.le_of_ble_eq_true rfl⟩ rfl dX5_reading_2 rfl (Nat.le_of_ble_eq_true rfl) ⟨Nat.zero_le _, Nat.zero_le _⟩ rfl rfl rfl [0, 1, 2, 3, 4, 5, 6, 7, 8, 9, 10, 11] [] [0, 1, 2, 3, 4, 5, 6, 7, 8, 9, 10, 11] rfl rfl (by decide) rfl (fun H locs hP hD hS => ?_)
  refine lv_if_ne (tgt := 10) hx hb dX5_reading_5 (by decide) (fun hc2 => ?_) (fun hc2 => ?_)
  · replace hf := (if_neg hc2).symm.trans hf
    refine lv_iload_n hx hb dX5_reading_10 rfl (lv_at hl 2 rfl) ?_
    refine lv_iconst (v := (0 : Int32)) hx hb dX5_reading_11 (by decide) ?_
    refine lv_bipush (v := (20 : Int32)) hx hb dX5_reading_12 (by decide) ?_
    obtain ⟨q14_1, hq3, hf⟩ := Option.bind_eq_some_iff.mp hf
    refine cSt (ws' := (W_m cI cS a_m a_m_sorts a_m_sheetLong a_m_cells a_m_kind a_m_wet a_m_readKind a_m_readWet a_m_keptWet a_m_readCells a_m_readHours a_m_readCracked m_fault m_trace m_sorts m_sheetLong m_cells m_sun m_wide m_deep m_hour m_kind m_wet m_at m_readSun m_readWide m_readDeep m_readKind m_readWet m_keptWet m_keptSun m_openFirst m_planHours m_readings m_readCells m_readHours m_readCracked)) (rest := []) (st1 := [.int q14_1]) Cc hK hA hP hD hS hl.1 (ctX5_within l D cI cS   p2 (0 : Int32) (20 : Int32) n q14_1 hq3) ⟨tw_588, tw_586, tw_587, tw_6⟩ mdX5_within ⟨rfl, rfl, Nat.le_of_ble_eq_true rfl, Nat.le_of_ble_eq_true rfl⟩ rfl dX5_reading_14 rfl (Nat.le_of_ble_eq_true rfl) ⟨Nat.zero_le _, Nat.zero_le _⟩ rfl [] [0, 1, 2, 3, 4, 5, 6, 7, 8, 9, 10, 11] [0, 1, 2, 3, 4, 5, 6, 7, 8, 9, 10, 11] rfl rfl (by decide) rfl (fun H locs hP hD hS => ?_)
    refine lv_if_eq (tgt := 29) hx hb dX5_reading_17 (by decide) (fun hc4 => ?_) (fun hc4 => ?_)
    · replace hf := (if_pos hc4).symm.trans hf
      refine lv_bipush (v := (-2 : Int32)) hx hb dX5_reading_29 (by decide) ?_
      replace hf := Option.some.inj hf
      obtain ⟨er0, er1⟩ := Prod.mk.inj hf
      obtain ⟨er2, er3⟩ := Prod.mk.inj er1
      obtain ⟨er4, er5⟩ := Prod.mk.inj er3
      obtain ⟨er6, er7⟩ := Prod.mk.inj er5
      clear hf er1 er3 er5
      subst er0
      subst er2
      subst er4
      subst er6
      subst er7
      exact rt_i Cc hK hP hD hS dX5_reading_31
    · replace hf := (if_neg hc4).symm.trans hf
      refine lv_iload_n hx hb dX5_reading_20 rfl (lv_at hl 3 rfl) ?_
      refine lv_iconst (v := (0 : Int32)) hx hb dX5_reading_21 (by decide) ?_
      refine lv_iconst (v := (1 : Int32)) hx hb dX5_reading_22 (by decide) ?_
      obtain ⟨q23_1, hq5, hf⟩ := Option.bind_eq_some_iff.mp hf
      refine cSt (ws' := (W_m cI cS a_m a_m_sorts a_m_sheetLong a_m_cells a_m_kind a_m_wet a_m_readKind a_m_readWet a_m_keptWet a_m_readCells a_m_readHours a_m_readCracked m_fault m_trace m_sorts m_sheetLong m_cells m_sun m_wide m_deep m_hour m_kind m_wet m_at m_readSun m_readWide m_readDeep m_readKind m_readWet m_keptWet m_keptSun m_openFirst m_planHours m_readings m_readCells m_readHours m_readCracked)) (rest := []) (st1 := [.int q23_1]) Cc hK hA hP hD hS hl.1 (ctX5_within l D cI cS   p3 (0 : Int32) (1 : Int32) n q23_1 hq5) ⟨tw_588, tw_586, tw_587, tw_6⟩ mdX5_within ⟨rfl, rfl, Nat.le_of_ble_eq_true rfl, Nat.le_of_ble_eq_true rfl⟩ rfl dX5_reading_23 rfl (Nat.le_of_ble_eq_true rfl) ⟨Nat.zero_le _, Nat.zero_le _⟩ rfl [] [0, 1, 2, 3, 4, 5, 6, 7, 8, 9, 10, 11] [0, 1, 2, 3, 4, 5, 6, 7, 8, 9, 10, 11] rfl rfl (by decide) rfl (fun H locs hP hD hS => ?_)
      refine lv_if_ne (tgt := 32) hx hb dX5_reading_26 (by decide) (fun hc6 => ?_) (fun hc6 => ?_)
      · replace hf := (if_neg hc6).symm.trans hf
        refine lv_aload_n hx hb dX5_reading_32 rfl (lv_at hl 0 rfl) ?_
        refine va_get (D := D) (ci := 5) (v := .int m_readings) (C := RX5) (T := TX5) (N := 25) hx hb hts inX5 hown hK hP 0 rfl rfl 21 (by decide) (hts _ tw_524) (fun _ h9 => h9) rfl dX5_reading_33 ?_
        refine lv_bipush (v := (8 : Int32)) hx hb dX5_reading_36 (by decide) ?_
        refine lv_icmp_ne (tgt := 44) hx hb dX5_reading_38 (by decide) (fun hc7 => ?_) (fun hc7 => ?_)
        · replace hf := (if_neg hc7).symm.trans hf
          refine lv_aload_n hx hb dX5_reading_44 rfl (lv_at hl 0 rfl) ?_
          refine va_get (D := D) (ci := 5) (v := .ref a_m_readCells) (C := RX5) (T := TX5) (N := 25) hx hb hts inX5 hown hK hP 0 rfl rfl 22 (by decide) (hts _ tw_525) (fun _ h9 => h9) rfl dX5_reading_45 ?_
          refine lv_aload_n hx hb dX5_reading_48 rfl (lv_at hl 0 rfl) ?_
          refine va_get (D := D) (ci := 5) (v := .int m_readings) (C := RX5) (T := TX5) (N := 25) hx hb hts inX5 hown hK hP 0 rfl rfl 21 (by decide) (hts _ tw_524) (fun _ h9 => h9) rfl dX5_reading_49 ?_
          refine lv_iload_n hx hb dX5_reading_52 rfl (lv_at hl 1 rfl) ?_
          obtain ⟨hin, hf⟩ := gd_some hf
          refine va_iast hx hb hK hP hD hS 9 0 rfl rfl hin dX5_reading_53 (fun H locs hP hD hS => ?_)
          have hP : va_P D classes (W_m cI cS a_m a_m_sorts a_m_sheetLong a_m_cells a_m_kind a_m_wet a_m_readKind a_m_readWet a_m_keptWet a_m_readCells a_m_readHours a_m_readCracked m_fault m_trace m_sorts m_sheetLong m_cells m_sun m_wide m_deep m_hour m_kind m_wet m_at m_readSun m_readWide m_readDeep m_readKind m_readWet m_keptWet m_keptSun m_openFirst m_planHours m_readings (upd m_readCells m_readings.toNatClampNeg p1) m_readHours m_readCracked) H := hP
          have hD : va_D A (W_m cI cS a_m a_m_sorts a_m_sheetLong a_m_cells a_m_kind a_m_wet a_m_readKind a_m_readWet a_m_keptWet a_m_readCells a_m_readHours a_m_readCracked m_fault m_trace m_sorts m_sheetLong m_cells m_sun m_wide m_deep m_hour m_kind m_wet m_at m_readSun m_readWide m_readDeep m_readKind m_readWet m_keptWet m_keptSun m_openFirst m_planHours m_readings (upd m_readCells m_readings.toNatClampNeg p1) m_readHours m_readCracked) := hD
          refine lv_aload_n hx hb dX5_reading_54 rfl (lv_at hl 0 rfl) ?_
          refine va_get (D := D) (ci := 5) (v := .ref a_m_readHours) (C := RX5) (T := TX5) (N := 25) hx hb hts inX5 hown hK hP 0 rfl rfl 23 (by decide) (hts _ tw_526) (fun _ h9 => h9) rfl dX5_reading_55 ?_
          refine lv_aload_n hx hb dX5_reading_58 rfl (lv_at hl 0 rfl) ?_
          refine va_get (D := D) (ci := 5) (v := .int m_readings) (C := RX5) (T := TX5) (N := 25) hx hb hts inX5 hown hK hP 0 rfl rfl 21 (by decide) (hts _ tw_524) (fun _ h9 => h9) rfl dX5_reading_59 ?_
          refine lv_iload_n hx hb dX5_reading_62 rfl (lv_at hl 2 rfl) ?_
          obtain ⟨hin, hf⟩ := gd_some hf
          refine va_iast hx hb hK hP hD hS 10 0 rfl rfl hin dX5_reading_63 (fun H locs hP hD hS => ?_)
          have hP : va_P D classes (W_m cI cS a_m a_m_sorts a_m_sheetLong a_m_cells a_m_kind a_m_wet a_m_readKind a_m_readWet a_m_keptWet a_m_readCells a_m_readHours a_m_readCracked m_fault m_trace m_sorts m_sheetLong m_cells m_sun m_wide m_deep m_hour m_kind m_wet m_at m_readSun m_readWide m_readDeep m_readKind m_readWet m_keptWet m_keptSun m_openFirst m_planHours m_readings (upd m_readCells m_readings.toNatClampNeg p1) (upd m_readHours m_readings.toNatClampNeg p2) m_readCracked) H := hP
          have hD : va_D A (W_m cI cS a_m a_m_sorts a_m_sheetLong a_m_cells a_m_kind a_m_wet a_m_readKind a_m_readWet a_m_keptWet a_m_readCells a_m_readHours a_m_readCracked m_fault m_trace m_sorts m_sheetLong m_cells m_sun m_wide m_deep m_hour m_kind m_wet m_at m_readSun m_readWide m_readDeep m_readKind m_readWet m_keptWet m_keptSun m_openFirst m_planHours m_readings (upd m_readCells m_readings.toNatClampNeg p1) (upd m_readHours m_readings.toNatClampNeg p2) m_readCracked) := hD
          refine lv_aload_n hx hb dX5_reading_64 rfl (lv_at hl 0 rfl) ?_
          refine va_get (D := D) (ci := 5) (v := .ref a_m_readCracked) (C := RX5) (T := TX5) (N := 25) hx hb hts inX5 hown hK hP 0 rfl rfl 24 (by decide) (hts _ tw_527) (fun _ h9 => h9) rfl dX5_reading_65 ?_
          refine lv_aload_n hx hb dX5_reading_68 rfl (lv_at hl 0 rfl) ?_
          refine va_get (D := D) (ci := 5) (v := .int m_readings) (C := RX5) (T := TX5) (N := 25) hx hb hts inX5 hown hK hP 0 rfl rfl 21 (by decide) (hts _ tw_524) (fun _ h9 => h9) rfl dX5_reading_69 ?_
          refine lv_iload_n hx hb dX5_reading_72 rfl (lv_at hl 3 rfl) ?_
          obtain ⟨hin, hf⟩ := gd_some hf
          refine va_iast hx hb hK hP hD hS 11 0 rfl rfl hin dX5_reading_73 (fun H locs hP hD hS => ?_)
          have hP : va_P D classes (W_m cI cS a_m a_m_sorts a_m_sheetLong a_m_cells a_m_kind a_m_wet a_m_readKind a_m_readWet a_m_keptWet a_m_readCells a_m_readHours a_m_readCracked m_fault m_trace m_sorts m_sheetLong m_cells m_sun m_wide m_deep m_hour m_kind m_wet m_at m_readSun m_readWide m_readDeep m_readKind m_readWet m_keptWet m_keptSun m_openFirst m_planHours m_readings (upd m_readCells m_readings.toNatClampNeg p1) (upd m_readHours m_readings.toNatClampNeg p2) (upd m_readCracked m_readings.toNatClampNeg p3)) H := hP
          have hD : va_D A (W_m cI cS a_m a_m_sorts a_m_sheetLong a_m_cells a_m_kind a_m_wet a_m_readKind a_m_readWet a_m_keptWet a_m_readCells a_m_readHours a_m_readCracked m_fault m_trace m_sorts m_sheetLong m_cells m_sun m_wide m_deep m_hour m_kind m_wet m_at m_readSun m_readWide m_readDeep m_readKind m_readWet m_keptWet m_keptSun m_openFirst m_planHours m_readings (upd m_readCells m_readings.toNatClampNeg p1) (upd m_readHours m_readings.toNatClampNeg p2) (upd m_readCracked m_readings.toNatClampNeg p3)) := hD
          refine lv_aload_n hx hb dX5_reading_74 rfl (lv_at hl 0 rfl) ?_
          refine lv_dup hx hb dX5_reading_75 rfl ?_
          refine va_get (D := D) (ci := 5) (v := .int m_readings) (C := RX5) (T := TX5) (N := 25) hx hb hts inX5 hown hK hP 0 rfl rfl 21 (by decide) (hts _ tw_524) (fun _ h9 => h9) rfl dX5_reading_76 ?_
          refine lv_iconst (v := (1 : Int32)) hx hb dX5_reading_79 (by decide) ?_
          refine lv_iadd hx hb dX5_reading_80 ?_
          refine va_put (D := D) (ci := 5) (v := .int (m_readings + (1 : Int32))) (ty := .int) (C := RX5) (T := TX5) (N := 25) hx hb hts inX5 tyX5 tyX5_ok nmX5 hown hK hP hD hS 0 rfl rfl 21 (by decide) (hts _ tw_524) (fun _ h9 => h9) rfl (tyX5_ok 21 (by decide)) rfl rfl (Nat.le_of_ble_eq_true rfl) dX5_reading_81 (fun H locs hP hD hS => ?_)
          have hP : va_P D classes (W_m cI cS a_m a_m_sorts a_m_sheetLong a_m_cells a_m_kind a_m_wet a_m_readKind a_m_readWet a_m_keptWet a_m_readCells a_m_readHours a_m_readCracked m_fault m_trace m_sorts m_sheetLong m_cells m_sun m_wide m_deep m_hour m_kind m_wet m_at m_readSun m_readWide m_readDeep m_readKind m_readWet m_keptWet m_keptSun m_openFirst m_planHours (m_readings + (1 : Int32)) (upd m_readCells m_readings.toNatClampNeg p1) (upd m_readHours m_readings.toNatClampNeg p2) (upd m_readCracked m_readings.toNatClampNeg p3)) H := hP
          have hD : va_D A (W_m cI cS a_m a_m_sorts a_m_sheetLong a_m_cells a_m_kind a_m_wet a_m_readKind a_m_readWet a_m_keptWet a_m_readCells a_m_readHours a_m_readCracked m_fault m_trace m_sorts m_sheetLong m_cells m_sun m_wide m_deep m_hour m_kind m_wet m_at m_readSun m_readWide m_readDeep m_readKind m_readWet m_keptWet m_keptSun m_openFirst m_planHours (m_readings + (1 : Int32)) (upd m_readCells m_readings.toNatClampNeg p1) (upd m_readHours m_readings.toNatClampNeg p2) (upd m_readCracked m_readings.toNatClampNeg p3)) := hD
          refine lv_aload_n hx hb dX5_reading_84 rfl (lv_at hl 0 rfl) ?_
          refine va_get (D := D) (ci := 5) (v := .int (m_readings + (1 : Int32))) (C := RX5) (T := TX5) (N := 25) hx hb hts inX5 hown hK hP 0 rfl rfl 21 (by decide) (hts _ tw_524) (fun _ h9 => h9) rfl dX5_reading_85 ?_
          refine lv_iconst (v := (1 : Int32)) hx hb dX5_reading_88 (by decide) ?_
          refine lv_isub hx hb dX5_reading_89 ?_
          replace hf := Option.some.inj hf
          obtain ⟨er0, er1⟩ := Prod.mk.inj hf
          obtain ⟨er2, er3⟩ := Prod.mk.inj er1
          obtain ⟨er4, er5⟩ := Prod.mk.inj er3
          obtain ⟨er6, er7⟩ := Prod.mk.inj er5
          clear hf er1 er3 er5
          subst er0
          subst er2
          subst er4
          subst er6
          subst er7
          exact rt_i Cc hK hP hD hS dX5_reading_90
        · replace hf := (if_pos hc7).symm.trans hf
          refine lv_bipush (v := (-4 : Int32)) hx hb dX5_reading_41 (by decide) ?_
          replace hf := Option.some.inj hf
          obtain ⟨er0, er1⟩ := Prod.mk.inj hf
          obtain ⟨er2, er3⟩ := Prod.mk.inj er1
          obtain ⟨er4, er5⟩ := Prod.mk.inj er3
          obtain ⟨er6, er7⟩ := Prod.mk.inj er5
          clear hf er1 er3 er5
          subst er0
          subst er2
          subst er4
          subst er6
          subst er7
          exact rt_i Cc hK hP hD hS dX5_reading_43
      · replace hf := (if_pos hc6).symm.trans hf
        refine lv_bipush (v := (-2 : Int32)) hx hb dX5_reading_29 (by decide) ?_
        replace hf := Option.some.inj hf
        obtain ⟨er0, er1⟩ := Prod.mk.inj hf
        obtain ⟨er2, er3⟩ := Prod.mk.inj er1
        obtain ⟨er4, er5⟩ := Prod.mk.inj er3
        obtain ⟨er6, er7⟩ := Prod.mk.inj er5
        clear hf er1 er3 er5
        subst er0
        subst er2
        subst er4
        subst er6
        subst er7
        exact rt_i Cc hK hP hD hS dX5_reading_31
  · replace hf := (if_pos hc2).symm.trans hf
    refine lv_iconst (v := (-1 : Int32)) hx hb dX5_reading_8 (by decide) ?_
    replace hf := Option.some.inj hf
    obtain ⟨er0, er1⟩ := Prod.mk.inj hf
    obtain ⟨er2, er3⟩ := Prod.mk.inj er1
    obtain ⟨er4, er5⟩ := Prod.mk.inj er3
    obtain ⟨er6, er7⟩ := Prod.mk.inj er5
    clear hf er1 er3 er5
    subst er0
    subst er2
    subst er4
    subst er6
    subst er7
    exact rt_i Cc hK hP hD hS dX5_reading_9
-- X5_back
def fX5_back (n : Nat) (m_readings : Int32) (p1 : Int32) : Option (Int32 × Int32) := (fX5_within n p1 (0 : Int32) m_readings).bind fun q6_1 => if q6_1 = 0 then some ((-2 : Int32), m_readings) else some ((m_readings - p1), (m_readings - p1))
theorem mdX5_back : yX5_back.cls = RX5 ∧ yX5_back.cls ≠ "java/lang/invoke/MethodHandle" ∧ yX5_back.cls ≠ "java/lang/invoke/VarHandle" ∧ (parseMethodDescriptor yX5_back.desc).map (fun d => d.parameters.length) = some 1 := by decide +kernel
set_option maxHeartbeats 4000000 in
set_option maxRecDepth 100000 in
theorem ctX5_back (l : Launch) (D : va_G) (cI cS : ClassId) (a_m a_m_sorts a_m_sheetLong a_m_cells a_m_kind a_m_wet a_m_readKind a_m_readWet a_m_keptWet a_m_readCells a_m_readHours a_m_readCracked : Nat) (m_fault : Int32) (m_trace : Int32) (m_sorts : Nat → Int32) (m_sheetLong : Nat → Int32) (m_cells : Nat → Int32) (m_sun : Int32) (m_wide : Int32) (m_deep : Int32) (m_hour : Int32) (m_kind : Nat → Int32) (m_wet : Nat → Int32) (m_at : Int32) (m_readSun : Int32) (m_readWide : Int32) (m_readDeep : Int32) (m_readKind : Nat → Int32) (m_readWet : Nat → Int32) (m_keptWet : Nat → Int32) (m_keptSun : Int32) (m_openFirst : Int32) (m_planHours : Int32) (m_readings : Int32) (m_readCells : Nat → Int32) (m_readHours : Nat → Int32) (m_readCracked : Nat → Int32) (p1 : Int32) (n : Nat) (r : Int32) (m_readings' : Int32) (hf : fX5_back n m_readings p1 = some (r, m_readings')) : Ct l D (tysA cI cS) yX5_back cX5_back 2 (some .int) (Rm 1) [.ref a_m, .int p1] (W_m cI cS a_m a_m_sorts a_m_sheetLong a_m_cells a_m_kind a_m_wet a_m_readKind a_m_readWet a_m_keptWet a_m_readCells a_m_readHours a_m_readCracked m_fault m_trace m_sorts m_sheetLong m_cells m_sun m_wide m_deep m_hour m_kind m_wet m_at m_readSun m_readWide m_readDeep m_readKind m_readWet m_keptWet m_keptSun m_openFirst m_planHours m_readings m_readCells m_readHours m_readCracked) (some (.int r)) (W_m cI cS a_m a_m_sorts a_m_sheetLong a_m_cells a_m_kind a_m_wet a_m_readKind a_m_readWet a_m_keptWet a_m_readCells a_m_readHours a_m_readCracked m_fault m_trace m_sorts m_sheetLong m_cells m_sun m_wide m_deep m_hour m_kind m_wet m_at m_readSun m_readWide m_readDeep m_readKind m_readWet m_keptWet m_keptSun m_openFirst m_planHours m_readings' m_readCells m_readHours m_readCracked) := by
  refine Ct_of (by decide) (Nat.le_of_ble_eq_true rfl) ?_
  intro p e s m args below meth c A ls Cc hK hA hP hD hS hl
  have hl : lv_has ls 2 [(0, .ref a_m), (1, .int p1)] := hl
  obtain ⟨hx, hb, hr, hml, hown, hts, hlk, hnw⟩ := id Cc
  unfold fX5_back at hf
  refine lv_iload_n hx hb dX5_back_0 rfl (lv_at hl 1 rfl) ?_
  refine lv_iconst (v := (0 : Int32)) hx hb dX5_back_1 (by decide) ?_
  refine lv_aload_n hx hb dX5_back_2 rfl (lv_at hl 0 rfl) ?_
  refine va_get (D := D) (ci := 5) (v := .int m_readings) (C := RX5) (T := TX5) (N := 25) hx hb hts inX5 hown hK hP 0 rfl rfl 21 (by decide) (hts _ tw_524) (fun _ h9 => h9) rfl dX5_back_3 ?_
  obtain ⟨q6_1, hq1, hf⟩ := Option.bind_eq_some_iff.mp hf
  refine cSt (ws' := (W_m cI cS a_m a_m_sorts a_m_sheetLong a_m_cells a_m_kind a_m_wet a_m_readKind a_m_readWet a_m_keptWet a_m_readCells a_m_readHours a_m_readCracked m_fault m_trace m_sorts m_sheetLong m_cells m_sun m_wide m_deep m_hour m_kind m_wet m_at m_readSun m_readWide m_readDeep m_readKind m_readWet m_keptWet m_keptSun m_openFirst m_planHours m_readings m_readCells m_readHours m_readCracked)) (rest := []) (st1 := [.int q6_1]) Cc hK hA hP hD hS hl.1 (ctX5_within l D cI cS   p1 (0 : Int32) m_readings n q6_1 hq1) ⟨tw_588, tw_586, tw_587, tw_6⟩ mdX5_within ⟨rfl, rfl, Nat.le_of_ble_eq_true rfl, Nat.le_of_ble_eq_true rfl⟩ rfl dX5_back_6 rfl (Nat.le_of_ble_eq_true rfl) ⟨Nat.zero_le _, Nat.zero_le _⟩ rfl [] [0, 1, 2, 3, 4, 5, 6, 7, 8, 9, 10, 11] [0, 1, 2, 3, 4, 5, 6, 7, 8, 9, 10, 11] rfl rfl (by decide) rfl (fun H locs hP hD hS => ?_)
  refine lv_if_ne (tgt := 15) hx hb dX5_back_9 (by decide) (fun hc2 => ?_) (fun hc2 => ?_)
  · replace hf := (if_neg hc2).symm.trans hf
    refine lv_aload_n hx hb dX5_back_15 rfl (lv_at hl 0 rfl) ?_
    refine lv_dup hx hb dX5_back_16 rfl ?_
    refine va_get (D := D) (ci := 5) (v := .int m_readings) (C := RX5) (T := TX5) (N := 25) hx hb hts inX5 hown hK hP 0 rfl rfl 21 (by decide) (hts _ tw_524) (fun _ h9 => h9) rfl dX5_back_17 ?_
    refine lv_iload_n hx hb dX5_back_20 rfl (lv_at hl 1 rfl) ?_
    refine lv_isub hx hb dX5_back_21 ?_
    refine va_put (D := D) (ci := 5) (v := .int (m_readings - p1)) (ty := .int) (C := RX5) (T := TX5) (N := 25) hx hb hts inX5 tyX5 tyX5_ok nmX5 hown hK hP hD hS 0 rfl rfl 21 (by decide) (hts _ tw_524) (fun _ h9 => h9) rfl (tyX5_ok 21 (by decide)) rfl rfl (Nat.le_of_ble_eq_true rfl) dX5_back_22 (fun H locs hP hD hS => ?_)
    have hP : va_P D classes (W_m cI cS a_m a_m_sorts a_m_sheetLong a_m_cells a_m_kind a_m_wet a_m_readKind a_m_readWet a_m_keptWet a_m_readCells a_m_readHours a_m_readCracked m_fault m_trace m_sorts m_sheetLong m_cells m_sun m_wide m_deep m_hour m_kind m_wet m_at m_readSun m_readWide m_readDeep m_readKind m_readWet m_keptWet m_keptSun m_openFirst m_planHours (m_readings - p1) m_readCells m_readHours m_readCracked) H := hP
    have hD : va_D A (W_m cI cS a_m a_m_sorts a_m_sheetLong a_m_cells a_m_kind a_m_wet a_m_readKind a_m_readWet a_m_keptWet a_m_readCells a_m_readHours a_m_readCracked m_fault m_trace m_sorts m_sheetLong m_cells m_sun m_wide m_deep m_hour m_kind m_wet m_at m_readSun m_readWide m_readDeep m_readKind m_readWet m_keptWet m_keptSun m_openFirst m_planHours (m_readings - p1) m_readCells m_readHours m_readCracked) := hD
    refine lv_aload_n hx hb dX5_back_25 rfl (lv_at hl 0 rfl) ?_
    refine va_get (D := D) (ci := 5) (v := .int (m_readings - p1)) (C := RX5) (T := TX5) (N := 25) hx hb hts inX5 hown hK hP 0 rfl rfl 21 (by decide) (hts _ tw_524) (fun _ h9 => h9) rfl dX5_back_26 ?_
    replace hf := Option.some.inj hf
    obtain ⟨er0, er1⟩ := Prod.mk.inj hf
    clear hf 
    subst er0
    subst er1
    exact rt_i Cc hK hP hD hS dX5_back_29
  · replace hf := (if_pos hc2).symm.trans hf
    refine lv_bipush (v := (-2 : Int32)) hx hb dX5_back_12 (by decide) ?_
    replace hf := Option.some.inj hf
    obtain ⟨er0, er1⟩ := Prod.mk.inj hf
    clear hf 
    subst er0
    subst er1
    exact rt_i Cc hK hP hD hS dX5_back_14
-- X5_areSo
def fX5_areSo_2 (n : Nat) : Nat → Int32 → (Nat → Int32) → (Nat → Int32) → Int32 → (Nat → Int32) → (Nat → Int32) → (Nat → Int32) → Int32 → Option (Int32)
  | 0, _, _, _, _, _, _, _, _ => none
  | k + 1, m_sun, m_kind, m_wet, m_readings, m_readCells, m_readHours, m_readCracked, x1 => if m_readings ≤ x1 then some ((1 : Int32)) else gd x1 8 (gd x1 8 ((fX5_wetBehind n m_sun m_kind m_wet (m_readCells x1.toNatClampNeg) (m_readHours x1.toNatClampNeg)).bind fun q23_1 => if q23_1 = 0 then gd x1 8 (if (1 : Int32) = (m_readCracked x1.toNatClampNeg) then fX5_areSo_2 n k m_sun m_kind m_wet m_readings m_readCells m_readHours m_readCracked (x1 + 1) else some ((0 : Int32))) else gd x1 8 (if (0 : Int32) = (m_readCracked x1.toNatClampNeg) then fX5_areSo_2 n k m_sun m_kind m_wet m_readings m_readCells m_readHours m_readCracked (x1 + 1) else some ((0 : Int32)))))
def fX5_areSo (n : Nat) (m_sun : Int32) (m_kind : Nat → Int32) (m_wet : Nat → Int32) (m_readings : Int32) (m_readCells : Nat → Int32) (m_readHours : Nat → Int32) (m_readCracked : Nat → Int32)  : Option (Int32) := fX5_areSo_2 n n m_sun m_kind m_wet m_readings m_readCells m_readHours m_readCracked (0 : Int32)
theorem mdX5_areSo : yX5_areSo.cls = RX5 ∧ yX5_areSo.cls ≠ "java/lang/invoke/MethodHandle" ∧ yX5_areSo.cls ≠ "java/lang/invoke/VarHandle" ∧ (parseMethodDescriptor yX5_areSo.desc).map (fun d => d.parameters.length) = some 0 := by decide +kernel
set_option maxHeartbeats 4000000 in
set_option maxRecDepth 100000 in
theorem bX5_areSo_2 {p : Program} {l : Launch} {e : Env} {s : State} {m : MethodId} {args : Array Value} {below : List Frame} {meth : Method} {c : Code} {A : Nat → Prop} {D : va_G} {cI cS : ClassId} (a_m a_m_sorts a_m_sheetLong a_m_cells a_m_kind a_m_wet a_m_readKind a_m_readWet a_m_keptWet a_m_readCells a_m_readHours a_m_readCracked : Nat) (m_fault : Int32) (m_trace : Int32) (m_sorts : Nat → Int32) (m_sheetLong : Nat → Int32) (m_cells : Nat → Int32) (m_wide : Int32) (m_deep : Int32) (m_hour : Int32) (m_at : Int32) (m_readSun : Int32) (m_readWide : Int32) (m_readDeep : Int32) (m_readKind : Nat → Int32) (m_readWet : Nat → Int32) (m_keptWet : Nat → Int32) (m_keptSun : Int32) (m_openFirst : Int32) (m_planHours : Int32) (Cc : Cx p s m args meth c RX5 cX5_areSo 3 (some .boolean)) (hK : va_K D classes (tysA cI cS) s) (hA : ∀ q, s.heap.size ≤ q → A q) (n : Nat) : ∀ (k : Nat) (m_sun : Int32) (m_kind : Nat → Int32) (m_wet : Nat → Int32) (m_readings : Int32) (m_readCells : Nat → Int32) (m_readHours : Nat → Int32) (m_readCracked : Nat → Int32) (x1 : Int32) (r : Int32), fX5_areSo_2 n k m_sun m_kind m_wet m_readings m_readCells m_readHours m_readCracked x1 = some (r) → ∀ (H : Heap) (locs : List Loc) (ls : Array Slot), va_P D classes (W_m cI cS a_m a_m_sorts a_m_sheetLong a_m_cells a_m_kind a_m_wet a_m_readKind a_m_readWet a_m_keptWet a_m_readCells a_m_readHours a_m_readCracked m_fault m_trace m_sorts m_sheetLong m_cells m_sun m_wide m_deep m_hour m_kind m_wet m_at m_readSun m_readWide m_readDeep m_readKind m_readWet m_keptWet m_keptSun m_openFirst m_planHours m_readings m_readCells m_readHours m_readCracked) H → va_D A (W_m cI cS a_m a_m_sorts a_m_sheetLong a_m_cells a_m_kind a_m_wet a_m_readKind a_m_readWet a_m_keptWet a_m_readCells a_m_readHours a_m_readCracked m_fault m_trace m_sorts m_sheetLong m_cells m_sun m_wide m_deep m_hour m_kind m_wet m_at m_readSun m_readWide m_readDeep m_readKind m_readWet m_keptWet m_keptSun m_openFirst m_planHours m_readings m_readCells m_readHours m_readCracked) → va_S A s.heap H locs → lv_has ls 3 [(0, .ref a_m), (1, .int x1)] → W p l e (Rm 2) s m args below meth c H locs 0 0 (MQ below (QW D (tysA cI cS) (some (.int r)) (W_m cI cS a_m a_m_sorts a_m_sheetLong a_m_cells a_m_kind a_m_wet a_m_readKind a_m_readWet a_m_keptWet a_m_readCells a_m_readHours a_m_readCracked m_fault m_trace m_sorts m_sheetLong m_cells m_sun m_wide m_deep m_hour m_kind m_wet m_at m_readSun m_readWide m_readDeep m_readKind m_readWet m_keptWet m_keptSun m_openFirst m_planHours m_readings m_readCells m_readHours m_readCracked) A) args s 0 0 A) (F0 m 2 ls []) := by
  obtain ⟨hx, hb, hr, hml, hown, hts, hlk, hnw⟩ := id Cc
  intro k
  induction k with
  | zero =>
    intro m_sun m_kind m_wet m_readings m_readCells m_readHours m_readCracked x1 r hf
    rw [fX5_areSo_2] at hf
    cases hf
  | succ k ih =>
    intro m_sun m_kind m_wet m_readings m_readCells m_readHours m_readCracked x1 r hf H locs ls hP hD hS hl
    rw [fX5_areSo_2] at hf
    refine lv_iload_n hx hb dX5_areSo_2 rfl (lv_at hl 1 rfl) ?_
    refine lv_aload_n hx hb dX5_areSo_3 rfl (lv_at hl 0 rfl) ?_
    refine va_get (D := D) (ci := 5) (v := .int m_readings) (C := RX5) (T := TX5) (N := 25) hx hb hts inX5 hown hK hP 0 rfl rfl 21 (by decide) (hts _ tw_524) (fun _ h9 => h9) rfl dX5_areSo_4 ?_
    refine lv_icmp_ge (tgt := 53) hx hb dX5_areSo_7 (by decide) (fun hc1 => ?_) (fun hc1 => ?_)
    · replace hf := (if_pos hc1).symm.trans hf
      refine lv_iconst (v := (1 : Int32)) hx hb dX5_areSo_53 (by decide) ?_
      obtain rfl := Option.some.inj hf
      exact rt_z Cc (by decide) hK hP hD hS dX5_areSo_54
    · replace hf := (if_neg hc1).symm.trans hf
      refine lv_aload_n hx hb dX5_areSo_10 rfl (lv_at hl 0 rfl) ?_
      refine lv_aload_n hx hb dX5_areSo_11 rfl (lv_at hl 0 rfl) ?_
      refine va_get (D := D) (ci := 5) (v := .ref a_m_readCells) (C := RX5) (T := TX5) (N := 25) hx hb hts inX5 hown hK hP 0 rfl rfl 22 (by decide) (hts _ tw_525) (fun _ h9 => h9) rfl dX5_areSo_12 ?_
      refine lv_iload_n hx hb dX5_areSo_15 rfl (lv_at hl 1 rfl) ?_
      obtain ⟨hin, hf⟩ := gd_some hf
      refine va_iald hx hb hK hP 9 0 rfl rfl hin dX5_areSo_16 ?_
      refine lv_aload_n hx hb dX5_areSo_17 rfl (lv_at hl 0 rfl) ?_
      refine va_get (D := D) (ci := 5) (v := .ref a_m_readHours) (C := RX5) (T := TX5) (N := 25) hx hb hts inX5 hown hK hP 0 rfl rfl 23 (by decide) (hts _ tw_526) (fun _ h9 => h9) rfl dX5_areSo_18 ?_
      refine lv_iload_n hx hb dX5_areSo_21 rfl (lv_at hl 1 rfl) ?_
      obtain ⟨hin, hf⟩ := gd_some hf
      refine va_iald hx hb hK hP 10 0 rfl rfl hin dX5_areSo_22 ?_
      obtain ⟨q23_1, hq2, hf⟩ := Option.bind_eq_some_iff.mp hf
      refine cV (ws' := (W_m cI cS a_m a_m_sorts a_m_sheetLong a_m_cells a_m_kind a_m_wet a_m_readKind a_m_readWet a_m_keptWet a_m_readCells a_m_readHours a_m_readCracked m_fault m_trace m_sorts m_sheetLong m_cells m_sun m_wide m_deep m_hour m_kind m_wet m_at m_readSun m_readWide m_readDeep m_readKind m_readWet m_keptWet m_keptSun m_openFirst m_planHours m_readings m_readCells m_readHours m_readCracked)) (rest := []) (st1 := [.int q23_1]) Cc hK hA hP hD hS hl.1 (ctX5_wetBehind l D cI cS a_m a_m_sorts a_m_sheetLong a_m_cells a_m_kind a_m_wet a_m_readKind a_m_readWet a_m_keptWet a_m_readCells a_m_readHours a_m_readCracked m_fault m_trace m_sorts m_sheetLong m_cells m_sun m_wide m_deep m_hour m_kind m_wet m_at m_readSun m_readWide m_readDeep m_readKind m_readWet m_keptWet m_keptSun m_openFirst m_planHours m_readings m_readCells m_readHours m_readCracked (m_readCells x1.toNatClampNeg) (m_readHours x1.toNatClampNeg) n q23_1 hq2) ⟨tw_643, tw_640, tw_642, tp_22, tw_6⟩ mdX5_wetBehind ⟨rfl, rfl, Nat.le_of_ble_eq_true rfl, Nat.le_of_ble_eq_true rfl⟩ rfl dX5_areSo_23 rfl (Nat.le_of_ble_eq_true rfl) ⟨Nat.zero_le _, Nat.zero_le _⟩ rfl rfl rfl [0, 1, 2, 3, 4, 5, 6, 7, 8, 9, 10, 11] [] [0, 1, 2, 3, 4, 5, 6, 7, 8, 9, 10, 11] rfl rfl (by decide) rfl (fun H locs hP hD hS => ?_)
      refine lv_if_ne (tgt := 33) hx hb dX5_areSo_26 (by decide) (fun hc3 => ?_) (fun hc3 => ?_)
      · replace hf := (if_neg hc3).symm.trans hf
        refine lv_iconst (v := (0 : Int32)) hx hb dX5_areSo_33 (by decide) ?_
        refine lv_istore_n (lv' := [(2, .int (0 : Int32)), (0, .ref a_m), (1, .int x1)]) hx hb dX5_areSo_34 rfl hl (by decide) rfl (fun ls hl => ?_)
        refine lv_iload_n hx hb dX5_areSo_35 rfl (lv_at hl 0 rfl) ?_
        refine lv_aload_n hx hb dX5_areSo_36 rfl (lv_at hl 1 rfl) ?_
        refine va_get (D := D) (ci := 5) (v := .ref a_m_readCracked) (C := RX5) (T := TX5) (N := 25) hx hb hts inX5 hown hK hP 0 rfl rfl 24 (by decide) (hts _ tw_527) (fun _ h9 => h9) rfl dX5_areSo_37 ?_
        refine lv_iload_n hx hb dX5_areSo_40 rfl (lv_at hl 2 rfl) ?_
        obtain ⟨hin, hf⟩ := gd_some hf
        refine va_iald hx hb hK hP 11 0 rfl rfl hin dX5_areSo_41 ?_
        refine lv_icmp_eq (tgt := 47) hx hb dX5_areSo_42 (by decide) (fun hc4 => ?_) (fun hc4 => ?_)
        · replace hf := (if_pos hc4).symm.trans hf
          refine lv_iinc (v := (x1 + 1)) (lv' := [(1, .int (x1 + 1)), (2, .int (0 : Int32)), (0, .ref a_m)]) hx hb dX5_areSo_47 hl (k := 2) rfl rfl (by decide) rfl (fun ls hl => ?_)
          refine lv_goto (tgt := 2) hx hb dX5_areSo_50 (by decide) ?_
          exact ih _ _ _ _ _ _ _ _ _ hf _ _ _ hP hD hS (lv_sub hl [2, 0] rfl)
        · replace hf := (if_neg hc4).symm.trans hf
          refine lv_iconst (v := (0 : Int32)) hx hb dX5_areSo_45 (by decide) ?_
          obtain rfl := Option.some.inj hf
          exact rt_z Cc (by decide) hK hP hD hS dX5_areSo_46
      · replace hf := (if_pos hc3).symm.trans hf
        refine lv_iconst (v := (1 : Int32)) hx hb dX5_areSo_29 (by decide) ?_
        refine lv_goto (tgt := 34) hx hb dX5_areSo_30 (by decide) ?_
        refine lv_istore_n (lv' := [(2, .int (1 : Int32)), (0, .ref a_m), (1, .int x1)]) hx hb dX5_areSo_34 rfl hl (by decide) rfl (fun ls hl => ?_)
        refine lv_iload_n hx hb dX5_areSo_35 rfl (lv_at hl 0 rfl) ?_
        refine lv_aload_n hx hb dX5_areSo_36 rfl (lv_at hl 1 rfl) ?_
        refine va_get (D := D) (ci := 5) (v := .ref a_m_readCracked) (C := RX5) (T := TX5) (N := 25) hx hb hts inX5 hown hK hP 0 rfl rfl 24 (by decide) (hts _ tw_527) (fun _ h9 => h9) rfl dX5_areSo_37 ?_
        refine lv_iload_n hx hb dX5_areSo_40 rfl (lv_at hl 2 rfl) ?_
        obtain ⟨hin, hf⟩ := gd_some hf
        refine va_iald hx hb hK hP 11 0 rfl rfl hin dX5_areSo_41 ?_
        refine lv_icmp_eq (tgt := 47) hx hb dX5_areSo_42 (by decide) (fun hc5 => ?_) (fun hc5 => ?_)
        · replace hf := (if_pos hc5).symm.trans hf
          refine lv_iinc (v := (x1 + 1)) (lv' := [(1, .int (x1 + 1)), (2, .int (1 : Int32)), (0, .ref a_m)]) hx hb dX5_areSo_47 hl (k := 2) rfl rfl (by decide) rfl (fun ls hl => ?_)
          refine lv_goto (tgt := 2) hx hb dX5_areSo_50 (by decide) ?_
          exact ih _ _ _ _ _ _ _ _ _ hf _ _ _ hP hD hS (lv_sub hl [2, 0] rfl)
        · replace hf := (if_neg hc5).symm.trans hf
          refine lv_iconst (v := (0 : Int32)) hx hb dX5_areSo_45 (by decide) ?_
          obtain rfl := Option.some.inj hf
          exact rt_z Cc (by decide) hK hP hD hS dX5_areSo_46
set_option maxHeartbeats 4000000 in
set_option maxRecDepth 100000 in
theorem ctX5_areSo (l : Launch) (D : va_G) (cI cS : ClassId) (a_m a_m_sorts a_m_sheetLong a_m_cells a_m_kind a_m_wet a_m_readKind a_m_readWet a_m_keptWet a_m_readCells a_m_readHours a_m_readCracked : Nat) (m_fault : Int32) (m_trace : Int32) (m_sorts : Nat → Int32) (m_sheetLong : Nat → Int32) (m_cells : Nat → Int32) (m_sun : Int32) (m_wide : Int32) (m_deep : Int32) (m_hour : Int32) (m_kind : Nat → Int32) (m_wet : Nat → Int32) (m_at : Int32) (m_readSun : Int32) (m_readWide : Int32) (m_readDeep : Int32) (m_readKind : Nat → Int32) (m_readWet : Nat → Int32) (m_keptWet : Nat → Int32) (m_keptSun : Int32) (m_openFirst : Int32) (m_planHours : Int32) (m_readings : Int32) (m_readCells : Nat → Int32) (m_readHours : Nat → Int32) (m_readCracked : Nat → Int32)  (n : Nat) (r : Int32) (hf : fX5_areSo n m_sun m_kind m_wet m_readings m_readCells m_readHours m_readCracked  = some (r)) : Ct l D (tysA cI cS) yX5_areSo cX5_areSo 3 (some .boolean) (Rm 2) [.ref a_m] (W_m cI cS a_m a_m_sorts a_m_sheetLong a_m_cells a_m_kind a_m_wet a_m_readKind a_m_readWet a_m_keptWet a_m_readCells a_m_readHours a_m_readCracked m_fault m_trace m_sorts m_sheetLong m_cells m_sun m_wide m_deep m_hour m_kind m_wet m_at m_readSun m_readWide m_readDeep m_readKind m_readWet m_keptWet m_keptSun m_openFirst m_planHours m_readings m_readCells m_readHours m_readCracked) (some (.int r)) (W_m cI cS a_m a_m_sorts a_m_sheetLong a_m_cells a_m_kind a_m_wet a_m_readKind a_m_readWet a_m_keptWet a_m_readCells a_m_readHours a_m_readCracked m_fault m_trace m_sorts m_sheetLong m_cells m_sun m_wide m_deep m_hour m_kind m_wet m_at m_readSun m_readWide m_readDeep m_readKind m_readWet m_keptWet m_keptSun m_openFirst m_planHours m_readings m_readCells m_readHours m_readCracked) := by
  refine Ct_of (by decide) (Nat.le_of_ble_eq_true rfl) ?_
  intro p e s m args below meth c A ls Cc hK hA hP hD hS hl
  have hl : lv_has ls 3 [(0, .ref a_m)] := hl
  obtain ⟨hx, hb, hr, hml, hown, hts, hlk, hnw⟩ := id Cc
  unfold fX5_areSo at hf
  refine lv_iconst (v := (0 : Int32)) hx hb dX5_areSo_0 (by decide) ?_
  refine lv_istore_n (lv' := [(1, .int (0 : Int32)), (0, .ref a_m)]) hx hb dX5_areSo_1 rfl hl (by decide) rfl (fun ls hl => ?_)
  exact bX5_areSo_2 a_m a_m_sorts a_m_sheetLong a_m_cells a_m_kind a_m_wet a_m_readKind a_m_readWet a_m_keptWet a_m_readCells a_m_readHours a_m_readCracked m_fault m_trace m_sorts m_sheetLong m_cells m_wide m_deep m_hour m_at m_readSun m_readWide m_readDeep m_readKind m_readWet m_keptWet m_keptSun m_openFirst m_planHours Cc hK hA n n _ _ _ _ _ _ _ _ _ hf _ _ _ hP hD hS (lv_sub hl [1, 0] rfl)
-- X5_wets
def fX5_wets_22 (n : Nat) : Nat → Int32 → Int32 → Int32 → (Nat → Int32) → (Nat → Int32) → Int32 → (Nat → Int32) → (Nat → Int32) → (Nat → Int32) → Int32 → Int32 → Int32 → Int32 → Option (Int32 × (Nat → Int32))
  | 0, _, _, _, _, _, _, _, _, _, _, _, _, _ => none
  | k + 1, m_sun, m_wide, m_deep, m_kind, m_wet, m_readings, m_readCells, m_readHours, m_readCracked, x1, x2, x3, x4 => if (9 : Int32) < x4 then gd x1 12 (some (x3, (upd m_wet x1.toNatClampNeg x2))) else gd x1 12 ((fX5_areSo n m_sun m_kind (upd m_wet x1.toNatClampNeg x4) m_readings m_readCells m_readHours m_readCracked).bind fun q39_1 => if q39_1 = 0 then fX5_wets_22 n k m_sun m_wide m_deep m_kind (upd m_wet x1.toNatClampNeg x4) m_readings m_readCells m_readHours m_readCracked x1 x2 (x3 ||| (0 : Int32)) (x4 + 1) else fX5_wets_22 n k m_sun m_wide m_deep m_kind (upd m_wet x1.toNatClampNeg x4) m_readings m_readCells m_readHours m_readCracked x1 x2 (x3 ||| ((1 : Int32) <<< (x4 &&& 31))) (x4 + 1))
def fX5_wets (n : Nat) (m_sun : Int32) (m_wide : Int32) (m_deep : Int32) (m_kind : Nat → Int32) (m_wet : Nat → Int32) (m_readings : Int32) (m_readCells : Nat → Int32) (m_readHours : Nat → Int32) (m_readCracked : Nat → Int32) (p1 : Int32) : Option (Int32 × (Nat → Int32)) := (fX5_isCell n m_wide m_deep p1).bind fun q2_1 => if q2_1 = 0 then some ((-1 : Int32), m_wet) else gd p1 12 (fX5_wets_22 n n m_sun m_wide m_deep m_kind m_wet m_readings m_readCells m_readHours m_readCracked p1 (m_wet p1.toNatClampNeg) (0 : Int32) (0 : Int32))
theorem mdX5_wets : yX5_wets.cls = RX5 ∧ yX5_wets.cls ≠ "java/lang/invoke/MethodHandle" ∧ yX5_wets.cls ≠ "java/lang/invoke/VarHandle" ∧ (parseMethodDescriptor yX5_wets.desc).map (fun d => d.parameters.length) = some 1 := by decide +kernel
set_option maxHeartbeats 4000000 in
set_option maxRecDepth 100000 in
theorem bX5_wets_22 {p : Program} {l : Launch} {e : Env} {s : State} {m : MethodId} {args : Array Value} {below : List Frame} {meth : Method} {c : Code} {A : Nat → Prop} {D : va_G} {cI cS : ClassId} (a_m a_m_sorts a_m_sheetLong a_m_cells a_m_kind a_m_wet a_m_readKind a_m_readWet a_m_keptWet a_m_readCells a_m_readHours a_m_readCracked : Nat) (m_fault : Int32) (m_trace : Int32) (m_sorts : Nat → Int32) (m_sheetLong : Nat → Int32) (m_cells : Nat → Int32) (m_hour : Int32) (m_at : Int32) (m_readSun : Int32) (m_readWide : Int32) (m_readDeep : Int32) (m_readKind : Nat → Int32) (m_readWet : Nat → Int32) (m_keptWet : Nat → Int32) (m_keptSun : Int32) (m_openFirst : Int32) (m_planHours : Int32) (Cc : Cx p s m args meth c RX5 cX5_wets 5 (some .int)) (hK : va_K D classes (tysA cI cS) s) (hA : ∀ q, s.heap.size ≤ q → A q) (n : Nat) : ∀ (k : Nat) (m_sun : Int32) (m_wide : Int32) (m_deep : Int32) (m_kind : Nat → Int32) (m_wet : Nat → Int32) (m_readings : Int32) (m_readCells : Nat → Int32) (m_readHours : Nat → Int32) (m_readCracked : Nat → Int32) (x1 : Int32) (x2 : Int32) (x3 : Int32) (x4 : Int32) (r : Int32) (m_wet' : Nat → Int32), fX5_wets_22 n k m_sun m_wide m_deep m_kind m_wet m_readings m_readCells m_readHours m_readCracked x1 x2 x3 x4 = some (r, m_wet') → ∀ (H : Heap) (locs : List Loc) (ls : Array Slot), va_P D classes (W_m cI cS a_m a_m_sorts a_m_sheetLong a_m_cells a_m_kind a_m_wet a_m_readKind a_m_readWet a_m_keptWet a_m_readCells a_m_readHours a_m_readCracked m_fault m_trace m_sorts m_sheetLong m_cells m_sun m_wide m_deep m_hour m_kind m_wet m_at m_readSun m_readWide m_readDeep m_readKind m_readWet m_keptWet m_keptSun m_openFirst m_planHours m_readings m_readCells m_readHours m_readCracked) H → va_D A (W_m cI cS a_m a_m_sorts a_m_sheetLong a_m_cells a_m_kind a_m_wet a_m_readKind a_m_readWet a_m_keptWet a_m_readCells a_m_readHours a_m_readCracked m_fault m_trace m_sorts m_sheetLong m_cells m_sun m_wide m_deep m_hour m_kind m_wet m_at m_readSun m_readWide m_readDeep m_readKind m_readWet m_keptWet m_keptSun m_openFirst m_planHours m_readings m_readCells m_readHours m_readCracked) → va_S A s.heap H locs → lv_has ls 5 [(0, .ref a_m), (1, .int x1), (2, .int x2), (3, .int x3), (4, .int x4)] → W p l e (Rm 3) s m args below meth c H locs 0 0 (MQ below (QW D (tysA cI cS) (some (.int r)) (W_m cI cS a_m a_m_sorts a_m_sheetLong a_m_cells a_m_kind a_m_wet a_m_readKind a_m_readWet a_m_keptWet a_m_readCells a_m_readHours a_m_readCracked m_fault m_trace m_sorts m_sheetLong m_cells m_sun m_wide m_deep m_hour m_kind m_wet' m_at m_readSun m_readWide m_readDeep m_readKind m_readWet m_keptWet m_keptSun m_openFirst m_planHours m_readings m_readCells m_readHours m_readCracked) A) args s 0 0 A) (F0 m 22 ls []) := by
  obtain ⟨hx, hb, hr, hml, hown, hts, hlk, hnw⟩ := id Cc
  intro k
  induction k with
  | zero =>
    intro m_sun m_wide m_deep m_kind m_wet m_readings m_readCells m_readHours m_readCracked x1 x2 x3 x4 r m_wet' hf
    rw [fX5_wets_22] at hf
    cases hf
  | succ k ih =>
    intro m_sun m_wide m_deep m_kind m_wet m_readings m_readCells m_readHours m_readCracked x1 x2 x3 x4 r m_wet' hf H locs ls hP hD hS hl
    rw [fX5_wets_22] at hf
    refine lv_iload hx hb dX5_wets_22 (lv_at hl 4 rfl) ?_
    refine lv_bipush (v := (9 : Int32)) hx hb dX5_wets_24 (by decide) ?_
    refine lv_icmp_gt (tgt := 61) hx hb dX5_wets_26 (by decide) (fun hc3 => ?_) (fun hc3 => ?_)
    · replace hf := (if_pos hc3).symm.trans hf
      refine lv_aload_n hx hb dX5_wets_61 rfl (lv_at hl 0 rfl) ?_
      refine va_get (D := D) (ci := 5) (v := .ref a_m_wet) (C := RX5) (T := TX5) (N := 25) hx hb hts inX5 hown hK hP 0 rfl rfl 10 (by decide) (hts _ tw_513) (fun _ h9 => h9) rfl dX5_wets_62 ?_
      refine lv_iload_n hx hb dX5_wets_65 rfl (lv_at hl 1 rfl) ?_
      refine lv_iload_n hx hb dX5_wets_66 rfl (lv_at hl 2 rfl) ?_
      obtain ⟨hin, hf⟩ := gd_some hf
      refine va_iast hx hb hK hP hD hS 5 0 rfl rfl hin dX5_wets_67 (fun H locs hP hD hS => ?_)
      have hP : va_P D classes (W_m cI cS a_m a_m_sorts a_m_sheetLong a_m_cells a_m_kind a_m_wet a_m_readKind a_m_readWet a_m_keptWet a_m_readCells a_m_readHours a_m_readCracked m_fault m_trace m_sorts m_sheetLong m_cells m_sun m_wide m_deep m_hour m_kind (upd m_wet x1.toNatClampNeg x2) m_at m_readSun m_readWide m_readDeep m_readKind m_readWet m_keptWet m_keptSun m_openFirst m_planHours m_readings m_readCells m_readHours m_readCracked) H := hP
      have hD : va_D A (W_m cI cS a_m a_m_sorts a_m_sheetLong a_m_cells a_m_kind a_m_wet a_m_readKind a_m_readWet a_m_keptWet a_m_readCells a_m_readHours a_m_readCracked m_fault m_trace m_sorts m_sheetLong m_cells m_sun m_wide m_deep m_hour m_kind (upd m_wet x1.toNatClampNeg x2) m_at m_readSun m_readWide m_readDeep m_readKind m_readWet m_keptWet m_keptSun m_openFirst m_planHours m_readings m_readCells m_readHours m_readCracked) := hD
      refine lv_iload_n hx hb dX5_wets_68 rfl (lv_at hl 3 rfl) ?_
      replace hf := Option.some.inj hf
      obtain ⟨er0, er1⟩ := Prod.mk.inj hf
      clear hf 
      subst er0
      subst er1
      exact rt_i Cc hK hP hD hS dX5_wets_69
    · replace hf := (if_neg hc3).symm.trans hf
      refine lv_aload_n hx hb dX5_wets_29 rfl (lv_at hl 0 rfl) ?_
      refine va_get (D := D) (ci := 5) (v := .ref a_m_wet) (C := RX5) (T := TX5) (N := 25) hx hb hts inX5 hown hK hP 0 rfl rfl 10 (by decide) (hts _ tw_513) (fun _ h9 => h9) rfl dX5_wets_30 ?_
      refine lv_iload_n hx hb dX5_wets_33 rfl (lv_at hl 1 rfl) ?_
      refine lv_iload hx hb dX5_wets_34 (lv_at hl 4 rfl) ?_
      obtain ⟨hin, hf⟩ := gd_some hf
      refine va_iast hx hb hK hP hD hS 5 0 rfl rfl hin dX5_wets_36 (fun H locs hP hD hS => ?_)
      have hP : va_P D classes (W_m cI cS a_m a_m_sorts a_m_sheetLong a_m_cells a_m_kind a_m_wet a_m_readKind a_m_readWet a_m_keptWet a_m_readCells a_m_readHours a_m_readCracked m_fault m_trace m_sorts m_sheetLong m_cells m_sun m_wide m_deep m_hour m_kind (upd m_wet x1.toNatClampNeg x4) m_at m_readSun m_readWide m_readDeep m_readKind m_readWet m_keptWet m_keptSun m_openFirst m_planHours m_readings m_readCells m_readHours m_readCracked) H := hP
      have hD : va_D A (W_m cI cS a_m a_m_sorts a_m_sheetLong a_m_cells a_m_kind a_m_wet a_m_readKind a_m_readWet a_m_keptWet a_m_readCells a_m_readHours a_m_readCracked m_fault m_trace m_sorts m_sheetLong m_cells m_sun m_wide m_deep m_hour m_kind (upd m_wet x1.toNatClampNeg x4) m_at m_readSun m_readWide m_readDeep m_readKind m_readWet m_keptWet m_keptSun m_openFirst m_planHours m_readings m_readCells m_readHours m_readCracked) := hD
      refine lv_iload_n hx hb dX5_wets_37 rfl (lv_at hl 3 rfl) ?_
      refine lv_aload_n hx hb dX5_wets_38 rfl (lv_at hl 0 rfl) ?_
      obtain ⟨q39_1, hq4, hf⟩ := Option.bind_eq_some_iff.mp hf
      refine cV (ws' := (W_m cI cS a_m a_m_sorts a_m_sheetLong a_m_cells a_m_kind a_m_wet a_m_readKind a_m_readWet a_m_keptWet a_m_readCells a_m_readHours a_m_readCracked m_fault m_trace m_sorts m_sheetLong m_cells m_sun m_wide m_deep m_hour m_kind (upd m_wet x1.toNatClampNeg x4) m_at m_readSun m_readWide m_readDeep m_readKind m_readWet m_keptWet m_keptSun m_openFirst m_planHours m_readings m_readCells m_readHours m_readCracked)) (rest := [.int x3]) (st1 := [.int q39_1, .int x3]) Cc hK hA hP hD hS hl.1 (ctX5_areSo l D cI cS a_m a_m_sorts a_m_sheetLong a_m_cells a_m_kind a_m_wet a_m_readKind a_m_readWet a_m_keptWet a_m_readCells a_m_readHours a_m_readCracked m_fault m_trace m_sorts m_sheetLong m_cells m_sun m_wide m_deep m_hour m_kind (upd m_wet x1.toNatClampNeg x4) m_at m_readSun m_readWide m_readDeep m_readKind m_readWet m_keptWet m_keptSun m_openFirst m_planHours m_readings m_readCells m_readHours m_readCracked  n q39_1 hq4) ⟨tw_760, tw_757, tw_759, tp_35, tw_6⟩ mdX5_areSo ⟨rfl, rfl, Nat.le_of_ble_eq_true rfl, Nat.le_of_ble_eq_true rfl⟩ rfl dX5_wets_39 rfl (Nat.le_of_ble_eq_true rfl) ⟨Nat.zero_le _, Nat.zero_le _⟩ rfl rfl rfl [0, 1, 2, 3, 4, 5, 6, 7, 8, 9, 10, 11] [] [0, 1, 2, 3, 4, 5, 6, 7, 8, 9, 10, 11] rfl rfl (by decide) rfl (fun H locs hP hD hS => ?_)
      refine lv_if_eq (tgt := 52) hx hb dX5_wets_42 (by decide) (fun hc5 => ?_) (fun hc5 => ?_)
      · replace hf := (if_pos hc5).symm.trans hf
        refine lv_iconst (v := (0 : Int32)) hx hb dX5_wets_52 (by decide) ?_
        refine lv_ior hx hb dX5_wets_53 ?_
        refine lv_istore_n (lv' := [(3, .int (x3 ||| (0 : Int32))), (0, .ref a_m), (1, .int x1), (2, .int x2), (4, .int x4)]) hx hb dX5_wets_54 rfl hl (by decide) rfl (fun ls hl => ?_)
        refine lv_iinc (v := (x4 + 1)) (lv' := [(4, .int (x4 + 1)), (3, .int (x3 ||| (0 : Int32))), (0, .ref a_m), (1, .int x1), (2, .int x2)]) hx hb dX5_wets_55 hl (k := 4) rfl rfl (by decide) rfl (fun ls hl => ?_)
        refine lv_goto (tgt := 22) hx hb dX5_wets_58 (by decide) ?_
        exact ih _ _ _ _ _ _ _ _ _ _ _ _ _ _ _ hf _ _ _ hP hD hS (lv_sub hl [2, 3, 4, 1, 0] rfl)
      · replace hf := (if_neg hc5).symm.trans hf
        refine lv_iconst (v := (1 : Int32)) hx hb dX5_wets_45 (by decide) ?_
        refine lv_iload hx hb dX5_wets_46 (lv_at hl 4 rfl) ?_
        refine lv_ishl hx hb dX5_wets_48 ?_
        refine lv_goto (tgt := 53) hx hb dX5_wets_49 (by decide) ?_
        refine lv_ior hx hb dX5_wets_53 ?_
        refine lv_istore_n (lv' := [(3, .int (x3 ||| ((1 : Int32) <<< (x4 &&& 31)))), (0, .ref a_m), (1, .int x1), (2, .int x2), (4, .int x4)]) hx hb dX5_wets_54 rfl hl (by decide) rfl (fun ls hl => ?_)
        refine lv_iinc (v := (x4 + 1)) (lv' := [(4, .int (x4 + 1)), (3, .int (x3 ||| ((1 : Int32) <<< (x4 &&& 31)))), (0, .ref a_m), (1, .int x1), (2, .int x2)]) hx hb dX5_wets_55 hl (k := 4) rfl rfl (by decide) rfl (fun ls hl => ?_)
        refine lv_goto (tgt := 22) hx hb dX5_wets_58 (by decide) ?_
        exact ih _ _ _ _ _ _ _ _ _ _ _ _ _ _ _ hf _ _ _ hP hD hS (lv_sub hl [2, 3, 4, 1, 0] rfl)
set_option maxHeartbeats 4000000 in
set_option maxRecDepth 100000 in
theorem ctX5_wets (l : Launch) (D : va_G) (cI cS : ClassId) (a_m a_m_sorts a_m_sheetLong a_m_cells a_m_kind a_m_wet a_m_readKind a_m_readWet a_m_keptWet a_m_readCells a_m_readHours a_m_readCracked : Nat) (m_fault : Int32) (m_trace : Int32) (m_sorts : Nat → Int32) (m_sheetLong : Nat → Int32) (m_cells : Nat → Int32) (m_sun : Int32) (m_wide : Int32) (m_deep : Int32) (m_hour : Int32) (m_kind : Nat → Int32) (m_wet : Nat → Int32) (m_at : Int32) (m_readSun : Int32) (m_readWide : Int32) (m_readDeep : Int32) (m_readKind : Nat → Int32) (m_readWet : Nat → Int32) (m_keptWet : Nat → Int32) (m_keptSun : Int32) (m_openFirst : Int32) (m_planHours : Int32) (m_readings : Int32) (m_readCells : Nat → Int32) (m_readHours : Nat → Int32) (m_readCracked : Nat → Int32) (p1 : Int32) (n : Nat) (r : Int32) (m_wet' : Nat → Int32) (hf : fX5_wets n m_sun m_wide m_deep m_kind m_wet m_readings m_readCells m_readHours m_readCracked p1 = some (r, m_wet')) : Ct l D (tysA cI cS) yX5_wets cX5_wets 5 (some .int) (Rm 3) [.ref a_m, .int p1] (W_m cI cS a_m a_m_sorts a_m_sheetLong a_m_cells a_m_kind a_m_wet a_m_readKind a_m_readWet a_m_keptWet a_m_readCells a_m_readHours a_m_readCracked m_fault m_trace m_sorts m_sheetLong m_cells m_sun m_wide m_deep m_hour m_kind m_wet m_at m_readSun m_readWide m_readDeep m_readKind m_readWet m_keptWet m_keptSun m_openFirst m_planHours m_readings m_readCells m_readHours m_readCracked) (some (.int r)) (W_m cI cS a_m a_m_sorts a_m_sheetLong a_m_cells a_m_kind a_m_wet a_m_readKind a_m_readWet a_m_keptWet a_m_readCells a_m_readHours a_m_readCracked m_fault m_trace m_sorts m_sheetLong m_cells m_sun m_wide m_deep m_hour m_kind m_wet' m_at m_readSun m_readWide m_readDeep m_readKind m_readWet m_keptWet m_keptSun m_openFirst m_planHours m_readings m_readCells m_readHours m_readCracked) := by
  refine Ct_of (by decide) (Nat.le_of_ble_eq_true rfl) ?_
  intro p e s m args below meth c A ls Cc hK hA hP hD hS hl
  have hl : lv_has ls 5 [(0, .ref a_m), (1, .int p1)] := hl
  obtain ⟨hx, hb, hr, hml, hown, hts, hlk, hnw⟩ := id Cc
  unfold fX5_wets at hf
  refine lv_aload_n hx hb dX5_wets_0 rfl (lv_at hl 0 rfl) ?_
  refine lv_iload_n hx hb dX5_wets_1 rfl (lv_at hl 1 rfl) ?_
  obtain ⟨q2_1, hq1, hf⟩ := Option.bind_eq_some_iff.mp hf
  refine cV (ws' := (W_m cI cS a_m a_m_sorts a_m_sheetLong a_m_cells a_m_kind a_m_wet a_m_readKind a_m_readWet a_m_keptWet a_m_readCells a_m_readHours a_m_readCracked m_fault m_trace m_sorts m_sheetLong m_cells m_sun m_wide m_deep m_hour m_kind m_wet m_at m_readSun m_readWide m_readDeep m_readKind m_readWet m_keptWet m_keptSun m_openFirst m_planHours m_readings m_readCells m_readHours m_readCracked)) (rest := []) (st1 := [.int q2_1]) Cc hK hA hP hD hS hl.1 (ctX5_isCell l D cI cS a_m a_m_sorts a_m_sheetLong a_m_cells a_m_kind a_m_wet a_m_readKind a_m_readWet a_m_keptWet a_m_readCells a_m_readHours a_m_readCracked m_fault m_trace m_sorts m_sheetLong m_cells m_sun m_wide m_deep m_hour m_kind m_wet m_at m_readSun m_readWide m_readDeep m_readKind m_readWet m_keptWet m_keptSun m_openFirst m_planHours m_readings m_readCells m_readHours m_readCracked p1 n q2_1 hq1) ⟨tw_627, tw_624, tw_626, tp_18, tw_6⟩ mdX5_isCell ⟨rfl, rfl, Nat.le_of_ble_eq_true rfl, Nat.le_of_ble_eq_true rfl⟩ rfl dX5_wets_2 rfl (Nat.le_of_ble_eq_true rfl) ⟨Nat.zero_le _, Nat.zero_le _⟩ rfl rfl rfl [0, 1, 2, 3, 4, 5, 6, 7, 8, 9, 10, 11] [] [0, 1, 2, 3, 4, 5, 6, 7, 8, 9, 10, 11] rfl rfl (by decide) rfl (fun H locs hP hD hS => ?_)
  refine lv_if_ne (tgt := 10) hx hb dX5_wets_5 (by decide) (fun hc2 => ?_) (fun hc2 => ?_)
  · replace hf := (if_neg hc2).symm.trans hf
    refine lv_aload_n hx hb dX5_wets_10 rfl (lv_at hl 0 rfl) ?_
    refine va_get (D := D) (ci := 5) (v := .ref a_m_wet) (C := RX5) (T := TX5) (N := 25) hx hb hts inX5 hown hK hP 0 rfl rfl 10 (by decide) (hts _ tw_513) (fun _ h9 => h9) rfl dX5_wets_11 ?_
    refine lv_iload_n hx hb dX5_wets_14 rfl (lv_at hl 1 rfl) ?_
    obtain ⟨hin, hf⟩ := gd_some hf
    refine va_iald hx hb hK hP 5 0 rfl rfl hin dX5_wets_15 ?_
    refine lv_istore_n (lv' := [(2, .int (m_wet p1.toNatClampNeg)), (0, .ref a_m), (1, .int p1)]) hx hb dX5_wets_16 rfl hl (by decide) rfl (fun ls hl => ?_)
    refine lv_iconst (v := (0 : Int32)) hx hb dX5_wets_17 (by decide) ?_
    refine lv_istore_n (lv' := [(3, .int (0 : Int32)), (2, .int (m_wet p1.toNatClampNeg)), (0, .ref a_m), (1, .int p1)]) hx hb dX5_wets_18 rfl hl (by decide) rfl (fun ls hl => ?_)
    refine lv_iconst (v := (0 : Int32)) hx hb dX5_wets_19 (by decide) ?_
    refine lv_istore (lv' := [(4, .int (0 : Int32)), (3, .int (0 : Int32)), (2, .int (m_wet p1.toNatClampNeg)), (0, .ref a_m), (1, .int p1)]) hx hb dX5_wets_20 hl (by decide) rfl (fun ls hl => ?_)
    exact bX5_wets_22 a_m a_m_sorts a_m_sheetLong a_m_cells a_m_kind a_m_wet a_m_readKind a_m_readWet a_m_keptWet a_m_readCells a_m_readHours a_m_readCracked m_fault m_trace m_sorts m_sheetLong m_cells m_hour m_at m_readSun m_readWide m_readDeep m_readKind m_readWet m_keptWet m_keptSun m_openFirst m_planHours Cc hK hA n n _ _ _ _ _ _ _ _ _ _ _ _ _ _ _ hf _ _ _ hP hD hS (lv_sub hl [3, 4, 2, 1, 0] rfl)
  · replace hf := (if_pos hc2).symm.trans hf
    refine lv_iconst (v := (-1 : Int32)) hx hb dX5_wets_8 (by decide) ?_
    replace hf := Option.some.inj hf
    obtain ⟨er0, er1⟩ := Prod.mk.inj hf
    clear hf 
    subst er0
    subst er1
    exact rt_i Cc hK hP hD hS dX5_wets_9
-- X5_kinds
def fX5_kinds_22 (n : Nat) : Nat → Int32 → Int32 → Int32 → (Nat → Int32) → (Nat → Int32) → Int32 → (Nat → Int32) → (Nat → Int32) → (Nat → Int32) → Int32 → Int32 → Int32 → Int32 → Option (Int32 × (Nat → Int32))
  | 0, _, _, _, _, _, _, _, _, _, _, _, _, _ => none
  | k + 1, m_sun, m_wide, m_deep, m_kind, m_wet, m_readings, m_readCells, m_readHours, m_readCracked, x1, x2, x3, x4 => if (3 : Int32) ≤ x4 then gd x1 12 (some (x3, (upd m_kind x1.toNatClampNeg x2))) else gd x1 12 ((fX5_areSo n m_sun (upd m_kind x1.toNatClampNeg x4) m_wet m_readings m_readCells m_readHours m_readCracked).bind fun q38_1 => if q38_1 = 0 then fX5_kinds_22 n k m_sun m_wide m_deep (upd m_kind x1.toNatClampNeg x4) m_wet m_readings m_readCells m_readHours m_readCracked x1 x2 (x3 ||| (0 : Int32)) (x4 + 1) else fX5_kinds_22 n k m_sun m_wide m_deep (upd m_kind x1.toNatClampNeg x4) m_wet m_readings m_readCells m_readHours m_readCracked x1 x2 (x3 ||| ((1 : Int32) <<< (x4 &&& 31))) (x4 + 1))
def fX5_kinds (n : Nat) (m_sun : Int32) (m_wide : Int32) (m_deep : Int32) (m_kind : Nat → Int32) (m_wet : Nat → Int32) (m_readings : Int32) (m_readCells : Nat → Int32) (m_readHours : Nat → Int32) (m_readCracked : Nat → Int32) (p1 : Int32) : Option (Int32 × (Nat → Int32)) := (fX5_isCell n m_wide m_deep p1).bind fun q2_1 => if q2_1 = 0 then some ((-1 : Int32), m_kind) else gd p1 12 (fX5_kinds_22 n n m_sun m_wide m_deep m_kind m_wet m_readings m_readCells m_readHours m_readCracked p1 (m_kind p1.toNatClampNeg) (0 : Int32) (0 : Int32))
theorem mdX5_kinds : yX5_kinds.cls = RX5 ∧ yX5_kinds.cls ≠ "java/lang/invoke/MethodHandle" ∧ yX5_kinds.cls ≠ "java/lang/invoke/VarHandle" ∧ (parseMethodDescriptor yX5_kinds.desc).map (fun d => d.parameters.length) = some 1 := by decide +kernel
set_option maxHeartbeats 4000000 in
set_option maxRecDepth 100000 in
theorem bX5_kinds_22 {p : Program} {l : Launch} {e : Env} {s : State} {m : MethodId} {args : Array Value} {below : List Frame} {meth : Method} {c : Code} {A : Nat → Prop} {D : va_G} {cI cS : ClassId} (a_m a_m_sorts a_m_sheetLong a_m_cells a_m_kind a_m_wet a_m_readKind a_m_readWet a_m_keptWet a_m_readCells a_m_readHours a_m_readCracked : Nat) (m_fault : Int32) (m_trace : Int32) (m_sorts : Nat → Int32) (m_sheetLong : Nat → Int32) (m_cells : Nat → Int32) (m_hour : Int32) (m_at : Int32) (m_readSun : Int32) (m_readWide : Int32) (m_readDeep : Int32) (m_readKind : Nat → Int32) (m_readWet : Nat → Int32) (m_keptWet : Nat → Int32) (m_keptSun : Int32) (m_openFirst : Int32) (m_planHours : Int32) (Cc : Cx p s m args meth c RX5 cX5_kinds 5 (some .int)) (hK : va_K D classes (tysA cI cS) s) (hA : ∀ q, s.heap.size ≤ q → A q) (n : Nat) : ∀ (k : Nat) (m_sun : Int32) (m_wide : Int32) (m_deep : Int32) (m_kind : Nat → Int32) (m_wet : Nat → Int32) (m_readings : Int32) (m_readCells : Nat → Int32) (m_readHours : Nat → Int32) (m_readCracked : Nat → Int32) (x1 : Int32) (x2 : Int32) (x3 : Int32) (x4 : Int32) (r : Int32) (m_kind' : Nat → Int32), fX5_kinds_22 n k m_sun m_wide m_deep m_kind m_wet m_readings m_readCells m_readHours m_readCracked x1 x2 x3 x4 = some (r, m_kind') → ∀ (H : Heap) (locs : List Loc) (ls : Array Slot), va_P D classes (W_m cI cS a_m a_m_sorts a_m_sheetLong a_m_cells a_m_kind a_m_wet a_m_readKind a_m_readWet a_m_keptWet a_m_readCells a_m_readHours a_m_readCracked m_fault m_trace m_sorts m_sheetLong m_cells m_sun m_wide m_deep m_hour m_kind m_wet m_at m_readSun m_readWide m_readDeep m_readKind m_readWet m_keptWet m_keptSun m_openFirst m_planHours m_readings m_readCells m_readHours m_readCracked) H → va_D A (W_m cI cS a_m a_m_sorts a_m_sheetLong a_m_cells a_m_kind a_m_wet a_m_readKind a_m_readWet a_m_keptWet a_m_readCells a_m_readHours a_m_readCracked m_fault m_trace m_sorts m_sheetLong m_cells m_sun m_wide m_deep m_hour m_kind m_wet m_at m_readSun m_readWide m_readDeep m_readKind m_readWet m_keptWet m_keptSun m_openFirst m_planHours m_readings m_readCells m_readHours m_readCracked) → va_S A s.heap H locs → lv_has ls 5 [(0, .ref a_m), (1, .int x1), (2, .int x2), (3, .int x3), (4, .int x4)] → W p l e (Rm 3) s m args below meth c H locs 0 0 (MQ below (QW D (tysA cI cS) (some (.int r)) (W_m cI cS a_m a_m_sorts a_m_sheetLong a_m_cells a_m_kind a_m_wet a_m_readKind a_m_readWet a_m_keptWet a_m_readCells a_m_readHours a_m_readCracked m_fault m_trace m_sorts m_sheetLong m_cells m_sun m_wide m_deep m_hour m_kind' m_wet m_at m_readSun m_readWide m_readDeep m_readKind m_readWet m_keptWet m_keptSun m_openFirst m_planHours m_readings m_readCells m_readHours m_readCracked) A) args s 0 0 A) (F0 m 22 ls []) := by
  obtain ⟨hx, hb, hr, hml, hown, hts, hlk, hnw⟩ := id Cc
  intro k
  induction k with
  | zero =>
    intro m_sun m_wide m_deep m_kind m_wet m_readings m_readCells m_readHours m_readCracked x1 x2 x3 x4 r m_kind' hf
    rw [fX5_kinds_22] at hf
    cases hf
  | succ k ih =>
    intro m_sun m_wide m_deep m_kind m_wet m_readings m_readCells m_readHours m_readCracked x1 x2 x3 x4 r m_kind' hf H locs ls hP hD hS hl
    rw [fX5_kinds_22] at hf
    refine lv_iload hx hb dX5_kinds_22 (lv_at hl 4 rfl) ?_
    refine lv_iconst (v := (3 : Int32)) hx hb dX5_kinds_24 (by decide) ?_
    refine lv_icmp_ge (tgt := 60) hx hb dX5_kinds_25 (by decide) (fun hc3 => ?_) (fun hc3 => ?_)
    · replace hf := (if_pos hc3).symm.trans hf
      refine lv_aload_n hx hb dX5_kinds_60 rfl (lv_at hl 0 rfl) ?_
      refine va_get (D := D) (ci := 5) (v := .ref a_m_kind) (C := RX5) (T := TX5) (N := 25) hx hb hts inX5 hown hK hP 0 rfl rfl 9 (by decide) (hts _ tw_512) (fun _ h9 => h9) rfl dX5_kinds_61 ?_
      refine lv_iload_n hx hb dX5_kinds_64 rfl (lv_at hl 1 rfl) ?_
      refine lv_iload_n hx hb dX5_kinds_65 rfl (lv_at hl 2 rfl) ?_
      obtain ⟨hin, hf⟩ := gd_some hf
      refine va_iast hx hb hK hP hD hS 4 0 rfl rfl hin dX5_kinds_66 (fun H locs hP hD hS => ?_)
      have hP : va_P D classes (W_m cI cS a_m a_m_sorts a_m_sheetLong a_m_cells a_m_kind a_m_wet a_m_readKind a_m_readWet a_m_keptWet a_m_readCells a_m_readHours a_m_readCracked m_fault m_trace m_sorts m_sheetLong m_cells m_sun m_wide m_deep m_hour (upd m_kind x1.toNatClampNeg x2) m_wet m_at m_readSun m_readWide m_readDeep m_readKind m_readWet m_keptWet m_keptSun m_openFirst m_planHours m_readings m_readCells m_readHours m_readCracked) H := hP
      have hD : va_D A (W_m cI cS a_m a_m_sorts a_m_sheetLong a_m_cells a_m_kind a_m_wet a_m_readKind a_m_readWet a_m_keptWet a_m_readCells a_m_readHours a_m_readCracked m_fault m_trace m_sorts m_sheetLong m_cells m_sun m_wide m_deep m_hour (upd m_kind x1.toNatClampNeg x2) m_wet m_at m_readSun m_readWide m_readDeep m_readKind m_readWet m_keptWet m_keptSun m_openFirst m_planHours m_readings m_readCells m_readHours m_readCracked) := hD
      refine lv_iload_n hx hb dX5_kinds_67 rfl (lv_at hl 3 rfl) ?_
      replace hf := Option.some.inj hf
      obtain ⟨er0, er1⟩ := Prod.mk.inj hf
      clear hf 
      subst er0
      subst er1
      exact rt_i Cc hK hP hD hS dX5_kinds_68
    · replace hf := (if_neg hc3).symm.trans hf
      refine lv_aload_n hx hb dX5_kinds_28 rfl (lv_at hl 0 rfl) ?_
      refine va_get (D := D) (ci := 5) (v := .ref a_m_kind) (C := RX5) (T := TX5) (N := 25) hx hb hts inX5 hown hK hP 0 rfl rfl 9 (by decide) (hts _ tw_512) (fun _ h9 => h9) rfl dX5_kinds_29 ?_
      refine lv_iload_n hx hb dX5_kinds_32 rfl (lv_at hl 1 rfl) ?_
      refine lv_iload hx hb dX5_kinds_33 (lv_at hl 4 rfl) ?_
      obtain ⟨hin, hf⟩ := gd_some hf
      refine va_iast hx hb hK hP hD hS 4 0 rfl rfl hin dX5_kinds_35 (fun H locs hP hD hS => ?_)
      have hP : va_P D classes (W_m cI cS a_m a_m_sorts a_m_sheetLong a_m_cells a_m_kind a_m_wet a_m_readKind a_m_readWet a_m_keptWet a_m_readCells a_m_readHours a_m_readCracked m_fault m_trace m_sorts m_sheetLong m_cells m_sun m_wide m_deep m_hour (upd m_kind x1.toNatClampNeg x4) m_wet m_at m_readSun m_readWide m_readDeep m_readKind m_readWet m_keptWet m_keptSun m_openFirst m_planHours m_readings m_readCells m_readHours m_readCracked) H := hP
      have hD : va_D A (W_m cI cS a_m a_m_sorts a_m_sheetLong a_m_cells a_m_kind a_m_wet a_m_readKind a_m_readWet a_m_keptWet a_m_readCells a_m_readHours a_m_readCracked m_fault m_trace m_sorts m_sheetLong m_cells m_sun m_wide m_deep m_hour (upd m_kind x1.toNatClampNeg x4) m_wet m_at m_readSun m_readWide m_readDeep m_readKind m_readWet m_keptWet m_keptSun m_openFirst m_planHours m_readings m_readCells m_readHours m_readCracked) := hD
      refine lv_iload_n hx hb dX5_kinds_36 rfl (lv_at hl 3 rfl) ?_
      refine lv_aload_n hx hb dX5_kinds_37 rfl (lv_at hl 0 rfl) ?_
      obtain ⟨q38_1, hq4, hf⟩ := Option.bind_eq_some_iff.mp hf
      refine cV (ws' := (W_m cI cS a_m a_m_sorts a_m_sheetLong a_m_cells a_m_kind a_m_wet a_m_readKind a_m_readWet a_m_keptWet a_m_readCells a_m_readHours a_m_readCracked m_fault m_trace m_sorts m_sheetLong m_cells m_sun m_wide m_deep m_hour (upd m_kind x1.toNatClampNeg x4) m_wet m_at m_readSun m_readWide m_readDeep m_readKind m_readWet m_keptWet m_keptSun m_openFirst m_planHours m_readings m_readCells m_readHours m_readCracked)) (rest := [.int x3]) (st1 := [.int q38_1, .int x3]) Cc hK hA hP hD hS hl.1 (ctX5_areSo l D cI cS a_m a_m_sorts a_m_sheetLong a_m_cells a_m_kind a_m_wet a_m_readKind a_m_readWet a_m_keptWet a_m_readCells a_m_readHours a_m_readCracked m_fault m_trace m_sorts m_sheetLong m_cells m_sun m_wide m_deep m_hour (upd m_kind x1.toNatClampNeg x4) m_wet m_at m_readSun m_readWide m_readDeep m_readKind m_readWet m_keptWet m_keptSun m_openFirst m_planHours m_readings m_readCells m_readHours m_readCracked  n q38_1 hq4) ⟨tw_760, tw_757, tw_759, tp_35, tw_6⟩ mdX5_areSo ⟨rfl, rfl, Nat.le_of_ble_eq_true rfl, Nat.le_of_ble_eq_true rfl⟩ rfl dX5_kinds_38 rfl (Nat.le_of_ble_eq_true rfl) ⟨Nat.zero_le _, Nat.zero_le _⟩ rfl rfl rfl [0, 1, 2, 3, 4, 5, 6, 7, 8, 9, 10, 11] [] [0, 1, 2, 3, 4, 5, 6, 7, 8, 9, 10, 11] rfl rfl (by decide) rfl (fun H locs hP hD hS => ?_)
      refine lv_if_eq (tgt := 51) hx hb dX5_kinds_41 (by decide) (fun hc5 => ?_) (fun hc5 => ?_)
      · replace hf := (if_pos hc5).symm.trans hf
        refine lv_iconst (v := (0 : Int32)) hx hb dX5_kinds_51 (by decide) ?_
        refine lv_ior hx hb dX5_kinds_52 ?_
        refine lv_istore_n (lv' := [(3, .int (x3 ||| (0 : Int32))), (0, .ref a_m), (1, .int x1), (2, .int x2), (4, .int x4)]) hx hb dX5_kinds_53 rfl hl (by decide) rfl (fun ls hl => ?_)
        refine lv_iinc (v := (x4 + 1)) (lv' := [(4, .int (x4 + 1)), (3, .int (x3 ||| (0 : Int32))), (0, .ref a_m), (1, .int x1), (2, .int x2)]) hx hb dX5_kinds_54 hl (k := 4) rfl rfl (by decide) rfl (fun ls hl => ?_)
        refine lv_goto (tgt := 22) hx hb dX5_kinds_57 (by decide) ?_
        exact ih _ _ _ _ _ _ _ _ _ _ _ _ _ _ _ hf _ _ _ hP hD hS (lv_sub hl [2, 3, 4, 1, 0] rfl)
      · replace hf := (if_neg hc5).symm.trans hf
        refine lv_iconst (v := (1 : Int32)) hx hb dX5_kinds_44 (by decide) ?_
        refine lv_iload hx hb dX5_kinds_45 (lv_at hl 4 rfl) ?_
        refine lv_ishl hx hb dX5_kinds_47 ?_
        refine lv_goto (tgt := 52) hx hb dX5_kinds_48 (by decide) ?_
        refine lv_ior hx hb dX5_kinds_52 ?_
        refine lv_istore_n (lv' := [(3, .int (x3 ||| ((1 : Int32) <<< (x4 &&& 31)))), (0, .ref a_m), (1, .int x1), (2, .int x2), (4, .int x4)]) hx hb dX5_kinds_53 rfl hl (by decide) rfl (fun ls hl => ?_)
        refine lv_iinc (v := (x4 + 1)) (lv' := [(4, .int (x4 + 1)), (3, .int (x3 ||| ((1 : Int32) <<< (x4 &&& 31)))), (0, .ref a_m), (1, .int x1), (2, .int x2)]) hx hb dX5_kinds_54 hl (k := 4) rfl rfl (by decide) rfl (fun ls hl => ?_)
        refine lv_goto (tgt := 22) hx hb dX5_kinds_57 (by decide) ?_
        exact ih _ _ _ _ _ _ _ _ _ _ _ _ _ _ _ hf _ _ _ hP hD hS (lv_sub hl [2, 3, 4, 1, 0] rfl)
set_option maxHeartbeats 4000000 in
set_option maxRecDepth 100000 in
theorem ctX5_kinds (l : Launch) (D : va_G) (cI cS : ClassId) (a_m a_m_sorts a_m_sheetLong a_m_cells a_m_kind a_m_wet a_m_readKind a_m_readWet a_m_keptWet a_m_readCells a_m_readHours a_m_readCracked : Nat) (m_fault : Int32) (m_trace : Int32) (m_sorts : Nat → Int32) (m_sheetLong : Nat → Int32) (m_cells : Nat → Int32) (m_sun : Int32) (m_wide : Int32) (m_deep : Int32) (m_hour : Int32) (m_kind : Nat → Int32) (m_wet : Nat → Int32) (m_at : Int32) (m_readSun : Int32) (m_readWide : Int32) (m_readDeep : Int32) (m_readKind : Nat → Int32) (m_readWet : Nat → Int32) (m_keptWet : Nat → Int32) (m_keptSun : Int32) (m_openFirst : Int32) (m_planHours : Int32) (m_readings : Int32) (m_readCells : Nat → Int32) (m_readHours : Nat → Int32) (m_readCracked : Nat → Int32) (p1 : Int32) (n : Nat) (r : Int32) (m_kind' : Nat → Int32) (hf : fX5_kinds n m_sun m_wide m_deep m_kind m_wet m_readings m_readCells m_readHours m_readCracked p1 = some (r, m_kind')) : Ct l D (tysA cI cS) yX5_kinds cX5_kinds 5 (some .int) (Rm 3) [.ref a_m, .int p1] (W_m cI cS a_m a_m_sorts a_m_sheetLong a_m_cells a_m_kind a_m_wet a_m_readKind a_m_readWet a_m_keptWet a_m_readCells a_m_readHours a_m_readCracked m_fault m_trace m_sorts m_sheetLong m_cells m_sun m_wide m_deep m_hour m_kind m_wet m_at m_readSun m_readWide m_readDeep m_readKind m_readWet m_keptWet m_keptSun m_openFirst m_planHours m_readings m_readCells m_readHours m_readCracked) (some (.int r)) (W_m cI cS a_m a_m_sorts a_m_sheetLong a_m_cells a_m_kind a_m_wet a_m_readKind a_m_readWet a_m_keptWet a_m_readCells a_m_readHours a_m_readCracked m_fault m_trace m_sorts m_sheetLong m_cells m_sun m_wide m_deep m_hour m_kind' m_wet m_at m_readSun m_readWide m_readDeep m_readKind m_readWet m_keptWet m_keptSun m_openFirst m_planHours m_readings m_readCells m_readHours m_readCracked) := by
  refine Ct_of (by decide) (Nat.le_of_ble_eq_true rfl) ?_
  intro p e s m args below meth c A ls Cc hK hA hP hD hS hl
  have hl : lv_has ls 5 [(0, .ref a_m), (1, .int p1)] := hl
  obtain ⟨hx, hb, hr, hml, hown, hts, hlk, hnw⟩ := id Cc
  unfold fX5_kinds at hf
  refine lv_aload_n hx hb dX5_kinds_0 rfl (lv_at hl 0 rfl) ?_
  refine lv_iload_n hx hb dX5_kinds_1 rfl (lv_at hl 1 rfl) ?_
  obtain ⟨q2_1, hq1, hf⟩ := Option.bind_eq_some_iff.mp hf
  refine cV (ws' := (W_m cI cS a_m a_m_sorts a_m_sheetLong a_m_cells a_m_kind a_m_wet a_m_readKind a_m_readWet a_m_keptWet a_m_readCells a_m_readHours a_m_readCracked m_fault m_trace m_sorts m_sheetLong m_cells m_sun m_wide m_deep m_hour m_kind m_wet m_at m_readSun m_readWide m_readDeep m_readKind m_readWet m_keptWet m_keptSun m_openFirst m_planHours m_readings m_readCells m_readHours m_readCracked)) (rest := []) (st1 := [.int q2_1]) Cc hK hA hP hD hS hl.1 (ctX5_isCell l D cI cS a_m a_m_sorts a_m_sheetLong a_m_cells a_m_kind a_m_wet a_m_readKind a_m_readWet a_m_keptWet a_m_readCells a_m_readHours a_m_readCracked m_fault m_trace m_sorts m_sheetLong m_cells m_sun m_wide m_deep m_hour m_kind m_wet m_at m_readSun m_readWide m_readDeep m_readKind m_readWet m_keptWet m_keptSun m_openFirst m_planHours m_readings m_readCells m_readHours m_readCracked p1 n q2_1 hq1) ⟨tw_627, tw_624, tw_626, tp_18, tw_6⟩ mdX5_isCell ⟨rfl, rfl, Nat.le_of_ble_eq_true rfl, Nat.le_of_ble_eq_true rfl⟩ rfl dX5_kinds_2 rfl (Nat.le_of_ble_eq_true rfl) ⟨Nat.zero_le _, Nat.zero_le _⟩ rfl rfl rfl [0, 1, 2, 3, 4, 5, 6, 7, 8, 9, 10, 11] [] [0, 1, 2, 3, 4, 5, 6, 7, 8, 9, 10, 11] rfl rfl (by decide) rfl (fun H locs hP hD hS => ?_)
  refine lv_if_ne (tgt := 10) hx hb dX5_kinds_5 (by decide) (fun hc2 => ?_) (fun hc2 => ?_)
  · replace hf := (if_neg hc2).symm.trans hf
    refine lv_aload_n hx hb dX5_kinds_10 rfl (lv_at hl 0 rfl) ?_
    refine va_get (D := D) (ci := 5) (v := .ref a_m_kind) (C := RX5) (T := TX5) (N := 25) hx hb hts inX5 hown hK hP 0 rfl rfl 9 (by decide) (hts _ tw_512) (fun _ h9 => h9) rfl dX5_kinds_11 ?_
    refine lv_iload_n hx hb dX5_kinds_14 rfl (lv_at hl 1 rfl) ?_
    obtain ⟨hin, hf⟩ := gd_some hf
    refine va_iald hx hb hK hP 4 0 rfl rfl hin dX5_kinds_15 ?_
    refine lv_istore_n (lv' := [(2, .int (m_kind p1.toNatClampNeg)), (0, .ref a_m), (1, .int p1)]) hx hb dX5_kinds_16 rfl hl (by decide) rfl (fun ls hl => ?_)
    refine lv_iconst (v := (0 : Int32)) hx hb dX5_kinds_17 (by decide) ?_
    refine lv_istore_n (lv' := [(3, .int (0 : Int32)), (2, .int (m_kind p1.toNatClampNeg)), (0, .ref a_m), (1, .int p1)]) hx hb dX5_kinds_18 rfl hl (by decide) rfl (fun ls hl => ?_)
    refine lv_iconst (v := (0 : Int32)) hx hb dX5_kinds_19 (by decide) ?_
    refine lv_istore (lv' := [(4, .int (0 : Int32)), (3, .int (0 : Int32)), (2, .int (m_kind p1.toNatClampNeg)), (0, .ref a_m), (1, .int p1)]) hx hb dX5_kinds_20 hl (by decide) rfl (fun ls hl => ?_)
    exact bX5_kinds_22 a_m a_m_sorts a_m_sheetLong a_m_cells a_m_kind a_m_wet a_m_readKind a_m_readWet a_m_keptWet a_m_readCells a_m_readHours a_m_readCracked m_fault m_trace m_sorts m_sheetLong m_cells m_hour m_at m_readSun m_readWide m_readDeep m_readKind m_readWet m_keptWet m_keptSun m_openFirst m_planHours Cc hK hA n n _ _ _ _ _ _ _ _ _ _ _ _ _ _ _ hf _ _ _ hP hD hS (lv_sub hl [3, 4, 2, 1, 0] rfl)
  · replace hf := (if_pos hc2).symm.trans hf
    refine lv_iconst (v := (-1 : Int32)) hx hb dX5_kinds_8 (by decide) ?_
    replace hf := Option.some.inj hf
    obtain ⟨er0, er1⟩ := Prod.mk.inj hf
    clear hf 
    subst er0
    subst er1
    exact rt_i Cc hK hP hD hS dX5_kinds_9
-- X5_suns
def fX5_suns_19 (n : Nat) : Nat → Int32 → Int32 → (Nat → Int32) → (Nat → Int32) → Int32 → (Nat → Int32) → (Nat → Int32) → (Nat → Int32) → Int32 → Int32 → Int32 → Option (Int32 × Int32)
  | 0, _, _, _, _, _, _, _, _, _, _, _ => none
  | k + 1, m_sun, m_wide, m_kind, m_wet, m_readings, m_readCells, m_readHours, m_readCracked, x1, x2, x3 => if (9 : Int32) < x3 then some (x2, x1) else (fX5_areSo n x3 m_kind m_wet m_readings m_readCells m_readHours m_readCracked).bind fun q32_1 => if q32_1 = 0 then fX5_suns_19 n k x3 m_wide m_kind m_wet m_readings m_readCells m_readHours m_readCracked x1 (x2 ||| (0 : Int32)) (x3 + 1) else fX5_suns_19 n k x3 m_wide m_kind m_wet m_readings m_readCells m_readHours m_readCracked x1 (x2 ||| ((1 : Int32) <<< (x3 &&& 31))) (x3 + 1)
def fX5_suns (n : Nat) (m_sun : Int32) (m_wide : Int32) (m_kind : Nat → Int32) (m_wet : Nat → Int32) (m_readings : Int32) (m_readCells : Nat → Int32) (m_readHours : Nat → Int32) (m_readCracked : Nat → Int32)  : Option (Int32 × Int32) := if m_wide = 0 then some ((-3 : Int32), m_sun) else fX5_suns_19 n n m_sun m_wide m_kind m_wet m_readings m_readCells m_readHours m_readCracked m_sun (0 : Int32) (0 : Int32)
theorem mdX5_suns : yX5_suns.cls = RX5 ∧ yX5_suns.cls ≠ "java/lang/invoke/MethodHandle" ∧ yX5_suns.cls ≠ "java/lang/invoke/VarHandle" ∧ (parseMethodDescriptor yX5_suns.desc).map (fun d => d.parameters.length) = some 0 := by decide +kernel
set_option maxHeartbeats 4000000 in
set_option maxRecDepth 100000 in
theorem bX5_suns_19 {p : Program} {l : Launch} {e : Env} {s : State} {m : MethodId} {args : Array Value} {below : List Frame} {meth : Method} {c : Code} {A : Nat → Prop} {D : va_G} {cI cS : ClassId} (a_m a_m_sorts a_m_sheetLong a_m_cells a_m_kind a_m_wet a_m_readKind a_m_readWet a_m_keptWet a_m_readCells a_m_readHours a_m_readCracked : Nat) (m_fault : Int32) (m_trace : Int32) (m_sorts : Nat → Int32) (m_sheetLong : Nat → Int32) (m_cells : Nat → Int32) (m_deep : Int32) (m_hour : Int32) (m_at : Int32) (m_readSun : Int32) (m_readWide : Int32) (m_readDeep : Int32) (m_readKind : Nat → Int32) (m_readWet : Nat → Int32) (m_keptWet : Nat → Int32) (m_keptSun : Int32) (m_openFirst : Int32) (m_planHours : Int32) (Cc : Cx p s m args meth c RX5 cX5_suns 4 (some .int)) (hK : va_K D classes (tysA cI cS) s) (hA : ∀ q, s.heap.size ≤ q → A q) (n : Nat) : ∀ (k : Nat) (m_sun : Int32) (m_wide : Int32) (m_kind : Nat → Int32) (m_wet : Nat → Int32) (m_readings : Int32) (m_readCells : Nat → Int32) (m_readHours : Nat → Int32) (m_readCracked : Nat → Int32) (x1 : Int32) (x2 : Int32) (x3 : Int32) (r : Int32) (m_sun' : Int32), fX5_suns_19 n k m_sun m_wide m_kind m_wet m_readings m_readCells m_readHours m_readCracked x1 x2 x3 = some (r, m_sun') → ∀ (H : Heap) (locs : List Loc) (ls : Array Slot), va_P D classes (W_m cI cS a_m a_m_sorts a_m_sheetLong a_m_cells a_m_kind a_m_wet a_m_readKind a_m_readWet a_m_keptWet a_m_readCells a_m_readHours a_m_readCracked m_fault m_trace m_sorts m_sheetLong m_cells m_sun m_wide m_deep m_hour m_kind m_wet m_at m_readSun m_readWide m_readDeep m_readKind m_readWet m_keptWet m_keptSun m_openFirst m_planHours m_readings m_readCells m_readHours m_readCracked) H → va_D A (W_m cI cS a_m a_m_sorts a_m_sheetLong a_m_cells a_m_kind a_m_wet a_m_readKind a_m_readWet a_m_keptWet a_m_readCells a_m_readHours a_m_readCracked m_fault m_trace m_sorts m_sheetLong m_cells m_sun m_wide m_deep m_hour m_kind m_wet m_at m_readSun m_readWide m_readDeep m_readKind m_readWet m_keptWet m_keptSun m_openFirst m_planHours m_readings m_readCells m_readHours m_readCracked) → va_S A s.heap H locs → lv_has ls 4 [(0, .ref a_m), (1, .int x1), (2, .int x2), (3, .int x3)] → W p l e (Rm 3) s m args below meth c H locs 0 0 (MQ below (QW D (tysA cI cS) (some (.int r)) (W_m cI cS a_m a_m_sorts a_m_sheetLong a_m_cells a_m_kind a_m_wet a_m_readKind a_m_readWet a_m_keptWet a_m_readCells a_m_readHours a_m_readCracked m_fault m_trace m_sorts m_sheetLong m_cells m_sun' m_wide m_deep m_hour m_kind m_wet m_at m_readSun m_readWide m_readDeep m_readKind m_readWet m_keptWet m_keptSun m_openFirst m_planHours m_readings m_readCells m_readHours m_readCracked) A) args s 0 0 A) (F0 m 19 ls []) := by
  obtain ⟨hx, hb, hr, hml, hown, hts, hlk, hnw⟩ := id Cc
  intro k
  induction k with
  | zero =>
    intro m_sun m_wide m_kind m_wet m_readings m_readCells m_readHours m_readCracked x1 x2 x3 r m_sun' hf
    rw [fX5_suns_19] at hf
    cases hf
  | succ k ih =>
    intro m_sun m_wide m_kind m_wet m_readings m_readCells m_readHours m_readCracked x1 x2 x3 r m_sun' hf H locs ls hP hD hS hl
    rw [fX5_suns_19] at hf
    refine lv_iload_n hx hb dX5_suns_19 rfl (lv_at hl 3 rfl) ?_
    refine lv_bipush (v := (9 : Int32)) hx hb dX5_suns_20 (by decide) ?_
    refine lv_icmp_gt (tgt := 53) hx hb dX5_suns_22 (by decide) (fun hc2 => ?_) (fun hc2 => ?_)
    · replace hf := (if_pos hc2).symm.trans hf
      refine lv_aload_n hx hb dX5_suns_53 rfl (lv_at hl 0 rfl) ?_
      refine lv_iload_n hx hb dX5_suns_54 rfl (lv_at hl 1 rfl) ?_
      refine va_put (D := D) (ci := 5) (v := .int x1) (ty := .int) (C := RX5) (T := TX5) (N := 25) hx hb hts inX5 tyX5 tyX5_ok nmX5 hown hK hP hD hS 0 rfl rfl 5 (by decide) (hts _ tw_508) (fun _ h9 => h9) rfl (tyX5_ok 5 (by decide)) rfl rfl (Nat.le_of_ble_eq_true rfl) dX5_suns_55 (fun H locs hP hD hS => ?_)
      have hP : va_P D classes (W_m cI cS a_m a_m_sorts a_m_sheetLong a_m_cells a_m_kind a_m_wet a_m_readKind a_m_readWet a_m_keptWet a_m_readCells a_m_readHours a_m_readCracked m_fault m_trace m_sorts m_sheetLong m_cells x1 m_wide m_deep m_hour m_kind m_wet m_at m_readSun m_readWide m_readDeep m_readKind m_readWet m_keptWet m_keptSun m_openFirst m_planHours m_readings m_readCells m_readHours m_readCracked) H := hP
      have hD : va_D A (W_m cI cS a_m a_m_sorts a_m_sheetLong a_m_cells a_m_kind a_m_wet a_m_readKind a_m_readWet a_m_keptWet a_m_readCells a_m_readHours a_m_readCracked m_fault m_trace m_sorts m_sheetLong m_cells x1 m_wide m_deep m_hour m_kind m_wet m_at m_readSun m_readWide m_readDeep m_readKind m_readWet m_keptWet m_keptSun m_openFirst m_planHours m_readings m_readCells m_readHours m_readCracked) := hD
      refine lv_iload_n hx hb dX5_suns_58 rfl (lv_at hl 2 rfl) ?_
      replace hf := Option.some.inj hf
      obtain ⟨er0, er1⟩ := Prod.mk.inj hf
      clear hf 
      subst er0
      subst er1
      exact rt_i Cc hK hP hD hS dX5_suns_59
    · replace hf := (if_neg hc2).symm.trans hf
      refine lv_aload_n hx hb dX5_suns_25 rfl (lv_at hl 0 rfl) ?_
      refine lv_iload_n hx hb dX5_suns_26 rfl (lv_at hl 3 rfl) ?_
      refine va_put (D := D) (ci := 5) (v := .int x3) (ty := .int) (C := RX5) (T := TX5) (N := 25) hx hb hts inX5 tyX5 tyX5_ok nmX5 hown hK hP hD hS 0 rfl rfl 5 (by decide) (hts _ tw_508) (fun _ h9 => h9) rfl (tyX5_ok 5 (by decide)) rfl rfl (Nat.le_of_ble_eq_true rfl) dX5_suns_27 (fun H locs hP hD hS => ?_)
      have hP : va_P D classes (W_m cI cS a_m a_m_sorts a_m_sheetLong a_m_cells a_m_kind a_m_wet a_m_readKind a_m_readWet a_m_keptWet a_m_readCells a_m_readHours a_m_readCracked m_fault m_trace m_sorts m_sheetLong m_cells x3 m_wide m_deep m_hour m_kind m_wet m_at m_readSun m_readWide m_readDeep m_readKind m_readWet m_keptWet m_keptSun m_openFirst m_planHours m_readings m_readCells m_readHours m_readCracked) H := hP
      have hD : va_D A (W_m cI cS a_m a_m_sorts a_m_sheetLong a_m_cells a_m_kind a_m_wet a_m_readKind a_m_readWet a_m_keptWet a_m_readCells a_m_readHours a_m_readCracked m_fault m_trace m_sorts m_sheetLong m_cells x3 m_wide m_deep m_hour m_kind m_wet m_at m_readSun m_readWide m_readDeep m_readKind m_readWet m_keptWet m_keptSun m_openFirst m_planHours m_readings m_readCells m_readHours m_readCracked) := hD
      refine lv_iload_n hx hb dX5_suns_30 rfl (lv_at hl 2 rfl) ?_
      refine lv_aload_n hx hb dX5_suns_31 rfl (lv_at hl 0 rfl) ?_
      obtain ⟨q32_1, hq3, hf⟩ := Option.bind_eq_some_iff.mp hf
      refine cV (ws' := (W_m cI cS a_m a_m_sorts a_m_sheetLong a_m_cells a_m_kind a_m_wet a_m_readKind a_m_readWet a_m_keptWet a_m_readCells a_m_readHours a_m_readCracked m_fault m_trace m_sorts m_sheetLong m_cells x3 m_wide m_deep m_hour m_kind m_wet m_at m_readSun m_readWide m_readDeep m_readKind m_readWet m_keptWet m_keptSun m_openFirst m_planHours m_readings m_readCells m_readHours m_readCracked)) (rest := [.int x2]) (st1 := [.int q32_1, .int x2]) Cc hK hA hP hD hS hl.1 (ctX5_areSo l D cI cS a_m a_m_sorts a_m_sheetLong a_m_cells a_m_kind a_m_wet a_m_readKind a_m_readWet a_m_keptWet a_m_readCells a_m_readHours a_m_readCracked m_fault m_trace m_sorts m_sheetLong m_cells x3 m_wide m_deep m_hour m_kind m_wet m_at m_readSun m_readWide m_readDeep m_readKind m_readWet m_keptWet m_keptSun m_openFirst m_planHours m_readings m_readCells m_readHours m_readCracked  n q32_1 hq3) ⟨tw_760, tw_757, tw_759, tp_35, tw_6⟩ mdX5_areSo ⟨rfl, rfl, Nat.le_of_ble_eq_true rfl, Nat.le_of_ble_eq_true rfl⟩ rfl dX5_suns_32 rfl (Nat.le_of_ble_eq_true rfl) ⟨Nat.zero_le _, Nat.zero_le _⟩ rfl rfl rfl [0, 1, 2, 3, 4, 5, 6, 7, 8, 9, 10, 11] [] [0, 1, 2, 3, 4, 5, 6, 7, 8, 9, 10, 11] rfl rfl (by decide) rfl (fun H locs hP hD hS => ?_)
      refine lv_if_eq (tgt := 44) hx hb dX5_suns_35 (by decide) (fun hc4 => ?_) (fun hc4 => ?_)
      · replace hf := (if_pos hc4).symm.trans hf
        refine lv_iconst (v := (0 : Int32)) hx hb dX5_suns_44 (by decide) ?_
        refine lv_ior hx hb dX5_suns_45 ?_
        refine lv_istore_n (lv' := [(2, .int (x2 ||| (0 : Int32))), (0, .ref a_m), (1, .int x1), (3, .int x3)]) hx hb dX5_suns_46 rfl hl (by decide) rfl (fun ls hl => ?_)
        refine lv_iinc (v := (x3 + 1)) (lv' := [(3, .int (x3 + 1)), (2, .int (x2 ||| (0 : Int32))), (0, .ref a_m), (1, .int x1)]) hx hb dX5_suns_47 hl (k := 3) rfl rfl (by decide) rfl (fun ls hl => ?_)
        refine lv_goto (tgt := 19) hx hb dX5_suns_50 (by decide) ?_
        exact ih _ _ _ _ _ _ _ _ _ _ _ _ _ hf _ _ _ hP hD hS (lv_sub hl [2, 3, 1, 0] rfl)
      · replace hf := (if_neg hc4).symm.trans hf
        refine lv_iconst (v := (1 : Int32)) hx hb dX5_suns_38 (by decide) ?_
        refine lv_iload_n hx hb dX5_suns_39 rfl (lv_at hl 3 rfl) ?_
        refine lv_ishl hx hb dX5_suns_40 ?_
        refine lv_goto (tgt := 45) hx hb dX5_suns_41 (by decide) ?_
        refine lv_ior hx hb dX5_suns_45 ?_
        refine lv_istore_n (lv' := [(2, .int (x2 ||| ((1 : Int32) <<< (x3 &&& 31)))), (0, .ref a_m), (1, .int x1), (3, .int x3)]) hx hb dX5_suns_46 rfl hl (by decide) rfl (fun ls hl => ?_)
        refine lv_iinc (v := (x3 + 1)) (lv' := [(3, .int (x3 + 1)), (2, .int (x2 ||| ((1 : Int32) <<< (x3 &&& 31)))), (0, .ref a_m), (1, .int x1)]) hx hb dX5_suns_47 hl (k := 3) rfl rfl (by decide) rfl (fun ls hl => ?_)
        refine lv_goto (tgt := 19) hx hb dX5_suns_50 (by decide) ?_
        exact ih _ _ _ _ _ _ _ _ _ _ _ _ _ hf _ _ _ hP hD hS (lv_sub hl [2, 3, 1, 0] rfl)
set_option maxHeartbeats 4000000 in
set_option maxRecDepth 100000 in
theorem ctX5_suns (l : Launch) (D : va_G) (cI cS : ClassId) (a_m a_m_sorts a_m_sheetLong a_m_cells a_m_kind a_m_wet a_m_readKind a_m_readWet a_m_keptWet a_m_readCells a_m_readHours a_m_readCracked : Nat) (m_fault : Int32) (m_trace : Int32) (m_sorts : Nat → Int32) (m_sheetLong : Nat → Int32) (m_cells : Nat → Int32) (m_sun : Int32) (m_wide : Int32) (m_deep : Int32) (m_hour : Int32) (m_kind : Nat → Int32) (m_wet : Nat → Int32) (m_at : Int32) (m_readSun : Int32) (m_readWide : Int32) (m_readDeep : Int32) (m_readKind : Nat → Int32) (m_readWet : Nat → Int32) (m_keptWet : Nat → Int32) (m_keptSun : Int32) (m_openFirst : Int32) (m_planHours : Int32) (m_readings : Int32) (m_readCells : Nat → Int32) (m_readHours : Nat → Int32) (m_readCracked : Nat → Int32)  (n : Nat) (r : Int32) (m_sun' : Int32) (hf : fX5_suns n m_sun m_wide m_kind m_wet m_readings m_readCells m_readHours m_readCracked  = some (r, m_sun')) : Ct l D (tysA cI cS) yX5_suns cX5_suns 4 (some .int) (Rm 3) [.ref a_m] (W_m cI cS a_m a_m_sorts a_m_sheetLong a_m_cells a_m_kind a_m_wet a_m_readKind a_m_readWet a_m_keptWet a_m_readCells a_m_readHours a_m_readCracked m_fault m_trace m_sorts m_sheetLong m_cells m_sun m_wide m_deep m_hour m_kind m_wet m_at m_readSun m_readWide m_readDeep m_readKind m_readWet m_keptWet m_keptSun m_openFirst m_planHours m_readings m_readCells m_readHours m_readCracked) (some (.int r)) (W_m cI cS a_m a_m_sorts a_m_sheetLong a_m_cells a_m_kind a_m_wet a_m_readKind a_m_readWet a_m_keptWet a_m_readCells a_m_readHours a_m_readCracked m_fault m_trace m_sorts m_sheetLong m_cells m_sun' m_wide m_deep m_hour m_kind m_wet m_at m_readSun m_readWide m_readDeep m_readKind m_readWet m_keptWet m_keptSun m_openFirst m_planHours m_readings m_readCells m_readHours m_readCracked) := by
  refine Ct_of (by decide) (Nat.le_of_ble_eq_true rfl) ?_
  intro p e s m args below meth c A ls Cc hK hA hP hD hS hl
  have hl : lv_has ls 4 [(0, .ref a_m)] := hl
  obtain ⟨hx, hb, hr, hml, hown, hts, hlk, hnw⟩ := id Cc
  unfold fX5_suns at hf
  refine lv_aload_n hx hb dX5_suns_0 rfl (lv_at hl 0 rfl) ?_
  refine va_get (D := D) (ci := 5) (v := .int m_wide) (C := RX5) (T := TX5) (N := 25) hx hb hts inX5 hown hK hP 0 rfl rfl 6 (by decide) (hts _ tw_509) (fun _ h9 => h9) rfl dX5_suns_1 ?_
  refine lv_if_ne (tgt := 10) hx hb dX5_suns_4 (by decide) (fun hc1 => ?_) (fun hc1 => ?_)
  · replace hf := (if_neg hc1).symm.trans hf
    refine lv_aload_n hx hb dX5_suns_10 rfl (lv_at hl 0 rfl) ?_
    refine va_get (D := D) (ci := 5) (v := .int m_sun) (C := RX5) (T := TX5) (N := 25) hx hb hts inX5 hown hK hP 0 rfl rfl 5 (by decide) (hts _ tw_508) (fun _ h9 => h9) rfl dX5_suns_11 ?_
    refine lv_istore_n (lv' := [(1, .int m_sun), (0, .ref a_m)]) hx hb dX5_suns_14 rfl hl (by decide) rfl (fun ls hl => ?_)
    refine lv_iconst (v := (0 : Int32)) hx hb dX5_suns_15 (by decide) ?_
    refine lv_istore_n (lv' := [(2, .int (0 : Int32)), (1, .int m_sun), (0, .ref a_m)]) hx hb dX5_suns_16 rfl hl (by decide) rfl (fun ls hl => ?_)
    refine lv_iconst (v := (0 : Int32)) hx hb dX5_suns_17 (by decide) ?_
    refine lv_istore_n (lv' := [(3, .int (0 : Int32)), (2, .int (0 : Int32)), (1, .int m_sun), (0, .ref a_m)]) hx hb dX5_suns_18 rfl hl (by decide) rfl (fun ls hl => ?_)
    exact bX5_suns_19 a_m a_m_sorts a_m_sheetLong a_m_cells a_m_kind a_m_wet a_m_readKind a_m_readWet a_m_keptWet a_m_readCells a_m_readHours a_m_readCracked m_fault m_trace m_sorts m_sheetLong m_cells m_deep m_hour m_at m_readSun m_readWide m_readDeep m_readKind m_readWet m_keptWet m_keptSun m_openFirst m_planHours Cc hK hA n n _ _ _ _ _ _ _ _ _ _ _ _ _ hf _ _ _ hP hD hS (lv_sub hl [3, 2, 1, 0] rfl)
  · replace hf := (if_pos hc1).symm.trans hf
    refine lv_bipush (v := (-3 : Int32)) hx hb dX5_suns_7 (by decide) ?_
    replace hf := Option.some.inj hf
    obtain ⟨er0, er1⟩ := Prod.mk.inj hf
    clear hf 
    subst er0
    subst er1
    exact rt_i Cc hK hP hD hS dX5_suns_9
-- X5_inLeastTerms
def fX5_inLeastTerms_6 (n : Nat) : Nat → Int64 → Int64 → Int32 → Int64 → Int64 → Option (Int64)
  | 0, _, _, _, _, _ => none
  | k + 1, x0, x2, x4, x5, x7 => if (lg_cmp x7 (0 : Int64)) = 0 then if x4 = 0 then nzl x5 (some ((x0 / x5))) else nzl x5 (some ((x2 / x5))) else nzl x7 (fX5_inLeastTerms_6 n k x0 x2 x4 x7 (x5 - x5 / x7 * x7))
def fX5_inLeastTerms (n : Nat)  (p0 : Int64) (p2 : Int64) (p4 : Int32) : Option (Int64) := fX5_inLeastTerms_6 n n p0 p2 p4 p0 p2
theorem mdX5_inLeastTerms : yX5_inLeastTerms.cls ≠ "java/lang/invoke/MethodHandle" ∧ yX5_inLeastTerms.cls ≠ "java/lang/invoke/VarHandle" ∧ (parseMethodDescriptor yX5_inLeastTerms.desc).map (fun d => d.parameters.length) = some 3 := by decide +kernel
set_option maxHeartbeats 4000000 in
set_option maxRecDepth 100000 in
theorem bX5_inLeastTerms_6 {p : Program} {l : Launch} {e : Env} {s : State} {m : MethodId} {args : Array Value} {below : List Frame} {meth : Method} {c : Code} {A : Nat → Prop} {D : va_G} {cI cS : ClassId} (Cc : Cx p s m args meth c RX5 cX5_inLeastTerms 11 (some .long)) (hK : va_K D classes (tysA cI cS) s) (hA : ∀ q, s.heap.size ≤ q → A q) (n : Nat) : ∀ (k : Nat) (x0 : Int64) (x2 : Int64) (x4 : Int32) (x5 : Int64) (x7 : Int64) (r : Int64), fX5_inLeastTerms_6 n k x0 x2 x4 x5 x7 = some (r) → ∀ (H : Heap) (locs : List Loc) (ls : Array Slot), va_P D classes (W_0 cI cS) H → va_D A (W_0 cI cS) → va_S A s.heap H locs → lv_has ls 11 [(0, .long x0), (2, .long x2), (4, .int x4), (5, .long x5), (7, .long x7)] → W p l e (Rm 0) s m args below meth c H locs 0 0 (MQ below (QW D (tysA cI cS) (some (.long r)) (W_0 cI cS) A) args s 0 0 A) (F0 m 6 ls []) := by
  obtain ⟨hx, hb, hr, hml, hown, hts, hlk, hnw⟩ := id Cc
  intro k
  induction k with
  | zero =>
    intro x0 x2 x4 x5 x7 r hf
    rw [fX5_inLeastTerms_6] at hf
    cases hf
  | succ k ih =>
    intro x0 x2 x4 x5 x7 r hf H locs ls hP hD hS hl
    rw [fX5_inLeastTerms_6] at hf
    refine lv_lload hx hb dX5_inLeastTerms_6 (lv_at hl 4 rfl) ?_
    refine lv_lconst (v := 0) hx hb dX5_inLeastTerms_8 (by decide) ?_
    refine W.lcmp hx hb dX5_inLeastTerms_9 ?_
    refine lv_if_eq (tgt := 31) hx hb dX5_inLeastTerms_10 (by decide) (fun hc1 => ?_) (fun hc1 => ?_)
    · replace hf := (if_pos hc1).symm.trans hf
      refine lv_iload hx hb dX5_inLeastTerms_31 (lv_at hl 2 rfl) ?_
      refine lv_if_ne (tgt := 43) hx hb dX5_inLeastTerms_33 (by decide) (fun hc2 => ?_) (fun hc2 => ?_)
      · replace hf := (if_neg hc2).symm.trans hf
        refine lv_lload_n hx hb dX5_inLeastTerms_43 rfl (lv_at hl 1 rfl) ?_
        refine lv_lload hx hb dX5_inLeastTerms_44 (lv_at hl 3 rfl) ?_
        obtain ⟨hz, hf⟩ := nzl_some hf
        refine lv_ldiv hx hb dX5_inLeastTerms_46 hz ?_
        obtain rfl := Option.some.inj hf
        exact rt_l Cc hK hP hD hS dX5_inLeastTerms_47
      · replace hf := (if_pos hc2).symm.trans hf
        refine lv_lload_n hx hb dX5_inLeastTerms_36 rfl (lv_at hl 0 rfl) ?_
        refine lv_lload hx hb dX5_inLeastTerms_37 (lv_at hl 3 rfl) ?_
        obtain ⟨hz, hf⟩ := nzl_some hf
        refine lv_ldiv hx hb dX5_inLeastTerms_39 hz ?_
        refine lv_goto (tgt := 47) hx hb dX5_inLeastTerms_40 (by decide) ?_
        obtain rfl := Option.some.inj hf
        exact rt_l Cc hK hP hD hS dX5_inLeastTerms_47
    · replace hf := (if_neg hc1).symm.trans hf
      refine lv_lload hx hb dX5_inLeastTerms_13 (lv_at hl 3 rfl) ?_
      refine lv_lload hx hb dX5_inLeastTerms_15 (lv_at hl 4 rfl) ?_
      obtain ⟨hz, hf⟩ := nzl_some hf
      refine lv_lrem hx hb dX5_inLeastTerms_17 hz ?_
      refine lv_lstore (lv' := [(9, .long (x5 - x5 / x7 * x7)), (0, .long x0), (2, .long x2), (4, .int x4), (5, .long x5), (7, .long x7)]) hx hb dX5_inLeastTerms_18 hl (by decide) rfl (fun ls hl => ?_)
      refine lv_lload hx hb dX5_inLeastTerms_20 (lv_at hl 5 rfl) ?_
      refine lv_lstore (lv' := [(5, .long x7), (9, .long (x5 - x5 / x7 * x7)), (0, .long x0), (2, .long x2), (4, .int x4), (7, .long x7)]) hx hb dX5_inLeastTerms_22 hl (by decide) rfl (fun ls hl => ?_)
      refine lv_lload hx hb dX5_inLeastTerms_24 (lv_at hl 1 rfl) ?_
      refine lv_lstore (lv' := [(7, .long (x5 - x5 / x7 * x7)), (5, .long x7), (9, .long (x5 - x5 / x7 * x7)), (0, .long x0), (2, .long x2), (4, .int x4)]) hx hb dX5_inLeastTerms_26 hl (by decide) rfl (fun ls hl => ?_)
      refine lv_goto (tgt := 6) hx hb dX5_inLeastTerms_28 (by decide) ?_
      exact ih _ _ _ _ _ _ hf _ _ _ hP hD hS (lv_sub hl [3, 4, 5, 1, 0] rfl)
set_option maxHeartbeats 4000000 in
set_option maxRecDepth 100000 in
theorem ctX5_inLeastTerms (l : Launch) (D : va_G) (cI cS : ClassId)  (p0 : Int64) (p2 : Int64) (p4 : Int32) (n : Nat) (r : Int64) (hf : fX5_inLeastTerms n  p0 p2 p4 = some (r)) : Ct l D (tysA cI cS) yX5_inLeastTerms cX5_inLeastTerms 11 (some .long) (Rm 0) [.long p0, .long p2, .int p4] (W_0 cI cS) (some (.long r)) (W_0 cI cS) := by
  refine Ct_of (by decide) (Nat.le_of_ble_eq_true rfl) ?_
  intro p e s m args below meth c A ls Cc hK hA hP hD hS hl
  have hl : lv_has ls 11 [(0, .long p0), (2, .long p2), (4, .int p4)] := hl
  obtain ⟨hx, hb, hr, hml, hown, hts, hlk, hnw⟩ := id Cc
  unfold fX5_inLeastTerms at hf
  refine lv_lload_n hx hb dX5_inLeastTerms_0 rfl (lv_at hl 0 rfl) ?_
  refine lv_lstore (lv' := [(5, .long p0), (0, .long p0), (2, .long p2), (4, .int p4)]) hx hb dX5_inLeastTerms_1 hl (by decide) rfl (fun ls hl => ?_)
  refine lv_lload_n hx hb dX5_inLeastTerms_3 rfl (lv_at hl 2 rfl) ?_
  refine lv_lstore (lv' := [(7, .long p2), (5, .long p0), (0, .long p0), (2, .long p2), (4, .int p4)]) hx hb dX5_inLeastTerms_4 hl (by decide) rfl (fun ls hl => ?_)
  exact bX5_inLeastTerms_6  Cc hK hA n n _ _ _ _ _ _ hf _ _ _ hP hD hS (lv_sub hl [2, 3, 4, 1, 0] rfl)
-- X5_odds
def fX5_odds_34 (n : Nat) : Nat → Int32 → Int32 → Int32 → (Nat → Int32) → (Nat → Int32) → Int32 → Int32 → Int32 → Int32 → Int32 → Option (Int64)
  | 0, _, _, _, _, _, _, _, _, _, _ => none
  | k + 1, m_sun, m_wide, m_deep, m_kind, m_wet, x1, x2, x3, x4, x5 => (fX5_cellsOf n m_wide m_deep).bind fun q38_1 => if ((1 : Int32) <<< (q38_1 &&& 31)) ≤ x5 then (fX5_inLeastTerms n ((x3).toInt64) ((x4).toInt64) x1).bind fun q85_1 => some (q85_1) else if (x5 &&& x2) = x2 then (fX5_isOpen n m_wide m_deep x5).bind fun q60_1 => if q60_1 = 0 then fX5_odds_34 n k m_sun m_wide m_deep m_kind m_wet x1 x2 (x3 + (0 : Int32)) (x4 + 1) (x5 + 1) else fX5_odds_34 n k m_sun m_wide m_deep m_kind m_wet x1 x2 (x3 + (1 : Int32)) (x4 + 1) (x5 + 1) else fX5_odds_34 n k m_sun m_wide m_deep m_kind m_wet x1 x2 x3 x4 (x5 + 1)
def fX5_odds (n : Nat) (m_sun : Int32) (m_wide : Int32) (m_deep : Int32) (m_kind : Nat → Int32) (m_wet : Nat → Int32) (p1 : Int32) : Option (Int64) := (fX5_within n p1 (0 : Int32) (1 : Int32)).bind fun q3_1 => if q3_1 = 0 then some ((-9223372036854775808 : Int64)) else if m_wide = 0 then some ((-9223372036854775808 : Int64)) else (fX5_crackedBehind n m_sun m_wide m_deep m_kind m_wet (0 : Int32)).bind fun q22_1 => fX5_odds_34 n n m_sun m_wide m_deep m_kind m_wet p1 q22_1 (0 : Int32) (0 : Int32) (0 : Int32)
theorem mdX5_odds : yX5_odds.cls = RX5 ∧ yX5_odds.cls ≠ "java/lang/invoke/MethodHandle" ∧ yX5_odds.cls ≠ "java/lang/invoke/VarHandle" ∧ (parseMethodDescriptor yX5_odds.desc).map (fun d => d.parameters.length) = some 1 := by decide +kernel
set_option maxHeartbeats 4000000 in
set_option maxRecDepth 100000 in
theorem bX5_odds_34 {p : Program} {l : Launch} {e : Env} {s : State} {m : MethodId} {args : Array Value} {below : List Frame} {meth : Method} {c : Code} {A : Nat → Prop} {D : va_G} {cI cS : ClassId} (a_m a_m_sorts a_m_sheetLong a_m_cells a_m_kind a_m_wet a_m_readKind a_m_readWet a_m_keptWet a_m_readCells a_m_readHours a_m_readCracked : Nat) (m_fault : Int32) (m_trace : Int32) (m_sorts : Nat → Int32) (m_sheetLong : Nat → Int32) (m_cells : Nat → Int32) (m_hour : Int32) (m_at : Int32) (m_readSun : Int32) (m_readWide : Int32) (m_readDeep : Int32) (m_readKind : Nat → Int32) (m_readWet : Nat → Int32) (m_keptWet : Nat → Int32) (m_keptSun : Int32) (m_openFirst : Int32) (m_planHours : Int32) (m_readings : Int32) (m_readCells : Nat → Int32) (m_readHours : Nat → Int32) (m_readCracked : Nat → Int32) (Cc : Cx p s m args meth c RX5 cX5_odds 6 (some .long)) (hK : va_K D classes (tysA cI cS) s) (hA : ∀ q, s.heap.size ≤ q → A q) (n : Nat) : ∀ (k : Nat) (m_sun : Int32) (m_wide : Int32) (m_deep : Int32) (m_kind : Nat → Int32) (m_wet : Nat → Int32) (x1 : Int32) (x2 : Int32) (x3 : Int32) (x4 : Int32) (x5 : Int32) (r : Int64), fX5_odds_34 n k m_sun m_wide m_deep m_kind m_wet x1 x2 x3 x4 x5 = some (r) → ∀ (H : Heap) (locs : List Loc) (ls : Array Slot), va_P D classes (W_m cI cS a_m a_m_sorts a_m_sheetLong a_m_cells a_m_kind a_m_wet a_m_readKind a_m_readWet a_m_keptWet a_m_readCells a_m_readHours a_m_readCracked m_fault m_trace m_sorts m_sheetLong m_cells m_sun m_wide m_deep m_hour m_kind m_wet m_at m_readSun m_readWide m_readDeep m_readKind m_readWet m_keptWet m_keptSun m_openFirst m_planHours m_readings m_readCells m_readHours m_readCracked) H → va_D A (W_m cI cS a_m a_m_sorts a_m_sheetLong a_m_cells a_m_kind a_m_wet a_m_readKind a_m_readWet a_m_keptWet a_m_readCells a_m_readHours a_m_readCracked m_fault m_trace m_sorts m_sheetLong m_cells m_sun m_wide m_deep m_hour m_kind m_wet m_at m_readSun m_readWide m_readDeep m_readKind m_readWet m_keptWet m_keptSun m_openFirst m_planHours m_readings m_readCells m_readHours m_readCracked) → va_S A s.heap H locs → lv_has ls 6 [(0, .ref a_m), (1, .int x1), (2, .int x2), (3, .int x3), (4, .int x4), (5, .int x5)] → W p l e (Rm 4) s m args below meth c H locs 0 0 (MQ below (QW D (tysA cI cS) (some (.long r)) (W_m cI cS a_m a_m_sorts a_m_sheetLong a_m_cells a_m_kind a_m_wet a_m_readKind a_m_readWet a_m_keptWet a_m_readCells a_m_readHours a_m_readCracked m_fault m_trace m_sorts m_sheetLong m_cells m_sun m_wide m_deep m_hour m_kind m_wet m_at m_readSun m_readWide m_readDeep m_readKind m_readWet m_keptWet m_keptSun m_openFirst m_planHours m_readings m_readCells m_readHours m_readCracked) A) args s 0 0 A) (F0 m 34 ls []) := by
  obtain ⟨hx, hb, hr, hml, hown, hts, hlk, hnw⟩ := id Cc
  intro k
  induction k with
  | zero =>
    intro m_sun m_wide m_deep m_kind m_wet x1 x2 x3 x4 x5 r hf
    rw [fX5_odds_34] at hf
    cases hf
  | succ k ih =>
    intro m_sun m_wide m_deep m_kind m_wet x1 x2 x3 x4 x5 r hf H locs ls hP hD hS hl
    rw [fX5_odds_34] at hf
    refine lv_iload hx hb dX5_odds_34 (lv_at hl 5 rfl) ?_
    refine lv_iconst (v := (1 : Int32)) hx hb dX5_odds_36 (by decide) ?_
    refine lv_aload_n hx hb dX5_odds_37 rfl (lv_at hl 0 rfl) ?_
    obtain ⟨q38_1, hq5, hf⟩ := Option.bind_eq_some_iff.mp hf
    refine cV (ws' := (W_m cI cS a_m a_m_sorts a_m_sheetLong a_m_cells a_m_kind a_m_wet a_m_readKind a_m_readWet a_m_keptWet a_m_readCells a_m_readHours a_m_readCracked m_fault m_trace m_sorts m_sheetLong m_cells m_sun m_wide m_deep m_hour m_kind m_wet m_at m_readSun m_readWide m_readDeep m_readKind m_readWet m_keptWet m_keptSun m_openFirst m_planHours m_readings m_readCells m_readHours m_readCracked)) (rest := [.int (1 : Int32), .int x5]) (st1 := [.int q38_1, .int (1 : Int32), .int x5]) Cc hK hA hP hD hS hl.1 (ctX5_cellsOf l D cI cS a_m a_m_sorts a_m_sheetLong a_m_cells a_m_kind a_m_wet a_m_readKind a_m_readWet a_m_keptWet a_m_readCells a_m_readHours a_m_readCracked m_fault m_trace m_sorts m_sheetLong m_cells m_sun m_wide m_deep m_hour m_kind m_wet m_at m_readSun m_readWide m_readDeep m_readKind m_readWet m_keptWet m_keptSun m_openFirst m_planHours m_readings m_readCells m_readHours m_readCracked  n q38_1 hq5) ⟨tw_619, tw_616, tw_618, tp_17, tw_6⟩ mdX5_cellsOf ⟨rfl, rfl, Nat.le_of_ble_eq_true rfl, Nat.le_of_ble_eq_true rfl⟩ rfl dX5_odds_38 rfl (Nat.le_of_ble_eq_true rfl) ⟨Nat.zero_le _, Nat.zero_le _⟩ rfl rfl rfl [0, 1, 2, 3, 4, 5, 6, 7, 8, 9, 10, 11] [] [0, 1, 2, 3, 4, 5, 6, 7, 8, 9, 10, 11] rfl rfl (by decide) rfl (fun H locs hP hD hS => ?_)
    refine lv_ishl hx hb dX5_odds_41 ?_
    refine lv_icmp_ge (tgt := 79) hx hb dX5_odds_42 (by decide) (fun hc6 => ?_) (fun hc6 => ?_)
    · replace hf := (if_pos hc6).symm.trans hf
      refine lv_iload_n hx hb dX5_odds_79 rfl (lv_at hl 3 rfl) ?_
      refine lv_i2l (v := (x3).toInt64) hx hb dX5_odds_80 rfl ?_
      refine lv_iload hx hb dX5_odds_81 (lv_at hl 4 rfl) ?_
      refine lv_i2l (v := (x4).toInt64) hx hb dX5_odds_83 rfl ?_
      refine lv_iload_n hx hb dX5_odds_84 rfl (lv_at hl 1 rfl) ?_
      obtain ⟨q85_1, hq7, hf⟩ := Option.bind_eq_some_iff.mp hf
      refine cSt (ws' := (W_m cI cS a_m a_m_sorts a_m_sheetLong a_m_cells a_m_kind a_m_wet a_m_readKind a_m_readWet a_m_keptWet a_m_readCells a_m_readHours a_m_readCracked m_fault m_trace m_sorts m_sheetLong m_cells m_sun m_wide m_deep m_hour m_kind m_wet m_at m_readSun m_readWide m_readDeep m_readKind m_readWet m_keptWet m_keptSun m_openFirst m_planHours m_readings m_readCells m_readHours m_readCracked)) (rest := []) (st1 := [.long q85_1]) Cc hK hA hP hD hS hl.1 (ctX5_inLeastTerms l D cI cS   ((x3).toInt64) ((x4).toInt64) x1 n q85_1 hq7) ⟨tw_776, tw_774, tw_775, tw_6⟩ mdX5_inLeastTerms ⟨rfl, rfl, Nat.le_of_ble_eq_true rfl, Nat.le_of_ble_eq_true rfl⟩ rfl dX5_odds_85 rfl (Nat.le_of_ble_eq_true rfl) ⟨Nat.zero_le _, Nat.zero_le _⟩ rfl [] [0, 1, 2, 3, 4, 5, 6, 7, 8, 9, 10, 11] [0, 1, 2, 3, 4, 5, 6, 7, 8, 9, 10, 11] rfl rfl (by decide) rfl (fun H locs hP hD hS => ?_)
      obtain rfl := Option.some.inj hf
      exact rt_l Cc hK hP hD hS dX5_odds_88
    · replace hf := (if_neg hc6).symm.trans hf
      refine lv_iload hx hb dX5_odds_45 (lv_at hl 5 rfl) ?_
      refine lv_iload_n hx hb dX5_odds_47 rfl (lv_at hl 2 rfl) ?_
      refine lv_iand hx hb dX5_odds_48 ?_
      refine lv_iload_n hx hb dX5_odds_49 rfl (lv_at hl 2 rfl) ?_
      refine lv_icmp_ne (tgt := 73) hx hb dX5_odds_50 (by decide) (fun hc8 => ?_) (fun hc8 => ?_)
      · replace hf := (if_neg hc8).symm.trans hf
        refine lv_iinc (v := (x5 + 1)) (lv' := [(5, .int (x5 + 1)), (0, .ref a_m), (1, .int x1), (2, .int x2), (3, .int x3), (4, .int x4)]) hx hb dX5_odds_73 hl (k := 5) rfl rfl (by decide) rfl (fun ls hl => ?_)
        refine lv_goto (tgt := 34) hx hb dX5_odds_76 (by decide) ?_
        exact ih _ _ _ _ _ _ _ _ _ _ _ hf _ _ _ hP hD hS (lv_sub hl [1, 2, 3, 4, 5, 0] rfl)
      · replace hf := (if_pos hc8).symm.trans hf
        refine lv_iinc (v := (x4 + 1)) (lv' := [(4, .int (x4 + 1)), (0, .ref a_m), (1, .int x1), (2, .int x2), (3, .int x3), (5, .int x5)]) hx hb dX5_odds_53 hl (k := 4) rfl rfl (by decide) rfl (fun ls hl => ?_)
        refine lv_iload_n hx hb dX5_odds_56 rfl (lv_at hl 4 rfl) ?_
        refine lv_aload_n hx hb dX5_odds_57 rfl (lv_at hl 1 rfl) ?_
        refine lv_iload hx hb dX5_odds_58 (lv_at hl 5 rfl) ?_
        obtain ⟨q60_1, hq9, hf⟩ := Option.bind_eq_some_iff.mp hf
        refine cV (ws' := (W_m cI cS a_m a_m_sorts a_m_sheetLong a_m_cells a_m_kind a_m_wet a_m_readKind a_m_readWet a_m_keptWet a_m_readCells a_m_readHours a_m_readCracked m_fault m_trace m_sorts m_sheetLong m_cells m_sun m_wide m_deep m_hour m_kind m_wet m_at m_readSun m_readWide m_readDeep m_readKind m_readWet m_keptWet m_keptSun m_openFirst m_planHours m_readings m_readCells m_readHours m_readCracked)) (rest := [.int x3]) (st1 := [.int q60_1, .int x3]) Cc hK hA hP hD hS hl.1 (ctX5_isOpen l D cI cS a_m a_m_sorts a_m_sheetLong a_m_cells a_m_kind a_m_wet a_m_readKind a_m_readWet a_m_keptWet a_m_readCells a_m_readHours a_m_readCracked m_fault m_trace m_sorts m_sheetLong m_cells m_sun m_wide m_deep m_hour m_kind m_wet m_at m_readSun m_readWide m_readDeep m_readKind m_readWet m_keptWet m_keptSun m_openFirst m_planHours m_readings m_readCells m_readHours m_readCracked x5 n q60_1 hq9) ⟨tw_692, tw_689, tw_691, tp_27, tw_6⟩ mdX5_isOpen ⟨rfl, rfl, Nat.le_of_ble_eq_true rfl, Nat.le_of_ble_eq_true rfl⟩ rfl dX5_odds_60 rfl (Nat.le_of_ble_eq_true rfl) ⟨Nat.zero_le _, Nat.zero_le _⟩ rfl rfl rfl [0, 1, 2, 3, 4, 5, 6, 7, 8, 9, 10, 11] [] [0, 1, 2, 3, 4, 5, 6, 7, 8, 9, 10, 11] rfl rfl (by decide) rfl (fun H locs hP hD hS => ?_)
        refine lv_if_eq (tgt := 70) hx hb dX5_odds_63 (by decide) (fun hc10 => ?_) (fun hc10 => ?_)
        · replace hf := (if_pos hc10).symm.trans hf
          refine lv_iconst (v := (0 : Int32)) hx hb dX5_odds_70 (by decide) ?_
          refine lv_iadd hx hb dX5_odds_71 ?_
          refine lv_istore_n (lv' := [(3, .int (x3 + (0 : Int32))), (4, .int (x4 + 1)), (0, .ref a_m), (1, .int x1), (2, .int x2), (5, .int x5)]) hx hb dX5_odds_72 rfl hl (by decide) rfl (fun ls hl => ?_)
          refine lv_iinc (v := (x5 + 1)) (lv' := [(5, .int (x5 + 1)), (3, .int (x3 + (0 : Int32))), (4, .int (x4 + 1)), (0, .ref a_m), (1, .int x1), (2, .int x2)]) hx hb dX5_odds_73 hl (k := 5) rfl rfl (by decide) rfl (fun ls hl => ?_)
          refine lv_goto (tgt := 34) hx hb dX5_odds_76 (by decide) ?_
          exact ih _ _ _ _ _ _ _ _ _ _ _ hf _ _ _ hP hD hS (lv_sub hl [3, 4, 5, 1, 2, 0] rfl)
        · replace hf := (if_neg hc10).symm.trans hf
          refine lv_iconst (v := (1 : Int32)) hx hb dX5_odds_66 (by decide) ?_
          refine lv_goto (tgt := 71) hx hb dX5_odds_67 (by decide) ?_
          refine lv_iadd hx hb dX5_odds_71 ?_
          refine lv_istore_n (lv' := [(3, .int (x3 + (1 : Int32))), (4, .int (x4 + 1)), (0, .ref a_m), (1, .int x1), (2, .int x2), (5, .int x5)]) hx hb dX5_odds_72 rfl hl (by decide) rfl (fun ls hl => ?_)
          refine lv_iinc (v := (x5 + 1)) (lv' := [(5, .int (x5 + 1)), (3, .int (x3 + (1 : Int32))), (4, .int (x4 + 1)), (0, .ref a_m), (1, .int x1), (2, .int x2)]) hx hb dX5_odds_73 hl (k := 5) rfl rfl (by decide) rfl (fun ls hl => ?_)
          refine lv_goto (tgt := 34) hx hb dX5_odds_76 (by decide) ?_
          exact ih _ _ _ _ _ _ _ _ _ _ _ hf _ _ _ hP hD hS (lv_sub hl [3, 4, 5, 1, 2, 0] rfl)
set_option maxHeartbeats 4000000 in
set_option maxRecDepth 100000 in
theorem ctX5_odds (l : Launch) (D : va_G) (cI cS : ClassId) (a_m a_m_sorts a_m_sheetLong a_m_cells a_m_kind a_m_wet a_m_readKind a_m_readWet a_m_keptWet a_m_readCells a_m_readHours a_m_readCracked : Nat) (m_fault : Int32) (m_trace : Int32) (m_sorts : Nat → Int32) (m_sheetLong : Nat → Int32) (m_cells : Nat → Int32) (m_sun : Int32) (m_wide : Int32) (m_deep : Int32) (m_hour : Int32) (m_kind : Nat → Int32) (m_wet : Nat → Int32) (m_at : Int32) (m_readSun : Int32) (m_readWide : Int32) (m_readDeep : Int32) (m_readKind : Nat → Int32) (m_readWet : Nat → Int32) (m_keptWet : Nat → Int32) (m_keptSun : Int32) (m_openFirst : Int32) (m_planHours : Int32) (m_readings : Int32) (m_readCells : Nat → Int32) (m_readHours : Nat → Int32) (m_readCracked : Nat → Int32) (p1 : Int32) (n : Nat) (r : Int64) (hf : fX5_odds n m_sun m_wide m_deep m_kind m_wet p1 = some (r)) : Ct l D (tysA cI cS) yX5_odds cX5_odds 6 (some .long) (Rm 4) [.ref a_m, .int p1] (W_m cI cS a_m a_m_sorts a_m_sheetLong a_m_cells a_m_kind a_m_wet a_m_readKind a_m_readWet a_m_keptWet a_m_readCells a_m_readHours a_m_readCracked m_fault m_trace m_sorts m_sheetLong m_cells m_sun m_wide m_deep m_hour m_kind m_wet m_at m_readSun m_readWide m_readDeep m_readKind m_readWet m_keptWet m_keptSun m_openFirst m_planHours m_readings m_readCells m_readHours m_readCracked) (some (.long r)) (W_m cI cS a_m a_m_sorts a_m_sheetLong a_m_cells a_m_kind a_m_wet a_m_readKind a_m_readWet a_m_keptWet a_m_readCells a_m_readHours a_m_readCracked m_fault m_trace m_sorts m_sheetLong m_cells m_sun m_wide m_deep m_hour m_kind m_wet m_at m_readSun m_readWide m_readDeep m_readKind m_readWet m_keptWet m_keptSun m_openFirst m_planHours m_readings m_readCells m_readHours m_readCracked) := by
  refine Ct_of (by decide) (Nat.le_of_ble_eq_true rfl) ?_
  intro p e s m args below meth c A ls Cc hK hA hP hD hS hl
  have hl : lv_has ls 6 [(0, .ref a_m), (1, .int p1)] := hl
  obtain ⟨hx, hb, hr, hml, hown, hts, hlk, hnw⟩ := id Cc
  unfold fX5_odds at hf
  refine lv_iload_n hx hb dX5_odds_0 rfl (lv_at hl 1 rfl) ?_
  refine lv_iconst (v := (0 : Int32)) hx hb dX5_odds_1 (by decide) ?_
  refine lv_iconst (v := (1 : Int32)) hx hb dX5_odds_2 (by decide) ?_
  obtain ⟨q3_1, hq1, hf⟩ := Option.bind_eq_some_iff.mp hf
  refine cSt (ws' := (W_m cI cS a_m a_m_sorts a_m_sheetLong a_m_cells a_m_kind a_m_wet a_m_readKind a_m_readWet a_m_keptWet a_m_readCells a_m_readHours a_m_readCracked m_fault m_trace m_sorts m_sheetLong m_cells m_sun m_wide m_deep m_hour m_kind m_wet m_at m_readSun m_readWide m_readDeep m_readKind m_readWet m_keptWet m_keptSun m_openFirst m_planHours m_readings m_readCells m_readHours m_readCracked)) (rest := []) (st1 := [.int q3_1]) Cc hK hA hP hD hS hl.1 (ctX5_within l D cI cS   p1 (0 : Int32) (1 : Int32) n q3_1 hq1) ⟨tw_588, tw_586, tw_587, tw_6⟩ mdX5_within ⟨rfl, rfl, Nat.le_of_ble_eq_true rfl, Nat.le_of_ble_eq_true rfl⟩ rfl dX5_odds_3 rfl (Nat.le_of_ble_eq_true rfl) ⟨Nat.zero_le _, Nat.zero_le _⟩ rfl [] [0, 1, 2, 3, 4, 5, 6, 7, 8, 9, 10, 11] [0, 1, 2, 3, 4, 5, 6, 7, 8, 9, 10, 11] rfl rfl (by decide) rfl (fun H locs hP hD hS => ?_)
  refine lv_if_eq (tgt := 16) hx hb dX5_odds_6 (by decide) (fun hc2 => ?_) (fun hc2 => ?_)
  · replace hf := (if_pos hc2).symm.trans hf
    refine lv_ldc2 hx hb hown (hts _ tw_773) dX5_odds_16 ?_
    obtain rfl := Option.some.inj hf
    exact rt_l Cc hK hP hD hS dX5_odds_19
  · replace hf := (if_neg hc2).symm.trans hf
    refine lv_aload_n hx hb dX5_odds_9 rfl (lv_at hl 0 rfl) ?_
    refine va_get (D := D) (ci := 5) (v := .int m_wide) (C := RX5) (T := TX5) (N := 25) hx hb hts inX5 hown hK hP 0 rfl rfl 6 (by decide) (hts _ tw_509) (fun _ h9 => h9) rfl dX5_odds_10 ?_
    refine lv_if_ne (tgt := 20) hx hb dX5_odds_13 (by decide) (fun hc3 => ?_) (fun hc3 => ?_)
    · replace hf := (if_neg hc3).symm.trans hf
      refine lv_aload_n hx hb dX5_odds_20 rfl (lv_at hl 0 rfl) ?_
      refine lv_iconst (v := (0 : Int32)) hx hb dX5_odds_21 (by decide) ?_
      obtain ⟨q22_1, hq4, hf⟩ := Option.bind_eq_some_iff.mp hf
      refine cV (ws' := (W_m cI cS a_m a_m_sorts a_m_sheetLong a_m_cells a_m_kind a_m_wet a_m_readKind a_m_readWet a_m_keptWet a_m_readCells a_m_readHours a_m_readCracked m_fault m_trace m_sorts m_sheetLong m_cells m_sun m_wide m_deep m_hour m_kind m_wet m_at m_readSun m_readWide m_readDeep m_readKind m_readWet m_keptWet m_keptSun m_openFirst m_planHours m_readings m_readCells m_readHours m_readCracked)) (rest := []) (st1 := [.int q22_1]) Cc hK hA hP hD hS hl.1 (ctX5_crackedBehind l D cI cS a_m a_m_sorts a_m_sheetLong a_m_cells a_m_kind a_m_wet a_m_readKind a_m_readWet a_m_keptWet a_m_readCells a_m_readHours a_m_readCracked m_fault m_trace m_sorts m_sheetLong m_cells m_sun m_wide m_deep m_hour m_kind m_wet m_at m_readSun m_readWide m_readDeep m_readKind m_readWet m_keptWet m_keptSun m_openFirst m_planHours m_readings m_readCells m_readHours m_readCracked (0 : Int32) n q22_1 hq4) ⟨tw_639, tw_636, tw_638, tp_21, tw_6⟩ mdX5_crackedBehind ⟨rfl, rfl, Nat.le_of_ble_eq_true rfl, Nat.le_of_ble_eq_true rfl⟩ rfl dX5_odds_22 rfl (Nat.le_of_ble_eq_true rfl) ⟨Nat.zero_le _, Nat.zero_le _⟩ rfl rfl rfl [0, 1, 2, 3, 4, 5, 6, 7, 8, 9, 10, 11] [] [0, 1, 2, 3, 4, 5, 6, 7, 8, 9, 10, 11] rfl rfl (by decide) rfl (fun H locs hP hD hS => ?_)
      refine lv_istore_n (lv' := [(2, .int q22_1), (0, .ref a_m), (1, .int p1)]) hx hb dX5_odds_25 rfl hl (by decide) rfl (fun ls hl => ?_)
      refine lv_iconst (v := (0 : Int32)) hx hb dX5_odds_26 (by decide) ?_
      refine lv_istore_n (lv' := [(3, .int (0 : Int32)), (2, .int q22_1), (0, .ref a_m), (1, .int p1)]) hx hb dX5_odds_27 rfl hl (by decide) rfl (fun ls hl => ?_)
      refine lv_iconst (v := (0 : Int32)) hx hb dX5_odds_28 (by decide) ?_
      refine lv_istore (lv' := [(4, .int (0 : Int32)), (3, .int (0 : Int32)), (2, .int q22_1), (0, .ref a_m), (1, .int p1)]) hx hb dX5_odds_29 hl (by decide) rfl (fun ls hl => ?_)
      refine lv_iconst (v := (0 : Int32)) hx hb dX5_odds_31 (by decide) ?_
      refine lv_istore (lv' := [(5, .int (0 : Int32)), (4, .int (0 : Int32)), (3, .int (0 : Int32)), (2, .int q22_1), (0, .ref a_m), (1, .int p1)]) hx hb dX5_odds_32 hl (by decide) rfl (fun ls hl => ?_)
      exact bX5_odds_34 a_m a_m_sorts a_m_sheetLong a_m_cells a_m_kind a_m_wet a_m_readKind a_m_readWet a_m_keptWet a_m_readCells a_m_readHours a_m_readCracked m_fault m_trace m_sorts m_sheetLong m_cells m_hour m_at m_readSun m_readWide m_readDeep m_readKind m_readWet m_keptWet m_keptSun m_openFirst m_planHours m_readings m_readCells m_readHours m_readCracked Cc hK hA n n _ _ _ _ _ _ _ _ _ _ _ hf _ _ _ hP hD hS (lv_sub hl [4, 5, 3, 2, 1, 0] rfl)
    · replace hf := (if_pos hc3).symm.trans hf
      refine lv_ldc2 hx hb hown (hts _ tw_773) dX5_odds_16 ?_
      obtain rfl := Option.some.inj hf
      exact rt_l Cc hK hP hD hS dX5_odds_19
-- X5_sheet
def fX5_sheet_57 (n : Nat) : Nat → Int32 → (Nat → Int32) → (Nat → Int32) → (Nat → Int32) → Int32 → Int32 → Option (Int32 × Int32 × (Nat → Int32) × (Nat → Int32) × (Nat → Int32))
  | 0, _, _, _, _, _, _ => none
  | k + 1, m_fault, m_sorts, m_sheetLong, m_cells, x1, x4 => if (60 : Int32) ≤ x4 then some ((1 : Int32), m_fault, m_sorts, m_sheetLong, m_cells) else gd (((60 : Int32) * x1) + x4) 240 (fX5_sheet_57 n k m_fault m_sorts m_sheetLong (upd m_cells (((60 : Int32) * x1) + x4).toNatClampNeg (0 : Int32)) x1 (x4 + 1))
def fX5_sheet (n : Nat) (m_fault : Int32) (m_sorts : Nat → Int32) (m_sheetLong : Nat → Int32) (m_cells : Nat → Int32) (p1 : Int32) (p2 : Int32) (p3 : Int32) : Option (Int32 × Int32 × (Nat → Int32) × (Nat → Int32) × (Nat → Int32)) := (fX5_isSheet n p1).bind fun q6_1 => if q6_1 = 0 then some ((-1 : Int32), (0 : Int32), m_sorts, m_sheetLong, m_cells) else (fX5_isSort n p2).bind fun q15_1 => if q15_1 = 0 then some ((-2 : Int32), (0 : Int32), m_sorts, m_sheetLong, m_cells) else if p3 ≤ (60 : Int32) then if 0 ≤ p3 then gd p1 4 (gd p1 4 (fX5_sheet_57 n n (0 : Int32) (upd m_sorts p1.toNatClampNeg p2) (upd m_sheetLong p1.toNatClampNeg p3) m_cells p1 (0 : Int32))) else (fX5_fails n (0 : Int32) (4 : Int32)).bind fun q36_1 => some (q36_1.1, q36_1.2, m_sorts, m_sheetLong, m_cells) else some ((-2 : Int32), (0 : Int32), m_sorts, m_sheetLong, m_cells)
theorem mdX5_sheet : yX5_sheet.cls = RX5 ∧ yX5_sheet.cls ≠ "java/lang/invoke/MethodHandle" ∧ yX5_sheet.cls ≠ "java/lang/invoke/VarHandle" ∧ (parseMethodDescriptor yX5_sheet.desc).map (fun d => d.parameters.length) = some 3 := by decide +kernel
set_option maxHeartbeats 4000000 in
set_option maxRecDepth 100000 in
theorem bX5_sheet_57 {p : Program} {l : Launch} {e : Env} {s : State} {m : MethodId} {args : Array Value} {below : List Frame} {meth : Method} {c : Code} {A : Nat → Prop} {D : va_G} {cI cS : ClassId} (a_m a_m_sorts a_m_sheetLong a_m_cells a_m_kind a_m_wet a_m_readKind a_m_readWet a_m_keptWet a_m_readCells a_m_readHours a_m_readCracked : Nat) (m_trace : Int32) (m_sun : Int32) (m_wide : Int32) (m_deep : Int32) (m_hour : Int32) (m_kind : Nat → Int32) (m_wet : Nat → Int32) (m_at : Int32) (m_readSun : Int32) (m_readWide : Int32) (m_readDeep : Int32) (m_readKind : Nat → Int32) (m_readWet : Nat → Int32) (m_keptWet : Nat → Int32) (m_keptSun : Int32) (m_openFirst : Int32) (m_planHours : Int32) (m_readings : Int32) (m_readCells : Nat → Int32) (m_readHours : Nat → Int32) (m_readCracked : Nat → Int32) (Cc : Cx p s m args meth c RX5 cX5_sheet 5 (some .int)) (hK : va_K D classes (tysA cI cS) s) (hA : ∀ q, s.heap.size ≤ q → A q) (n : Nat) : ∀ (k : Nat) (m_fault : Int32) (m_sorts : Nat → Int32) (m_sheetLong : Nat → Int32) (m_cells : Nat → Int32) (x1 : Int32) (x4 : Int32) (r : Int32) (m_fault' : Int32) (m_sorts' : Nat → Int32) (m_sheetLong' : Nat → Int32) (m_cells' : Nat → Int32), fX5_sheet_57 n k m_fault m_sorts m_sheetLong m_cells x1 x4 = some (r, m_fault', m_sorts', m_sheetLong', m_cells') → ∀ (H : Heap) (locs : List Loc) (ls : Array Slot), va_P D classes (W_m cI cS a_m a_m_sorts a_m_sheetLong a_m_cells a_m_kind a_m_wet a_m_readKind a_m_readWet a_m_keptWet a_m_readCells a_m_readHours a_m_readCracked m_fault m_trace m_sorts m_sheetLong m_cells m_sun m_wide m_deep m_hour m_kind m_wet m_at m_readSun m_readWide m_readDeep m_readKind m_readWet m_keptWet m_keptSun m_openFirst m_planHours m_readings m_readCells m_readHours m_readCracked) H → va_D A (W_m cI cS a_m a_m_sorts a_m_sheetLong a_m_cells a_m_kind a_m_wet a_m_readKind a_m_readWet a_m_keptWet a_m_readCells a_m_readHours a_m_readCracked m_fault m_trace m_sorts m_sheetLong m_cells m_sun m_wide m_deep m_hour m_kind m_wet m_at m_readSun m_readWide m_readDeep m_readKind m_readWet m_keptWet m_keptSun m_openFirst m_planHours m_readings m_readCells m_readHours m_readCracked) → va_S A s.heap H locs → lv_has ls 5 [(0, .ref a_m), (1, .int x1), (4, .int x4)] → W p l e (Rm 2) s m args below meth c H locs 0 0 (MQ below (QW D (tysA cI cS) (some (.int r)) (W_m cI cS a_m a_m_sorts a_m_sheetLong a_m_cells a_m_kind a_m_wet a_m_readKind a_m_readWet a_m_keptWet a_m_readCells a_m_readHours a_m_readCracked m_fault' m_trace m_sorts' m_sheetLong' m_cells' m_sun m_wide m_deep m_hour m_kind m_wet m_at m_readSun m_readWide m_readDeep m_readKind m_readWet m_keptWet m_keptSun m_openFirst m_planHours m_readings m_readCells m_readHours m_readCracked) A) args s 0 0 A) (F0 m 57 ls []) := by
  obtain ⟨hx, hb, hr, hml, hown, hts, hlk, hnw⟩ := id Cc
  intro k
  induction k with
  | zero =>
    intro m_fault m_sorts m_sheetLong m_cells x1 x4 r m_fault' m_sorts' m_sheetLong' m_cells' hf
    rw [fX5_sheet_57] at hf
    cases hf
  | succ k ih =>
    intro m_fault m_sorts m_sheetLong m_cells x1 x4 r m_fault' m_sorts' m_sheetLong' m_cells' hf H locs ls hP hD hS hl
    rw [fX5_sheet_57] at hf
    refine lv_iload hx hb dX5_sheet_57 (lv_at hl 2 rfl) ?_
    refine lv_bipush (v := (60 : Int32)) hx hb dX5_sheet_59 (by decide) ?_
    refine lv_icmp_ge (tgt := 83) hx hb dX5_sheet_61 (by decide) (fun hc7 => ?_) (fun hc7 => ?_)
    · replace hf := (if_pos hc7).symm.trans hf
      refine lv_iconst (v := (1 : Int32)) hx hb dX5_sheet_83 (by decide) ?_
      replace hf := Option.some.inj hf
      obtain ⟨er0, er1⟩ := Prod.mk.inj hf
      obtain ⟨er2, er3⟩ := Prod.mk.inj er1
      obtain ⟨er4, er5⟩ := Prod.mk.inj er3
      obtain ⟨er6, er7⟩ := Prod.mk.inj er5
      clear hf er1 er3 er5
      subst er0
      subst er2
      subst er4
      subst er6
      subst er7
      exact rt_i Cc hK hP hD hS dX5_sheet_84
    · replace hf := (if_neg hc7).symm.trans hf
      refine lv_aload_n hx hb dX5_sheet_64 rfl (lv_at hl 0 rfl) ?_
      refine va_get (D := D) (ci := 5) (v := .ref a_m_cells) (C := RX5) (T := TX5) (N := 25) hx hb hts inX5 hown hK hP 0 rfl rfl 4 (by decide) (hts _ tw_507) (fun _ h9 => h9) rfl dX5_sheet_65 ?_
      refine lv_bipush (v := (60 : Int32)) hx hb dX5_sheet_68 (by decide) ?_
      refine lv_iload_n hx hb dX5_sheet_70 rfl (lv_at hl 1 rfl) ?_
      refine lv_imul hx hb dX5_sheet_71 ?_
      refine lv_iload hx hb dX5_sheet_72 (lv_at hl 2 rfl) ?_
      refine lv_iadd hx hb dX5_sheet_74 ?_
      refine lv_iconst (v := (0 : Int32)) hx hb dX5_sheet_75 (by decide) ?_
      obtain ⟨hin, hf⟩ := gd_some hf
      refine va_iast hx hb hK hP hD hS 3 0 rfl rfl hin dX5_sheet_76 (fun H locs hP hD hS => ?_)
      have hP : va_P D classes (W_m cI cS a_m a_m_sorts a_m_sheetLong a_m_cells a_m_kind a_m_wet a_m_readKind a_m_readWet a_m_keptWet a_m_readCells a_m_readHours a_m_readCracked m_fault m_trace m_sorts m_sheetLong (upd m_cells (((60 : Int32) * x1) + x4).toNatClampNeg (0 : Int32)) m_sun m_wide m_deep m_hour m_kind m_wet m_at m_readSun m_readWide m_readDeep m_readKind m_readWet m_keptWet m_keptSun m_openFirst m_planHours m_readings m_readCells m_readHours m_readCracked) H := hP
      have hD : va_D A (W_m cI cS a_m a_m_sorts a_m_sheetLong a_m_cells a_m_kind a_m_wet a_m_readKind a_m_readWet a_m_keptWet a_m_readCells a_m_readHours a_m_readCracked m_fault m_trace m_sorts m_sheetLong (upd m_cells (((60 : Int32) * x1) + x4).toNatClampNeg (0 : Int32)) m_sun m_wide m_deep m_hour m_kind m_wet m_at m_readSun m_readWide m_readDeep m_readKind m_readWet m_keptWet m_keptSun m_openFirst m_planHours m_readings m_readCells m_readHours m_readCracked) := hD
      refine lv_iinc (v := (x4 + 1)) (lv' := [(4, .int (x4 + 1)), (0, .ref a_m), (1, .int x1)]) hx hb dX5_sheet_77 hl (k := 2) rfl rfl (by decide) rfl (fun ls hl => ?_)
      refine lv_goto (tgt := 57) hx hb dX5_sheet_80 (by decide) ?_
      exact ih _ _ _ _ _ _ _ _ _ _ _ hf _ _ _ hP hD hS (lv_sub hl [1, 2, 0] rfl)
set_option maxHeartbeats 4000000 in
set_option maxRecDepth 100000 in
theorem ctX5_sheet (l : Launch) (D : va_G) (cI cS : ClassId) (a_m a_m_sorts a_m_sheetLong a_m_cells a_m_kind a_m_wet a_m_readKind a_m_readWet a_m_keptWet a_m_readCells a_m_readHours a_m_readCracked : Nat) (m_fault : Int32) (m_trace : Int32) (m_sorts : Nat → Int32) (m_sheetLong : Nat → Int32) (m_cells : Nat → Int32) (m_sun : Int32) (m_wide : Int32) (m_deep : Int32) (m_hour : Int32) (m_kind : Nat → Int32) (m_wet : Nat → Int32) (m_at : Int32) (m_readSun : Int32) (m_readWide : Int32) (m_readDeep : Int32) (m_readKind : Nat → Int32) (m_readWet : Nat → Int32) (m_keptWet : Nat → Int32) (m_keptSun : Int32) (m_openFirst : Int32) (m_planHours : Int32) (m_readings : Int32) (m_readCells : Nat → Int32) (m_readHours : Nat → Int32) (m_readCracked : Nat → Int32) (p1 : Int32) (p2 : Int32) (p3 : Int32) (n : Nat) (r : Int32) (m_fault' : Int32) (m_sorts' : Nat → Int32) (m_sheetLong' : Nat → Int32) (m_cells' : Nat → Int32) (hf : fX5_sheet n m_fault m_sorts m_sheetLong m_cells p1 p2 p3 = some (r, m_fault', m_sorts', m_sheetLong', m_cells')) : Ct l D (tysA cI cS) yX5_sheet cX5_sheet 5 (some .int) (Rm 2) [.ref a_m, .int p1, .int p2, .int p3] (W_m cI cS a_m a_m_sorts a_m_sheetLong a_m_cells a_m_kind a_m_wet a_m_readKind a_m_readWet a_m_keptWet a_m_readCells a_m_readHours a_m_readCracked m_fault m_trace m_sorts m_sheetLong m_cells m_sun m_wide m_deep m_hour m_kind m_wet m_at m_readSun m_readWide m_readDeep m_readKind m_readWet m_keptWet m_keptSun m_openFirst m_planHours m_readings m_readCells m_readHours m_readCracked) (some (.int r)) (W_m cI cS a_m a_m_sorts a_m_sheetLong a_m_cells a_m_kind a_m_wet a_m_readKind a_m_readWet a_m_keptWet a_m_readCells a_m_readHours a_m_readCracked m_fault' m_trace m_sorts' m_sheetLong' m_cells' m_sun m_wide m_deep m_hour m_kind m_wet m_at m_readSun m_readWide m_readDeep m_readKind m_readWet m_keptWet m_keptSun m_openFirst m_planHours m_readings m_readCells m_readHours m_readCracked) := by
  refine Ct_of (by decide) (Nat.le_of_ble_eq_true rfl) ?_
  intro p e s m args below meth c A ls Cc hK hA hP hD hS hl
  have hl : lv_has ls 5 [(0, .ref a_m), (1, .int p1), (2, .int p2), (3, .int p3)] := hl
  obtain ⟨hx, hb, hr, hml, hown, hts, hlk, hnw⟩ := id Cc
  unfold fX5_sheet at hf
  refine lv_aload_n hx hb dX5_sheet_0 rfl (lv_at hl 0 rfl) ?_
  refine lv_iconst (v := (0 : Int32)) hx hb dX5_sheet_1 (by decide) ?_
  refine va_put (D := D) (ci := 5) (v := .int (0 : Int32)) (ty := .int) (C := RX5) (T := TX5) (N := 25) hx hb hts inX5 tyX5 tyX5_ok nmX5 hown hK hP hD hS 0 rfl rfl 0 (by decide) (hts _ tw_503) (fun _ h9 => h9) rfl (tyX5_ok 0 (by decide)) rfl rfl (Nat.le_of_ble_eq_true rfl) dX5_sheet_2 (fun H locs hP hD hS => ?_)
  have hP : va_P D classes (W_m cI cS a_m a_m_sorts a_m_sheetLong a_m_cells a_m_kind a_m_wet a_m_readKind a_m_readWet a_m_keptWet a_m_readCells a_m_readHours a_m_readCracked (0 : Int32) m_trace m_sorts m_sheetLong m_cells m_sun m_wide m_deep m_hour m_kind m_wet m_at m_readSun m_readWide m_readDeep m_readKind m_readWet m_keptWet m_keptSun m_openFirst m_planHours m_readings m_readCells m_readHours m_readCracked) H := hP
  have hD : va_D A (W_m cI cS a_m a_m_sorts a_m_sheetLong a_m_cells a_m_kind a_m_wet a_m_readKind a_m_readWet a_m_keptWet a_m_readCells a_m_readHours a_m_readCracked (0 : Int32) m_trace m_sorts m_sheetLong m_cells m_sun m_wide m_deep m_hour m_kind m_wet m_at m_readSun m_readWide m_readDeep m_readKind m_readWet m_keptWet m_keptSun m_openFirst m_planHours m_readings m_readCells m_readHours m_readCracked) := hD
  refine lv_iload_n hx hb dX5_sheet_5 rfl (lv_at hl 1 rfl) ?_
  obtain ⟨q6_1, hq1, hf⟩ := Option.bind_eq_some_iff.mp hf
  refine cSt (ws' := (W_m cI cS a_m a_m_sorts a_m_sheetLong a_m_cells a_m_kind a_m_wet a_m_readKind a_m_readWet a_m_keptWet a_m_readCells a_m_readHours a_m_readCracked (0 : Int32) m_trace m_sorts m_sheetLong m_cells m_sun m_wide m_deep m_hour m_kind m_wet m_at m_readSun m_readWide m_readDeep m_readKind m_readWet m_keptWet m_keptSun m_openFirst m_planHours m_readings m_readCells m_readHours m_readCracked)) (rest := []) (st1 := [.int q6_1]) Cc hK hA hP hD hS hl.1 (ctX5_isSheet l D cI cS   p1 n q6_1 hq1) ⟨tw_585, tw_583, tw_584, tw_6⟩ mdX5_isSheet ⟨rfl, rfl, Nat.le_of_ble_eq_true rfl, Nat.le_of_ble_eq_true rfl⟩ rfl dX5_sheet_6 rfl (Nat.le_of_ble_eq_true rfl) ⟨Nat.zero_le _, Nat.zero_le _⟩ rfl [] [0, 1, 2, 3, 4, 5, 6, 7, 8, 9, 10, 11] [0, 1, 2, 3, 4, 5, 6, 7, 8, 9, 10, 11] rfl rfl (by decide) rfl (fun H locs hP hD hS => ?_)
  refine lv_if_ne (tgt := 14) hx hb dX5_sheet_9 (by decide) (fun hc2 => ?_) (fun hc2 => ?_)
  · replace hf := (if_neg hc2).symm.trans hf
    refine lv_iload_n hx hb dX5_sheet_14 rfl (lv_at hl 2 rfl) ?_
    obtain ⟨q15_1, hq3, hf⟩ := Option.bind_eq_some_iff.mp hf
    refine cSt (ws' := (W_m cI cS a_m a_m_sorts a_m_sheetLong a_m_cells a_m_kind a_m_wet a_m_readKind a_m_readWet a_m_keptWet a_m_readCells a_m_readHours a_m_readCracked (0 : Int32) m_trace m_sorts m_sheetLong m_cells m_sun m_wide m_deep m_hour m_kind m_wet m_at m_readSun m_readWide m_readDeep m_readKind m_readWet m_keptWet m_keptSun m_openFirst m_planHours m_readings m_readCells m_readHours m_readCracked)) (rest := []) (st1 := [.int q15_1]) Cc hK hA hP hD hS hl.1 (ctX5_isSort l D cI cS   p2 n q15_1 hq3) ⟨tw_591, tw_589, tw_590, tw_6⟩ mdX5_isSort ⟨rfl, rfl, Nat.le_of_ble_eq_true rfl, Nat.le_of_ble_eq_true rfl⟩ rfl dX5_sheet_15 rfl (Nat.le_of_ble_eq_true rfl) ⟨Nat.zero_le _, Nat.zero_le _⟩ rfl [] [0, 1, 2, 3, 4, 5, 6, 7, 8, 9, 10, 11] [0, 1, 2, 3, 4, 5, 6, 7, 8, 9, 10, 11] rfl rfl (by decide) rfl (fun H locs hP hD hS => ?_)
    refine lv_if_eq (tgt := 27) hx hb dX5_sheet_18 (by decide) (fun hc4 => ?_) (fun hc4 => ?_)
    · replace hf := (if_pos hc4).symm.trans hf
      refine lv_bipush (v := (-2 : Int32)) hx hb dX5_sheet_27 (by decide) ?_
      replace hf := Option.some.inj hf
      obtain ⟨er0, er1⟩ := Prod.mk.inj hf
      obtain ⟨er2, er3⟩ := Prod.mk.inj er1
      obtain ⟨er4, er5⟩ := Prod.mk.inj er3
      obtain ⟨er6, er7⟩ := Prod.mk.inj er5
      clear hf er1 er3 er5
      subst er0
      subst er2
      subst er4
      subst er6
      subst er7
      exact rt_i Cc hK hP hD hS dX5_sheet_29
    · replace hf := (if_neg hc4).symm.trans hf
      refine lv_iload_n hx hb dX5_sheet_21 rfl (lv_at hl 3 rfl) ?_
      refine lv_bipush (v := (60 : Int32)) hx hb dX5_sheet_22 (by decide) ?_
      refine lv_icmp_le (tgt := 30) hx hb dX5_sheet_24 (by decide) (fun hc5 => ?_) (fun hc5 => ?_)
      · replace hf := (if_pos hc5).symm.trans hf
        refine lv_iload_n hx hb dX5_sheet_30 rfl (lv_at hl 3 rfl) ?_
        refine lv_if_ge (tgt := 40) hx hb dX5_sheet_31 (by decide) (fun hc6 => ?_) (fun hc6 => ?_)
        · replace hf := (if_pos hc6).symm.trans hf
          refine lv_aload_n hx hb dX5_sheet_40 rfl (lv_at hl 0 rfl) ?_
          refine va_get (D := D) (ci := 5) (v := .ref a_m_sorts) (C := RX5) (T := TX5) (N := 25) hx hb hts inX5 hown hK hP 0 rfl rfl 2 (by decide) (hts _ tw_505) (fun _ h9 => h9) rfl dX5_sheet_41 ?_
          refine lv_iload_n hx hb dX5_sheet_44 rfl (lv_at hl 1 rfl) ?_
          refine lv_iload_n hx hb dX5_sheet_45 rfl (lv_at hl 2 rfl) ?_
          obtain ⟨hin, hf⟩ := gd_some hf
          refine va_iast hx hb hK hP hD hS 1 0 rfl rfl hin dX5_sheet_46 (fun H locs hP hD hS => ?_)
          have hP : va_P D classes (W_m cI cS a_m a_m_sorts a_m_sheetLong a_m_cells a_m_kind a_m_wet a_m_readKind a_m_readWet a_m_keptWet a_m_readCells a_m_readHours a_m_readCracked (0 : Int32) m_trace (upd m_sorts p1.toNatClampNeg p2) m_sheetLong m_cells m_sun m_wide m_deep m_hour m_kind m_wet m_at m_readSun m_readWide m_readDeep m_readKind m_readWet m_keptWet m_keptSun m_openFirst m_planHours m_readings m_readCells m_readHours m_readCracked) H := hP
          have hD : va_D A (W_m cI cS a_m a_m_sorts a_m_sheetLong a_m_cells a_m_kind a_m_wet a_m_readKind a_m_readWet a_m_keptWet a_m_readCells a_m_readHours a_m_readCracked (0 : Int32) m_trace (upd m_sorts p1.toNatClampNeg p2) m_sheetLong m_cells m_sun m_wide m_deep m_hour m_kind m_wet m_at m_readSun m_readWide m_readDeep m_readKind m_readWet m_keptWet m_keptSun m_openFirst m_planHours m_readings m_readCells m_readHours m_readCracked) := hD
          refine lv_aload_n hx hb dX5_sheet_47 rfl (lv_at hl 0 rfl) ?_
          refine va_get (D := D) (ci := 5) (v := .ref a_m_sheetLong) (C := RX5) (T := TX5) (N := 25) hx hb hts inX5 hown hK hP 0 rfl rfl 3 (by decide) (hts _ tw_506) (fun _ h9 => h9) rfl dX5_sheet_48 ?_
          refine lv_iload_n hx hb dX5_sheet_51 rfl (lv_at hl 1 rfl) ?_
          refine lv_iload_n hx hb dX5_sheet_52 rfl (lv_at hl 3 rfl) ?_
          obtain ⟨hin, hf⟩ := gd_some hf
          refine va_iast hx hb hK hP hD hS 2 0 rfl rfl hin dX5_sheet_53 (fun H locs hP hD hS => ?_)
          have hP : va_P D classes (W_m cI cS a_m a_m_sorts a_m_sheetLong a_m_cells a_m_kind a_m_wet a_m_readKind a_m_readWet a_m_keptWet a_m_readCells a_m_readHours a_m_readCracked (0 : Int32) m_trace (upd m_sorts p1.toNatClampNeg p2) (upd m_sheetLong p1.toNatClampNeg p3) m_cells m_sun m_wide m_deep m_hour m_kind m_wet m_at m_readSun m_readWide m_readDeep m_readKind m_readWet m_keptWet m_keptSun m_openFirst m_planHours m_readings m_readCells m_readHours m_readCracked) H := hP
          have hD : va_D A (W_m cI cS a_m a_m_sorts a_m_sheetLong a_m_cells a_m_kind a_m_wet a_m_readKind a_m_readWet a_m_keptWet a_m_readCells a_m_readHours a_m_readCracked (0 : Int32) m_trace (upd m_sorts p1.toNatClampNeg p2) (upd m_sheetLong p1.toNatClampNeg p3) m_cells m_sun m_wide m_deep m_hour m_kind m_wet m_at m_readSun m_readWide m_readDeep m_readKind m_readWet m_keptWet m_keptSun m_openFirst m_planHours m_readings m_readCells m_readHours m_readCracked) := hD
          refine lv_iconst (v := (0 : Int32)) hx hb dX5_sheet_54 (by decide) ?_
          refine lv_istore (lv' := [(4, .int (0 : Int32)), (0, .ref a_m), (1, .int p1), (2, .int p2), (3, .int p3)]) hx hb dX5_sheet_55 hl (by decide) rfl (fun ls hl => ?_)
          exact bX5_sheet_57 a_m a_m_sorts a_m_sheetLong a_m_cells a_m_kind a_m_wet a_m_readKind a_m_readWet a_m_keptWet a_m_readCells a_m_readHours a_m_readCracked m_trace m_sun m_wide m_deep m_hour m_kind m_wet m_at m_readSun m_readWide m_readDeep m_readKind m_readWet m_keptWet m_keptSun m_openFirst m_planHours m_readings m_readCells m_readHours m_readCracked Cc hK hA n n _ _ _ _ _ _ _ _ _ _ _ hf _ _ _ hP hD hS (lv_sub hl [1, 2, 0] rfl)
        · replace hf := (if_neg hc6).symm.trans hf
          refine lv_aload_n hx hb dX5_sheet_34 rfl (lv_at hl 0 rfl) ?_
          refine lv_iconst (v := (4 : Int32)) hx hb dX5_sheet_35 (by decide) ?_
          obtain ⟨q36_1, hq8, hf⟩ := Option.bind_eq_some_iff.mp hf
          refine cV (ws' := (W_m cI cS a_m a_m_sorts a_m_sheetLong a_m_cells a_m_kind a_m_wet a_m_readKind a_m_readWet a_m_keptWet a_m_readCells a_m_readHours a_m_readCracked q36_1.2 m_trace m_sorts m_sheetLong m_cells m_sun m_wide m_deep m_hour m_kind m_wet m_at m_readSun m_readWide m_readDeep m_readKind m_readWet m_keptWet m_keptSun m_openFirst m_planHours m_readings m_readCells m_readHours m_readCracked)) (rest := []) (st1 := [.int q36_1.1]) Cc hK hA hP hD hS hl.1 (ctX5_fails l D cI cS a_m a_m_sorts a_m_sheetLong a_m_cells a_m_kind a_m_wet a_m_readKind a_m_readWet a_m_keptWet a_m_readCells a_m_readHours a_m_readCracked (0 : Int32) m_trace m_sorts m_sheetLong m_cells m_sun m_wide m_deep m_hour m_kind m_wet m_at m_readSun m_readWide m_readDeep m_readKind m_readWet m_keptWet m_keptSun m_openFirst m_planHours m_readings m_readCells m_readHours m_readCracked (4 : Int32) n q36_1.1 q36_1.2 hq8) ⟨tw_599, tw_596, tw_598, tp_12, tw_6⟩ mdX5_fails ⟨rfl, rfl, Nat.le_of_ble_eq_true rfl, Nat.le_of_ble_eq_true rfl⟩ rfl dX5_sheet_36 rfl (Nat.le_of_ble_eq_true rfl) ⟨Nat.zero_le _, Nat.zero_le _⟩ rfl rfl rfl [0, 1, 2, 3, 4, 5, 6, 7, 8, 9, 10, 11] [] [0, 1, 2, 3, 4, 5, 6, 7, 8, 9, 10, 11] rfl rfl (by decide) rfl (fun H locs hP hD hS => ?_)
          replace hf := Option.some.inj hf
          obtain ⟨er0, er1⟩ := Prod.mk.inj hf
          obtain ⟨er2, er3⟩ := Prod.mk.inj er1
          obtain ⟨er4, er5⟩ := Prod.mk.inj er3
          obtain ⟨er6, er7⟩ := Prod.mk.inj er5
          clear hf er1 er3 er5
          subst er0
          subst er2
          subst er4
          subst er6
          subst er7
          exact rt_i Cc hK hP hD hS dX5_sheet_39
      · replace hf := (if_neg hc5).symm.trans hf
        refine lv_bipush (v := (-2 : Int32)) hx hb dX5_sheet_27 (by decide) ?_
        replace hf := Option.some.inj hf
        obtain ⟨er0, er1⟩ := Prod.mk.inj hf
        obtain ⟨er2, er3⟩ := Prod.mk.inj er1
        obtain ⟨er4, er5⟩ := Prod.mk.inj er3
        obtain ⟨er6, er7⟩ := Prod.mk.inj er5
        clear hf er1 er3 er5
        subst er0
        subst er2
        subst er4
        subst er6
        subst er7
        exact rt_i Cc hK hP hD hS dX5_sheet_29
  · replace hf := (if_pos hc2).symm.trans hf
    refine lv_iconst (v := (-1 : Int32)) hx hb dX5_sheet_12 (by decide) ?_
    replace hf := Option.some.inj hf
    obtain ⟨er0, er1⟩ := Prod.mk.inj hf
    obtain ⟨er2, er3⟩ := Prod.mk.inj er1
    obtain ⟨er4, er5⟩ := Prod.mk.inj er3
    obtain ⟨er6, er7⟩ := Prod.mk.inj er5
    clear hf er1 er3 er5
    subst er0
    subst er2
    subst er4
    subst er6
    subst er7
    exact rt_i Cc hK hP hD hS dX5_sheet_13
-- X5_lose
def fX5_lose_25 (n : Nat) (m_sorts : Nat → Int32) (x1 : Int32) (y0 : Int32) : Option (Int32 × (Nat → Int32)) := gd x1 4 (some (y0, (upd m_sorts x1.toNatClampNeg (-9 : Int32))))
def fX5_lose (n : Nat) (m_sorts : Nat → Int32) (p1 : Int32) : Option (Int32 × (Nat → Int32)) := (fX5_isSheet n p1).bind fun q1_1 => if q1_1 = 0 then some ((-1 : Int32), m_sorts) else gd p1 4 (if (m_sorts p1.toNatClampNeg) = (-9 : Int32) then fX5_lose_25 n m_sorts p1 (0 : Int32) else fX5_lose_25 n m_sorts p1 (1 : Int32))
theorem mdX5_lose : yX5_lose.cls = RX5 ∧ yX5_lose.cls ≠ "java/lang/invoke/MethodHandle" ∧ yX5_lose.cls ≠ "java/lang/invoke/VarHandle" ∧ (parseMethodDescriptor yX5_lose.desc).map (fun d => d.parameters.length) = some 1 := by decide +kernel
set_option maxHeartbeats 4000000 in
set_option maxRecDepth 100000 in
theorem bX5_lose_25 {p : Program} {l : Launch} {e : Env} {s : State} {m : MethodId} {args : Array Value} {below : List Frame} {meth : Method} {c : Code} {A : Nat → Prop} {D : va_G} {cI cS : ClassId} (a_m a_m_sorts a_m_sheetLong a_m_cells a_m_kind a_m_wet a_m_readKind a_m_readWet a_m_keptWet a_m_readCells a_m_readHours a_m_readCracked : Nat) (m_fault : Int32) (m_trace : Int32) (m_sheetLong : Nat → Int32) (m_cells : Nat → Int32) (m_sun : Int32) (m_wide : Int32) (m_deep : Int32) (m_hour : Int32) (m_kind : Nat → Int32) (m_wet : Nat → Int32) (m_at : Int32) (m_readSun : Int32) (m_readWide : Int32) (m_readDeep : Int32) (m_readKind : Nat → Int32) (m_readWet : Nat → Int32) (m_keptWet : Nat → Int32) (m_keptSun : Int32) (m_openFirst : Int32) (m_planHours : Int32) (m_readings : Int32) (m_readCells : Nat → Int32) (m_readHours : Nat → Int32) (m_readCracked : Nat → Int32) (Cc : Cx p s m args meth c RX5 cX5_lose 3 (some .int)) (hK : va_K D classes (tysA cI cS) s) (hA : ∀ q, s.heap.size ≤ q → A q) (n : Nat) : ∀ (m_sorts : Nat → Int32) (x1 : Int32) (y0 : Int32) (r : Int32) (m_sorts' : Nat → Int32), fX5_lose_25 n m_sorts x1 y0 = some (r, m_sorts') → ∀ (H : Heap) (locs : List Loc) (ls : Array Slot), va_P D classes (W_m cI cS a_m a_m_sorts a_m_sheetLong a_m_cells a_m_kind a_m_wet a_m_readKind a_m_readWet a_m_keptWet a_m_readCells a_m_readHours a_m_readCracked m_fault m_trace m_sorts m_sheetLong m_cells m_sun m_wide m_deep m_hour m_kind m_wet m_at m_readSun m_readWide m_readDeep m_readKind m_readWet m_keptWet m_keptSun m_openFirst m_planHours m_readings m_readCells m_readHours m_readCracked) H → va_D A (W_m cI cS a_m a_m_sorts a_m_sheetLong a_m_cells a_m_kind a_m_wet a_m_readKind a_m_readWet a_m_keptWet a_m_readCells a_m_readHours a_m_readCracked m_fault m_trace m_sorts m_sheetLong m_cells m_sun m_wide m_deep m_hour m_kind m_wet m_at m_readSun m_readWide m_readDeep m_readKind m_readWet m_keptWet m_keptSun m_openFirst m_planHours m_readings m_readCells m_readHours m_readCracked) → va_S A s.heap H locs → lv_has ls 3 [(0, .ref a_m), (1, .int x1)] → W p l e (Rm 2) s m args below meth c H locs 0 0 (MQ below (QW D (tysA cI cS) (some (.int r)) (W_m cI cS a_m a_m_sorts a_m_sheetLong a_m_cells a_m_kind a_m_wet a_m_readKind a_m_readWet a_m_keptWet a_m_readCells a_m_readHours a_m_readCracked m_fault m_trace m_sorts' m_sheetLong m_cells m_sun m_wide m_deep m_hour m_kind m_wet m_at m_readSun m_readWide m_readDeep m_readKind m_readWet m_keptWet m_keptSun m_openFirst m_planHours m_readings m_readCells m_readHours m_readCracked) A) args s 0 0 A) (F0 m 25 ls [.int y0]) := by
  obtain ⟨hx, hb, hr, hml, hown, hts, hlk, hnw⟩ := id Cc
  intro m_sorts x1 y0 r m_sorts' hf H locs ls hP hD hS hl
  unfold fX5_lose_25 at hf
  refine lv_istore_n (lv' := [(2, .int y0), (0, .ref a_m), (1, .int x1)]) hx hb dX5_lose_25 rfl hl (by decide) rfl (fun ls hl => ?_)
  refine lv_aload_n hx hb dX5_lose_26 rfl (lv_at hl 1 rfl) ?_
  refine va_get (D := D) (ci := 5) (v := .ref a_m_sorts) (C := RX5) (T := TX5) (N := 25) hx hb hts inX5 hown hK hP 0 rfl rfl 2 (by decide) (hts _ tw_505) (fun _ h9 => h9) rfl dX5_lose_27 ?_
  refine lv_iload_n hx hb dX5_lose_30 rfl (lv_at hl 2 rfl) ?_
  refine lv_bipush (v := (-9 : Int32)) hx hb dX5_lose_31 (by decide) ?_
  obtain ⟨hin, hf⟩ := gd_some hf
  refine va_iast hx hb hK hP hD hS 1 0 rfl rfl hin dX5_lose_33 (fun H locs hP hD hS => ?_)
  have hP : va_P D classes (W_m cI cS a_m a_m_sorts a_m_sheetLong a_m_cells a_m_kind a_m_wet a_m_readKind a_m_readWet a_m_keptWet a_m_readCells a_m_readHours a_m_readCracked m_fault m_trace (upd m_sorts x1.toNatClampNeg (-9 : Int32)) m_sheetLong m_cells m_sun m_wide m_deep m_hour m_kind m_wet m_at m_readSun m_readWide m_readDeep m_readKind m_readWet m_keptWet m_keptSun m_openFirst m_planHours m_readings m_readCells m_readHours m_readCracked) H := hP
  have hD : va_D A (W_m cI cS a_m a_m_sorts a_m_sheetLong a_m_cells a_m_kind a_m_wet a_m_readKind a_m_readWet a_m_keptWet a_m_readCells a_m_readHours a_m_readCracked m_fault m_trace (upd m_sorts x1.toNatClampNeg (-9 : Int32)) m_sheetLong m_cells m_sun m_wide m_deep m_hour m_kind m_wet m_at m_readSun m_readWide m_readDeep m_readKind m_readWet m_keptWet m_keptSun m_openFirst m_planHours m_readings m_readCells m_readHours m_readCracked) := hD
  refine lv_iload_n hx hb dX5_lose_34 rfl (lv_at hl 0 rfl) ?_
  replace hf := Option.some.inj hf
  obtain ⟨er0, er1⟩ := Prod.mk.inj hf
  clear hf 
  subst er0
  subst er1
  exact rt_i Cc hK hP hD hS dX5_lose_35
set_option maxHeartbeats 4000000 in
set_option maxRecDepth 100000 in
theorem ctX5_lose (l : Launch) (D : va_G) (cI cS : ClassId) (a_m a_m_sorts a_m_sheetLong a_m_cells a_m_kind a_m_wet a_m_readKind a_m_readWet a_m_keptWet a_m_readCells a_m_readHours a_m_readCracked : Nat) (m_fault : Int32) (m_trace : Int32) (m_sorts : Nat → Int32) (m_sheetLong : Nat → Int32) (m_cells : Nat → Int32) (m_sun : Int32) (m_wide : Int32) (m_deep : Int32) (m_hour : Int32) (m_kind : Nat → Int32) (m_wet : Nat → Int32) (m_at : Int32) (m_readSun : Int32) (m_readWide : Int32) (m_readDeep : Int32) (m_readKind : Nat → Int32) (m_readWet : Nat → Int32) (m_keptWet : Nat → Int32) (m_keptSun : Int32) (m_openFirst : Int32) (m_planHours : Int32) (m_readings : Int32) (m_readCells : Nat → Int32) (m_readHours : Nat → Int32) (m_readCracked : Nat → Int32) (p1 : Int32) (n : Nat) (r : Int32) (m_sorts' : Nat → Int32) (hf : fX5_lose n m_sorts p1 = some (r, m_sorts')) : Ct l D (tysA cI cS) yX5_lose cX5_lose 3 (some .int) (Rm 2) [.ref a_m, .int p1] (W_m cI cS a_m a_m_sorts a_m_sheetLong a_m_cells a_m_kind a_m_wet a_m_readKind a_m_readWet a_m_keptWet a_m_readCells a_m_readHours a_m_readCracked m_fault m_trace m_sorts m_sheetLong m_cells m_sun m_wide m_deep m_hour m_kind m_wet m_at m_readSun m_readWide m_readDeep m_readKind m_readWet m_keptWet m_keptSun m_openFirst m_planHours m_readings m_readCells m_readHours m_readCracked) (some (.int r)) (W_m cI cS a_m a_m_sorts a_m_sheetLong a_m_cells a_m_kind a_m_wet a_m_readKind a_m_readWet a_m_keptWet a_m_readCells a_m_readHours a_m_readCracked m_fault m_trace m_sorts' m_sheetLong m_cells m_sun m_wide m_deep m_hour m_kind m_wet m_at m_readSun m_readWide m_readDeep m_readKind m_readWet m_keptWet m_keptSun m_openFirst m_planHours m_readings m_readCells m_readHours m_readCracked) := by
  refine Ct_of (by decide) (Nat.le_of_ble_eq_true rfl) ?_
  intro p e s m args below meth c A ls Cc hK hA hP hD hS hl
  have hl : lv_has ls 3 [(0, .ref a_m), (1, .int p1)] := hl
  obtain ⟨hx, hb, hr, hml, hown, hts, hlk, hnw⟩ := id Cc
  unfold fX5_lose at hf
  refine lv_iload_n hx hb dX5_lose_0 rfl (lv_at hl 1 rfl) ?_
  obtain ⟨q1_1, hq1, hf⟩ := Option.bind_eq_some_iff.mp hf
  refine cSt (ws' := (W_m cI cS a_m a_m_sorts a_m_sheetLong a_m_cells a_m_kind a_m_wet a_m_readKind a_m_readWet a_m_keptWet a_m_readCells a_m_readHours a_m_readCracked m_fault m_trace m_sorts m_sheetLong m_cells m_sun m_wide m_deep m_hour m_kind m_wet m_at m_readSun m_readWide m_readDeep m_readKind m_readWet m_keptWet m_keptSun m_openFirst m_planHours m_readings m_readCells m_readHours m_readCracked)) (rest := []) (st1 := [.int q1_1]) Cc hK hA hP hD hS hl.1 (ctX5_isSheet l D cI cS   p1 n q1_1 hq1) ⟨tw_585, tw_583, tw_584, tw_6⟩ mdX5_isSheet ⟨rfl, rfl, Nat.le_of_ble_eq_true rfl, Nat.le_of_ble_eq_true rfl⟩ rfl dX5_lose_1 rfl (Nat.le_of_ble_eq_true rfl) ⟨Nat.zero_le _, Nat.zero_le _⟩ rfl [] [0, 1, 2, 3, 4, 5, 6, 7, 8, 9, 10, 11] [0, 1, 2, 3, 4, 5, 6, 7, 8, 9, 10, 11] rfl rfl (by decide) rfl (fun H locs hP hD hS => ?_)
  refine lv_if_ne (tgt := 9) hx hb dX5_lose_4 (by decide) (fun hc2 => ?_) (fun hc2 => ?_)
  · replace hf := (if_neg hc2).symm.trans hf
    refine lv_aload_n hx hb dX5_lose_9 rfl (lv_at hl 0 rfl) ?_
    refine va_get (D := D) (ci := 5) (v := .ref a_m_sorts) (C := RX5) (T := TX5) (N := 25) hx hb hts inX5 hown hK hP 0 rfl rfl 2 (by decide) (hts _ tw_505) (fun _ h9 => h9) rfl dX5_lose_10 ?_
    refine lv_iload_n hx hb dX5_lose_13 rfl (lv_at hl 1 rfl) ?_
    obtain ⟨hin, hf⟩ := gd_some hf
    refine va_iald hx hb hK hP 1 0 rfl rfl hin dX5_lose_14 ?_
    refine lv_bipush (v := (-9 : Int32)) hx hb dX5_lose_15 (by decide) ?_
    refine lv_icmp_ne (tgt := 24) hx hb dX5_lose_17 (by decide) (fun hc3 => ?_) (fun hc3 => ?_)
    · replace hf := (if_neg hc3).symm.trans hf
      refine lv_iconst (v := (1 : Int32)) hx hb dX5_lose_24 (by decide) ?_
      exact bX5_lose_25 a_m a_m_sorts a_m_sheetLong a_m_cells a_m_kind a_m_wet a_m_readKind a_m_readWet a_m_keptWet a_m_readCells a_m_readHours a_m_readCracked m_fault m_trace m_sheetLong m_cells m_sun m_wide m_deep m_hour m_kind m_wet m_at m_readSun m_readWide m_readDeep m_readKind m_readWet m_keptWet m_keptSun m_openFirst m_planHours m_readings m_readCells m_readHours m_readCracked Cc hK hA n _ _ _ _ _ hf _ _ _ hP hD hS (lv_sub hl [0, 1] rfl)
    · replace hf := (if_pos hc3).symm.trans hf
      refine lv_iconst (v := (0 : Int32)) hx hb dX5_lose_20 (by decide) ?_
      refine lv_goto (tgt := 25) hx hb dX5_lose_21 (by decide) ?_
      exact bX5_lose_25 a_m a_m_sorts a_m_sheetLong a_m_cells a_m_kind a_m_wet a_m_readKind a_m_readWet a_m_keptWet a_m_readCells a_m_readHours a_m_readCracked m_fault m_trace m_sheetLong m_cells m_sun m_wide m_deep m_hour m_kind m_wet m_at m_readSun m_readWide m_readDeep m_readKind m_readWet m_keptWet m_keptSun m_openFirst m_planHours m_readings m_readCells m_readHours m_readCracked Cc hK hA n _ _ _ _ _ hf _ _ _ hP hD hS (lv_sub hl [0, 1] rfl)
  · replace hf := (if_pos hc2).symm.trans hf
    refine lv_iconst (v := (-1 : Int32)) hx hb dX5_lose_7 (by decide) ?_
    replace hf := Option.some.inj hf
    obtain ⟨er0, er1⟩ := Prod.mk.inj hf
    clear hf 
    subst er0
    subst er1
    exact rt_i Cc hK hP hD hS dX5_lose_8
-- X5_put
def fX5_put (n : Nat) (m_fault : Int32) (m_sorts : Nat → Int32) (m_sheetLong : Nat → Int32) (m_cells : Nat → Int32) (p1 : Int32) (p2 : Int32) (p3 : Int32) : Option (Int32 × Int32 × (Nat → Int32)) := (fX5_isSheet n p1).bind fun q6_1 => if q6_1 = 0 then some ((-1 : Int32), (0 : Int32), m_cells) else gd p1 4 (if (m_sorts p1.toNatClampNeg) = (-9 : Int32) then (fX5_fails n (0 : Int32) (1 : Int32)).bind fun q27_1 => some (q27_1.1, q27_1.2, m_cells) else gd p1 4 ((fX5_within n p2 (0 : Int32) ((m_sheetLong p1.toNatClampNeg) - (1 : Int32))).bind fun q41_1 => if q41_1 = 0 then (fX5_fails n (0 : Int32) (3 : Int32)).bind fun q49_1 => some (q49_1.1, q49_1.2, m_cells) else gd p1 4 (if (m_sorts p1.toNatClampNeg) = 0 then gd (((60 : Int32) * p1) + p2) 240 (some ((1 : Int32), (0 : Int32), (upd m_cells (((60 : Int32) * p1) + p2).toNatClampNeg ((p3).toInt8.toInt32)))) else gd p1 4 (if (m_sorts p1.toNatClampNeg) = (1 : Int32) then gd (((60 : Int32) * p1) + p2) 240 (some ((1 : Int32), (0 : Int32), (upd m_cells (((60 : Int32) * p1) + p2).toNatClampNeg ((p3).toInt16.toInt32)))) else gd (((60 : Int32) * p1) + p2) 240 (some ((1 : Int32), (0 : Int32), (upd m_cells (((60 : Int32) * p1) + p2).toNatClampNeg p3)))))))
theorem mdX5_put : yX5_put.cls = RX5 ∧ yX5_put.cls ≠ "java/lang/invoke/MethodHandle" ∧ yX5_put.cls ≠ "java/lang/invoke/VarHandle" ∧ (parseMethodDescriptor yX5_put.desc).map (fun d => d.parameters.length) = some 3 := by decide +kernel
set_option maxHeartbeats 4000000 in
set_option maxRecDepth 100000 in
theorem ctX5_put (l : Launch) (D : va_G) (cI cS : ClassId) (a_m a_m_sorts a_m_sheetLong a_m_cells a_m_kind a_m_wet a_m_readKind a_m_readWet a_m_keptWet a_m_readCells a_m_readHours a_m_readCracked : Nat) (m_fault : Int32) (m_trace : Int32) (m_sorts : Nat → Int32) (m_sheetLong : Nat → Int32) (m_cells : Nat → Int32) (m_sun : Int32) (m_wide : Int32) (m_deep : Int32) (m_hour : Int32) (m_kind : Nat → Int32) (m_wet : Nat → Int32) (m_at : Int32) (m_readSun : Int32) (m_readWide : Int32) (m_readDeep : Int32) (m_readKind : Nat → Int32) (m_readWet : Nat → Int32) (m_keptWet : Nat → Int32) (m_keptSun : Int32) (m_openFirst : Int32) (m_planHours : Int32) (m_readings : Int32) (m_readCells : Nat → Int32) (m_readHours : Nat → Int32) (m_readCracked : Nat → Int32) (p1 : Int32) (p2 : Int32) (p3 : Int32) (n : Nat) (r : Int32) (m_fault' : Int32) (m_cells' : Nat → Int32) (hf : fX5_put n m_fault m_sorts m_sheetLong m_cells p1 p2 p3 = some (r, m_fault', m_cells')) : Ct l D (tysA cI cS) yX5_put cX5_put 4 (some .int) (Rm 2) [.ref a_m, .int p1, .int p2, .int p3] (W_m cI cS a_m a_m_sorts a_m_sheetLong a_m_cells a_m_kind a_m_wet a_m_readKind a_m_readWet a_m_keptWet a_m_readCells a_m_readHours a_m_readCracked m_fault m_trace m_sorts m_sheetLong m_cells m_sun m_wide m_deep m_hour m_kind m_wet m_at m_readSun m_readWide m_readDeep m_readKind m_readWet m_keptWet m_keptSun m_openFirst m_planHours m_readings m_readCells m_readHours m_readCracked) (some (.int r)) (W_m cI cS a_m a_m_sorts a_m_sheetLong a_m_cells a_m_kind a_m_wet a_m_readKind a_m_readWet a_m_keptWet a_m_readCells a_m_readHours a_m_readCracked m_fault' m_trace m_sorts m_sheetLong m_cells' m_sun m_wide m_deep m_hour m_kind m_wet m_at m_readSun m_readWide m_readDeep m_readKind m_readWet m_keptWet m_keptSun m_openFirst m_planHours m_readings m_readCells m_readHours m_readCracked) := by
  refine Ct_of (by decide) (Nat.le_of_ble_eq_true rfl) ?_
  intro p e s m args below meth c A ls Cc hK hA hP hD hS hl
  have hl : lv_has ls 4 [(0, .ref a_m), (1, .int p1), (2, .int p2), (3, .int p3)] := hl
  obtain ⟨hx, hb, hr, hml, hown, hts, hlk, hnw⟩ := id Cc
  unfold fX5_put at hf
  refine lv_aload_n hx hb dX5_put_0 rfl (lv_at hl 0 rfl) ?_
  refine lv_iconst (v := (0 : Int32)) hx hb dX5_put_1 (by decide) ?_
  refine va_put (D := D) (ci := 5) (v := .int (0 : Int32)) (ty := .int) (C := RX5) (T := TX5) (N := 25) hx hb hts inX5 tyX5 tyX5_ok nmX5 hown hK hP hD hS 0 rfl rfl 0 (by decide) (hts _ tw_503) (fun _ h9 => h9) rfl (tyX5_ok 0 (by decide)) rfl rfl (Nat.le_of_ble_eq_true rfl) dX5_put_2 (fun H locs hP hD hS => ?_)
  have hP : va_P D classes (W_m cI cS a_m a_m_sorts a_m_sheetLong a_m_cells a_m_kind a_m_wet a_m_readKind a_m_readWet a_m_keptWet a_m_readCells a_m_readHours a_m_readCracked (0 : Int32) m_trace m_sorts m_sheetLong m_cells m_sun m_wide m_deep m_hour m_kind m_wet m_at m_readSun m_readWide m_readDeep m_readKind m_readWet m_keptWet m_keptSun m_openFirst m_planHours m_readings m_readCells m_readHours m_readCracked) H := hP
  have hD : va_D A (W_m cI cS a_m a_m_sorts a_m_sheetLong a_m_cells a_m_kind a_m_wet a_m_readKind a_m_readWet a_m_keptWet a_m_readCells a_m_readHours a_m_readCracked (0 : Int32) m_trace m_sorts m_sheetLong m_cells m_sun m_wide m_deep m_hour m_kind m_wet m_at m_readSun m_readWide m_readDeep m_readKind m_readWet m_keptWet m_keptSun m_openFirst m_planHours m_readings m_readCells m_readHours m_readCracked) := hD
  refine lv_iload_n hx hb dX5_put_5 rfl (lv_at hl 1 rfl) ?_
  obtain ⟨q6_1, hq1, hf⟩ := Option.bind_eq_some_iff.mp hf
  refine cSt (ws' := (W_m cI cS a_m a_m_sorts a_m_sheetLong a_m_cells a_m_kind a_m_wet a_m_readKind a_m_readWet a_m_keptWet a_m_readCells a_m_readHours a_m_readCracked (0 : Int32) m_trace m_sorts m_sheetLong m_cells m_sun m_wide m_deep m_hour m_kind m_wet m_at m_readSun m_readWide m_readDeep m_readKind m_readWet m_keptWet m_keptSun m_openFirst m_planHours m_readings m_readCells m_readHours m_readCracked)) (rest := []) (st1 := [.int q6_1]) Cc hK hA hP hD hS hl.1 (ctX5_isSheet l D cI cS   p1 n q6_1 hq1) ⟨tw_585, tw_583, tw_584, tw_6⟩ mdX5_isSheet ⟨rfl, rfl, Nat.le_of_ble_eq_true rfl, Nat.le_of_ble_eq_true rfl⟩ rfl dX5_put_6 rfl (Nat.le_of_ble_eq_true rfl) ⟨Nat.zero_le _, Nat.zero_le _⟩ rfl [] [0, 1, 2, 3, 4, 5, 6, 7, 8, 9, 10, 11] [0, 1, 2, 3, 4, 5, 6, 7, 8, 9, 10, 11] rfl rfl (by decide) rfl (fun H locs hP hD hS => ?_)
  refine lv_if_ne (tgt := 14) hx hb dX5_put_9 (by decide) (fun hc2 => ?_) (fun hc2 => ?_)
  · replace hf := (if_neg hc2).symm.trans hf
    refine lv_aload_n hx hb dX5_put_14 rfl (lv_at hl 0 rfl) ?_
    refine va_get (D := D) (ci := 5) (v := .ref a_m_sorts) (C := RX5) (T := TX5) (N := 25) hx hb hts inX5 hown hK hP 0 rfl rfl 2 (by decide) (hts _ tw_505) (fun _ h9 => h9) rfl dX5_put_15 ?_
    refine lv_iload_n hx hb dX5_put_18 rfl (lv_at hl 1 rfl) ?_
    obtain ⟨hin, hf⟩ := gd_some hf
    refine va_iald hx hb hK hP 1 0 rfl rfl hin dX5_put_19 ?_
    refine lv_bipush (v := (-9 : Int32)) hx hb dX5_put_20 (by decide) ?_
    refine lv_icmp_ne (tgt := 31) hx hb dX5_put_22 (by decide) (fun hc3 => ?_) (fun hc3 => ?_)
    · replace hf := (if_neg hc3).symm.trans hf
      refine lv_iload_n hx hb dX5_put_31 rfl (lv_at hl 2 rfl) ?_
      refine lv_iconst (v := (0 : Int32)) hx hb dX5_put_32 (by decide) ?_
      refine lv_aload_n hx hb dX5_put_33 rfl (lv_at hl 0 rfl) ?_
      refine va_get (D := D) (ci := 5) (v := .ref a_m_sheetLong) (C := RX5) (T := TX5) (N := 25) hx hb hts inX5 hown hK hP 0 rfl rfl 3 (by decide) (hts _ tw_506) (fun _ h9 => h9) rfl dX5_put_34 ?_
      refine lv_iload_n hx hb dX5_put_37 rfl (lv_at hl 1 rfl) ?_
      obtain ⟨hin, hf⟩ := gd_some hf
      refine va_iald hx hb hK hP 2 0 rfl rfl hin dX5_put_38 ?_
      refine lv_iconst (v := (1 : Int32)) hx hb dX5_put_39 (by decide) ?_
      refine lv_isub hx hb dX5_put_40 ?_
      obtain ⟨q41_1, hq4, hf⟩ := Option.bind_eq_some_iff.mp hf
      refine cSt (ws' := (W_m cI cS a_m a_m_sorts a_m_sheetLong a_m_cells a_m_kind a_m_wet a_m_readKind a_m_readWet a_m_keptWet a_m_readCells a_m_readHours a_m_readCracked (0 : Int32) m_trace m_sorts m_sheetLong m_cells m_sun m_wide m_deep m_hour m_kind m_wet m_at m_readSun m_readWide m_readDeep m_readKind m_readWet m_keptWet m_keptSun m_openFirst m_planHours m_readings m_readCells m_readHours m_readCracked)) (rest := []) (st1 := [.int q41_1]) Cc hK hA hP hD hS hl.1 (ctX5_within l D cI cS   p2 (0 : Int32) ((m_sheetLong p1.toNatClampNeg) - (1 : Int32)) n q41_1 hq4) ⟨tw_588, tw_586, tw_587, tw_6⟩ mdX5_within ⟨rfl, rfl, Nat.le_of_ble_eq_true rfl, Nat.le_of_ble_eq_true rfl⟩ rfl dX5_put_41 rfl (Nat.le_of_ble_eq_true rfl) ⟨Nat.zero_le _, Nat.zero_le _⟩ rfl [] [0, 1, 2, 3, 4, 5, 6, 7, 8, 9, 10, 11] [0, 1, 2, 3, 4, 5, 6, 7, 8, 9, 10, 11] rfl rfl (by decide) rfl (fun H locs hP hD hS => ?_)
      refine lv_if_ne (tgt := 53) hx hb dX5_put_44 (by decide) (fun hc5 => ?_) (fun hc5 => ?_)
      · replace hf := (if_neg hc5).symm.trans hf
        refine lv_aload_n hx hb dX5_put_53 rfl (lv_at hl 0 rfl) ?_
        refine va_get (D := D) (ci := 5) (v := .ref a_m_cells) (C := RX5) (T := TX5) (N := 25) hx hb hts inX5 hown hK hP 0 rfl rfl 4 (by decide) (hts _ tw_507) (fun _ h9 => h9) rfl dX5_put_54 ?_
        refine lv_bipush (v := (60 : Int32)) hx hb dX5_put_57 (by decide) ?_
        refine lv_iload_n hx hb dX5_put_59 rfl (lv_at hl 1 rfl) ?_
        refine lv_imul hx hb dX5_put_60 ?_
        refine lv_iload_n hx hb dX5_put_61 rfl (lv_at hl 2 rfl) ?_
        refine lv_iadd hx hb dX5_put_62 ?_
        refine lv_aload_n hx hb dX5_put_63 rfl (lv_at hl 0 rfl) ?_
        refine va_get (D := D) (ci := 5) (v := .ref a_m_sorts) (C := RX5) (T := TX5) (N := 25) hx hb hts inX5 hown hK hP 0 rfl rfl 2 (by decide) (hts _ tw_505) (fun _ h9 => h9) rfl dX5_put_64 ?_
        refine lv_iload_n hx hb dX5_put_67 rfl (lv_at hl 1 rfl) ?_
        obtain ⟨hin, hf⟩ := gd_some hf
        refine va_iald hx hb hK hP 1 0 rfl rfl hin dX5_put_68 ?_
        refine lv_if_ne (tgt := 77) hx hb dX5_put_69 (by decide) (fun hc6 => ?_) (fun hc6 => ?_)
        · replace hf := (if_neg hc6).symm.trans hf
          refine lv_aload_n hx hb dX5_put_77 rfl (lv_at hl 0 rfl) ?_
          refine va_get (D := D) (ci := 5) (v := .ref a_m_sorts) (C := RX5) (T := TX5) (N := 25) hx hb hts inX5 hown hK hP 0 rfl rfl 2 (by decide) (hts _ tw_505) (fun _ h9 => h9) rfl dX5_put_78 ?_
          refine lv_iload_n hx hb dX5_put_81 rfl (lv_at hl 1 rfl) ?_
          obtain ⟨hin, hf⟩ := gd_some hf
          refine va_iald hx hb hK hP 1 0 rfl rfl hin dX5_put_82 ?_
          refine lv_iconst (v := (1 : Int32)) hx hb dX5_put_83 (by decide) ?_
          refine lv_icmp_ne (tgt := 92) hx hb dX5_put_84 (by decide) (fun hc7 => ?_) (fun hc7 => ?_)
          · replace hf := (if_neg hc7).symm.trans hf
            refine lv_iload_n hx hb dX5_put_92 rfl (lv_at hl 3 rfl) ?_
            obtain ⟨hin, hf⟩ := gd_some hf
            refine va_iast hx hb hK hP hD hS 3 0 rfl rfl hin dX5_put_93 (fun H locs hP hD hS => ?_)
            have hP : va_P D classes (W_m cI cS a_m a_m_sorts a_m_sheetLong a_m_cells a_m_kind a_m_wet a_m_readKind a_m_readWet a_m_keptWet a_m_readCells a_m_readHours a_m_readCracked (0 : Int32) m_trace m_sorts m_sheetLong (upd m_cells (((60 : Int32) * p1) + p2).toNatClampNeg p3) m_sun m_wide m_deep m_hour m_kind m_wet m_at m_readSun m_readWide m_readDeep m_readKind m_readWet m_keptWet m_keptSun m_openFirst m_planHours m_readings m_readCells m_readHours m_readCracked) H := hP
            have hD : va_D A (W_m cI cS a_m a_m_sorts a_m_sheetLong a_m_cells a_m_kind a_m_wet a_m_readKind a_m_readWet a_m_keptWet a_m_readCells a_m_readHours a_m_readCracked (0 : Int32) m_trace m_sorts m_sheetLong (upd m_cells (((60 : Int32) * p1) + p2).toNatClampNeg p3) m_sun m_wide m_deep m_hour m_kind m_wet m_at m_readSun m_readWide m_readDeep m_readKind m_readWet m_keptWet m_keptSun m_openFirst m_planHours m_readings m_readCells m_readHours m_readCracked) := hD
            refine lv_iconst (v := (1 : Int32)) hx hb dX5_put_94 (by decide) ?_
            replace hf := Option.some.inj hf
            obtain ⟨er0, er1⟩ := Prod.mk.inj hf
            obtain ⟨er2, er3⟩ := Prod.mk.inj er1
            clear hf er1
            subst er0
            subst er2
            subst er3
            exact rt_i Cc hK hP hD hS dX5_put_95
          · replace hf := (if_pos hc7).symm.trans hf
            refine lv_iload_n hx hb dX5_put_87 rfl (lv_at hl 3 rfl) ?_
            refine lv_i2s (v := (p3).toInt16.toInt32) hx hb dX5_put_88 rfl ?_
            refine lv_goto (tgt := 93) hx hb dX5_put_89 (by decide) ?_
            obtain ⟨hin, hf⟩ := gd_some hf
            refine va_iast hx hb hK hP hD hS 3 0 rfl rfl hin dX5_put_93 (fun H locs hP hD hS => ?_)
            have hP : va_P D classes (W_m cI cS a_m a_m_sorts a_m_sheetLong a_m_cells a_m_kind a_m_wet a_m_readKind a_m_readWet a_m_keptWet a_m_readCells a_m_readHours a_m_readCracked (0 : Int32) m_trace m_sorts m_sheetLong (upd m_cells (((60 : Int32) * p1) + p2).toNatClampNeg ((p3).toInt16.toInt32)) m_sun m_wide m_deep m_hour m_kind m_wet m_at m_readSun m_readWide m_readDeep m_readKind m_readWet m_keptWet m_keptSun m_openFirst m_planHours m_readings m_readCells m_readHours m_readCracked) H := hP
            have hD : va_D A (W_m cI cS a_m a_m_sorts a_m_sheetLong a_m_cells a_m_kind a_m_wet a_m_readKind a_m_readWet a_m_keptWet a_m_readCells a_m_readHours a_m_readCracked (0 : Int32) m_trace m_sorts m_sheetLong (upd m_cells (((60 : Int32) * p1) + p2).toNatClampNeg ((p3).toInt16.toInt32)) m_sun m_wide m_deep m_hour m_kind m_wet m_at m_readSun m_readWide m_readDeep m_readKind m_readWet m_keptWet m_keptSun m_openFirst m_planHours m_readings m_readCells m_readHours m_readCracked) := hD
            refine lv_iconst (v := (1 : Int32)) hx hb dX5_put_94 (by decide) ?_
            replace hf := Option.some.inj hf
            obtain ⟨er0, er1⟩ := Prod.mk.inj hf
            obtain ⟨er2, er3⟩ := Prod.mk.inj er1
            clear hf er1
            subst er0
            subst er2
            subst er3
            exact rt_i Cc hK hP hD hS dX5_put_95
        · replace hf := (if_pos hc6).symm.trans hf
          refine lv_iload_n hx hb dX5_put_72 rfl (lv_at hl 3 rfl) ?_
          refine lv_i2b (v := (p3).toInt8.toInt32) hx hb dX5_put_73 rfl ?_
          refine lv_goto (tgt := 93) hx hb dX5_put_74 (by decide) ?_
          obtain ⟨hin, hf⟩ := gd_some hf
          refine va_iast hx hb hK hP hD hS 3 0 rfl rfl hin dX5_put_93 (fun H locs hP hD hS => ?_)
          have hP : va_P D classes (W_m cI cS a_m a_m_sorts a_m_sheetLong a_m_cells a_m_kind a_m_wet a_m_readKind a_m_readWet a_m_keptWet a_m_readCells a_m_readHours a_m_readCracked (0 : Int32) m_trace m_sorts m_sheetLong (upd m_cells (((60 : Int32) * p1) + p2).toNatClampNeg ((p3).toInt8.toInt32)) m_sun m_wide m_deep m_hour m_kind m_wet m_at m_readSun m_readWide m_readDeep m_readKind m_readWet m_keptWet m_keptSun m_openFirst m_planHours m_readings m_readCells m_readHours m_readCracked) H := hP
          have hD : va_D A (W_m cI cS a_m a_m_sorts a_m_sheetLong a_m_cells a_m_kind a_m_wet a_m_readKind a_m_readWet a_m_keptWet a_m_readCells a_m_readHours a_m_readCracked (0 : Int32) m_trace m_sorts m_sheetLong (upd m_cells (((60 : Int32) * p1) + p2).toNatClampNeg ((p3).toInt8.toInt32)) m_sun m_wide m_deep m_hour m_kind m_wet m_at m_readSun m_readWide m_readDeep m_readKind m_readWet m_keptWet m_keptSun m_openFirst m_planHours m_readings m_readCells m_readHours m_readCracked) := hD
          refine lv_iconst (v := (1 : Int32)) hx hb dX5_put_94 (by decide) ?_
          replace hf := Option.some.inj hf
          obtain ⟨er0, er1⟩ := Prod.mk.inj hf
          obtain ⟨er2, er3⟩ := Prod.mk.inj er1
          clear hf er1
          subst er0
          subst er2
          subst er3
          exact rt_i Cc hK hP hD hS dX5_put_95
      · replace hf := (if_pos hc5).symm.trans hf
        refine lv_aload_n hx hb dX5_put_47 rfl (lv_at hl 0 rfl) ?_
        refine lv_iconst (v := (3 : Int32)) hx hb dX5_put_48 (by decide) ?_
        obtain ⟨q49_1, hq8, hf⟩ := Option.bind_eq_some_iff.mp hf
        refine cV (ws' := (W_m cI cS a_m a_m_sorts a_m_sheetLong a_m_cells a_m_kind a_m_wet a_m_readKind a_m_readWet a_m_keptWet a_m_readCells a_m_readHours a_m_readCracked q49_1.2 m_trace m_sorts m_sheetLong m_cells m_sun m_wide m_deep m_hour m_kind m_wet m_at m_readSun m_readWide m_readDeep m_readKind m_readWet m_keptWet m_keptSun m_openFirst m_planHours m_readings m_readCells m_readHours m_readCracked)) (rest := []) (st1 := [.int q49_1.1]) Cc hK hA hP hD hS hl.1 (ctX5_fails l D cI cS a_m a_m_sorts a_m_sheetLong a_m_cells a_m_kind a_m_wet a_m_readKind a_m_readWet a_m_keptWet a_m_readCells a_m_readHours a_m_readCracked (0 : Int32) m_trace m_sorts m_sheetLong m_cells m_sun m_wide m_deep m_hour m_kind m_wet m_at m_readSun m_readWide m_readDeep m_readKind m_readWet m_keptWet m_keptSun m_openFirst m_planHours m_readings m_readCells m_readHours m_readCracked (3 : Int32) n q49_1.1 q49_1.2 hq8) ⟨tw_599, tw_596, tw_598, tp_12, tw_6⟩ mdX5_fails ⟨rfl, rfl, Nat.le_of_ble_eq_true rfl, Nat.le_of_ble_eq_true rfl⟩ rfl dX5_put_49 rfl (Nat.le_of_ble_eq_true rfl) ⟨Nat.zero_le _, Nat.zero_le _⟩ rfl rfl rfl [0, 1, 2, 3, 4, 5, 6, 7, 8, 9, 10, 11] [] [0, 1, 2, 3, 4, 5, 6, 7, 8, 9, 10, 11] rfl rfl (by decide) rfl (fun H locs hP hD hS => ?_)
        replace hf := Option.some.inj hf
        obtain ⟨er0, er1⟩ := Prod.mk.inj hf
        obtain ⟨er2, er3⟩ := Prod.mk.inj er1
        clear hf er1
        subst er0
        subst er2
        subst er3
        exact rt_i Cc hK hP hD hS dX5_put_52
    · replace hf := (if_pos hc3).symm.trans hf
      refine lv_aload_n hx hb dX5_put_25 rfl (lv_at hl 0 rfl) ?_
      refine lv_iconst (v := (1 : Int32)) hx hb dX5_put_26 (by decide) ?_
      obtain ⟨q27_1, hq9, hf⟩ := Option.bind_eq_some_iff.mp hf
      refine cV (ws' := (W_m cI cS a_m a_m_sorts a_m_sheetLong a_m_cells a_m_kind a_m_wet a_m_readKind a_m_readWet a_m_keptWet a_m_readCells a_m_readHours a_m_readCracked q27_1.2 m_trace m_sorts m_sheetLong m_cells m_sun m_wide m_deep m_hour m_kind m_wet m_at m_readSun m_readWide m_readDeep m_readKind m_readWet m_keptWet m_keptSun m_openFirst m_planHours m_readings m_readCells m_readHours m_readCracked)) (rest := []) (st1 := [.int q27_1.1]) Cc hK hA hP hD hS hl.1 (ctX5_fails l D cI cS a_m a_m_sorts a_m_sheetLong a_m_cells a_m_kind a_m_wet a_m_readKind a_m_readWet a_m_keptWet a_m_readCells a_m_readHours a_m_readCracked (0 : Int32) m_trace m_sorts m_sheetLong m_cells m_sun m_wide m_deep m_hour m_kind m_wet m_at m_readSun m_readWide m_readDeep m_readKind m_readWet m_keptWet m_keptSun m_openFirst m_planHours m_readings m_readCells m_readHours m_readCracked (1 : Int32) n q27_1.1 q27_1.2 hq9) ⟨tw_599, tw_596, tw_598, tp_12, tw_6⟩ mdX5_fails ⟨rfl, rfl, Nat.le_of_ble_eq_true rfl, Nat.le_of_ble_eq_true rfl⟩ rfl dX5_put_27 rfl (Nat.le_of_ble_eq_true rfl) ⟨Nat.zero_le _, Nat.zero_le _⟩ rfl rfl rfl [0, 1, 2, 3, 4, 5, 6, 7, 8, 9, 10, 11] [] [0, 1, 2, 3, 4, 5, 6, 7, 8, 9, 10, 11] rfl rfl (by decide) rfl (fun H locs hP hD hS => ?_)
      replace hf := Option.some.inj hf
      obtain ⟨er0, er1⟩ := Prod.mk.inj hf
      obtain ⟨er2, er3⟩ := Prod.mk.inj er1
      clear hf er1
      subst er0
      subst er2
      subst er3
      exact rt_i Cc hK hP hD hS dX5_put_30
  · replace hf := (if_pos hc2).symm.trans hf
    refine lv_iconst (v := (-1 : Int32)) hx hb dX5_put_12 (by decide) ?_
    replace hf := Option.some.inj hf
    obtain ⟨er0, er1⟩ := Prod.mk.inj hf
    obtain ⟨er2, er3⟩ := Prod.mk.inj er1
    clear hf er1
    subst er0
    subst er2
    subst er3
    exact rt_i Cc hK hP hD hS dX5_put_13
-- X5_cell
def fX5_cell_50 (n : Nat) (m_fault : Int32) (m_sorts : Nat → Int32) (m_sheetLong : Nat → Int32) (m_cells : Nat → Int32) (x1 : Int32) (x2 : Int32) : Option (Int64 × Int32) := gd x1 4 (if (m_sorts x1.toNatClampNeg) = (-9 : Int32) then (fX5_lost n m_fault (1 : Int32)).bind fun q63_1 => some (q63_1.1, q63_1.2) else gd x1 4 ((fX5_within n x2 (0 : Int32) ((m_sheetLong x1.toNatClampNeg) - (1 : Int32))).bind fun q77_1 => if q77_1 = 0 then (fX5_lost n m_fault (3 : Int32)).bind fun q85_1 => some (q85_1.1, q85_1.2) else gd (((60 : Int32) * x1) + x2) 240 (some (((m_cells (((60 : Int32) * x1) + x2).toNatClampNeg)).toInt64, m_fault))))
def fX5_cell (n : Nat) (m_fault : Int32) (m_sorts : Nat → Int32) (m_sheetLong : Nat → Int32) (m_cells : Nat → Int32) (p1 : Int32) (p2 : Int32) (p3 : Int32) : Option (Int64 × Int32) := (fX5_isSheet n p1).bind fun q6_1 => if q6_1 = 0 then some ((-9223372036854775808 : Int64), (0 : Int32)) else (fX5_isSort n p3).bind fun q13_1 => if q13_1 = 0 then some ((-9223372036854775808 : Int64), (0 : Int32)) else gd p1 4 (if (m_sorts p1.toNatClampNeg) = (-9 : Int32) then fX5_cell_50 n (0 : Int32) m_sorts m_sheetLong m_cells p1 p2 else gd p1 4 (if (m_sorts p1.toNatClampNeg) = p3 then fX5_cell_50 n (0 : Int32) m_sorts m_sheetLong m_cells p1 p2 else (fX5_lost n (0 : Int32) (2 : Int32)).bind fun q46_1 => some (q46_1.1, q46_1.2)))
theorem mdX5_cell : yX5_cell.cls = RX5 ∧ yX5_cell.cls ≠ "java/lang/invoke/MethodHandle" ∧ yX5_cell.cls ≠ "java/lang/invoke/VarHandle" ∧ (parseMethodDescriptor yX5_cell.desc).map (fun d => d.parameters.length) = some 3 := by decide +kernel
set_option maxHeartbeats 4000000 in
set_option maxRecDepth 100000 in
theorem bX5_cell_50 {p : Program} {l : Launch} {e : Env} {s : State} {m : MethodId} {args : Array Value} {below : List Frame} {meth : Method} {c : Code} {A : Nat → Prop} {D : va_G} {cI cS : ClassId} (a_m a_m_sorts a_m_sheetLong a_m_cells a_m_kind a_m_wet a_m_readKind a_m_readWet a_m_keptWet a_m_readCells a_m_readHours a_m_readCracked : Nat) (m_trace : Int32) (m_sun : Int32) (m_wide : Int32) (m_deep : Int32) (m_hour : Int32) (m_kind : Nat → Int32) (m_wet : Nat → Int32) (m_at : Int32) (m_readSun : Int32) (m_readWide : Int32) (m_readDeep : Int32) (m_readKind : Nat → Int32) (m_readWet : Nat → Int32) (m_keptWet : Nat → Int32) (m_keptSun : Int32) (m_openFirst : Int32) (m_planHours : Int32) (m_readings : Int32) (m_readCells : Nat → Int32) (m_readHours : Nat → Int32) (m_readCracked : Nat → Int32) (Cc : Cx p s m args meth c RX5 cX5_cell 4 (some .long)) (hK : va_K D classes (tysA cI cS) s) (hA : ∀ q, s.heap.size ≤ q → A q) (n : Nat) : ∀ (m_fault : Int32) (m_sorts : Nat → Int32) (m_sheetLong : Nat → Int32) (m_cells : Nat → Int32) (x1 : Int32) (x2 : Int32) (r : Int64) (m_fault' : Int32), fX5_cell_50 n m_fault m_sorts m_sheetLong m_cells x1 x2 = some (r, m_fault') → ∀ (H : Heap) (locs : List Loc) (ls : Array Slot), va_P D classes (W_m cI cS a_m a_m_sorts a_m_sheetLong a_m_cells a_m_kind a_m_wet a_m_readKind a_m_readWet a_m_keptWet a_m_readCells a_m_readHours a_m_readCracked m_fault m_trace m_sorts m_sheetLong m_cells m_sun m_wide m_deep m_hour m_kind m_wet m_at m_readSun m_readWide m_readDeep m_readKind m_readWet m_keptWet m_keptSun m_openFirst m_planHours m_readings m_readCells m_readHours m_readCracked) H → va_D A (W_m cI cS a_m a_m_sorts a_m_sheetLong a_m_cells a_m_kind a_m_wet a_m_readKind a_m_readWet a_m_keptWet a_m_readCells a_m_readHours a_m_readCracked m_fault m_trace m_sorts m_sheetLong m_cells m_sun m_wide m_deep m_hour m_kind m_wet m_at m_readSun m_readWide m_readDeep m_readKind m_readWet m_keptWet m_keptSun m_openFirst m_planHours m_readings m_readCells m_readHours m_readCracked) → va_S A s.heap H locs → lv_has ls 4 [(0, .ref a_m), (1, .int x1), (2, .int x2)] → W p l e (Rm 2) s m args below meth c H locs 0 0 (MQ below (QW D (tysA cI cS) (some (.long r)) (W_m cI cS a_m a_m_sorts a_m_sheetLong a_m_cells a_m_kind a_m_wet a_m_readKind a_m_readWet a_m_keptWet a_m_readCells a_m_readHours a_m_readCracked m_fault' m_trace m_sorts m_sheetLong m_cells m_sun m_wide m_deep m_hour m_kind m_wet m_at m_readSun m_readWide m_readDeep m_readKind m_readWet m_keptWet m_keptSun m_openFirst m_planHours m_readings m_readCells m_readHours m_readCracked) A) args s 0 0 A) (F0 m 50 ls []) := by
  obtain ⟨hx, hb, hr, hml, hown, hts, hlk, hnw⟩ := id Cc
  intro m_fault m_sorts m_sheetLong m_cells x1 x2 r m_fault' hf H locs ls hP hD hS hl
  unfold fX5_cell_50 at hf
  refine lv_aload_n hx hb dX5_cell_50 rfl (lv_at hl 0 rfl) ?_
  refine va_get (D := D) (ci := 5) (v := .ref a_m_sorts) (C := RX5) (T := TX5) (N := 25) hx hb hts inX5 hown hK hP 0 rfl rfl 2 (by decide) (hts _ tw_505) (fun _ h9 => h9) rfl dX5_cell_51 ?_
  refine lv_iload_n hx hb dX5_cell_54 rfl (lv_at hl 1 rfl) ?_
  obtain ⟨hin, hf⟩ := gd_some hf
  refine va_iald hx hb hK hP 1 0 rfl rfl hin dX5_cell_55 ?_
  refine lv_bipush (v := (-9 : Int32)) hx hb dX5_cell_56 (by decide) ?_
  refine lv_icmp_ne (tgt := 67) hx hb dX5_cell_58 (by decide) (fun hc6 => ?_) (fun hc6 => ?_)
  · replace hf := (if_neg hc6).symm.trans hf
    refine lv_iload_n hx hb dX5_cell_67 rfl (lv_at hl 2 rfl) ?_
    refine lv_iconst (v := (0 : Int32)) hx hb dX5_cell_68 (by decide) ?_
    refine lv_aload_n hx hb dX5_cell_69 rfl (lv_at hl 0 rfl) ?_
    refine va_get (D := D) (ci := 5) (v := .ref a_m_sheetLong) (C := RX5) (T := TX5) (N := 25) hx hb hts inX5 hown hK hP 0 rfl rfl 3 (by decide) (hts _ tw_506) (fun _ h9 => h9) rfl dX5_cell_70 ?_
    refine lv_iload_n hx hb dX5_cell_73 rfl (lv_at hl 1 rfl) ?_
    obtain ⟨hin, hf⟩ := gd_some hf
    refine va_iald hx hb hK hP 2 0 rfl rfl hin dX5_cell_74 ?_
    refine lv_iconst (v := (1 : Int32)) hx hb dX5_cell_75 (by decide) ?_
    refine lv_isub hx hb dX5_cell_76 ?_
    obtain ⟨q77_1, hq7, hf⟩ := Option.bind_eq_some_iff.mp hf
    refine cSt (ws' := (W_m cI cS a_m a_m_sorts a_m_sheetLong a_m_cells a_m_kind a_m_wet a_m_readKind a_m_readWet a_m_keptWet a_m_readCells a_m_readHours a_m_readCracked m_fault m_trace m_sorts m_sheetLong m_cells m_sun m_wide m_deep m_hour m_kind m_wet m_at m_readSun m_readWide m_readDeep m_readKind m_readWet m_keptWet m_keptSun m_openFirst m_planHours m_readings m_readCells m_readHours m_readCracked)) (rest := []) (st1 := [.int q77_1]) Cc hK hA hP hD hS hl.1 (ctX5_within l D cI cS   x2 (0 : Int32) ((m_sheetLong x1.toNatClampNeg) - (1 : Int32)) n q77_1 hq7) ⟨tw_588, tw_586, tw_587, tw_6⟩ mdX5_within ⟨rfl, rfl, Nat.le_of_ble_eq_true rfl, Nat.le_of_ble_eq_true rfl⟩ rfl dX5_cell_77 rfl (Nat.le_of_ble_eq_true rfl) ⟨Nat.zero_le _, Nat.zero_le _⟩ rfl [] [0, 1, 2, 3, 4, 5, 6, 7, 8, 9, 10, 11] [0, 1, 2, 3, 4, 5, 6, 7, 8, 9, 10, 11] rfl rfl (by decide) rfl (fun H locs hP hD hS => ?_)
    refine lv_if_ne (tgt := 89) hx hb dX5_cell_80 (by decide) (fun hc8 => ?_) (fun hc8 => ?_)
    · replace hf := (if_neg hc8).symm.trans hf
      refine lv_aload_n hx hb dX5_cell_89 rfl (lv_at hl 0 rfl) ?_
      refine va_get (D := D) (ci := 5) (v := .ref a_m_cells) (C := RX5) (T := TX5) (N := 25) hx hb hts inX5 hown hK hP 0 rfl rfl 4 (by decide) (hts _ tw_507) (fun _ h9 => h9) rfl dX5_cell_90 ?_
      refine lv_bipush (v := (60 : Int32)) hx hb dX5_cell_93 (by decide) ?_
      refine lv_iload_n hx hb dX5_cell_95 rfl (lv_at hl 1 rfl) ?_
      refine lv_imul hx hb dX5_cell_96 ?_
      refine lv_iload_n hx hb dX5_cell_97 rfl (lv_at hl 2 rfl) ?_
      refine lv_iadd hx hb dX5_cell_98 ?_
      obtain ⟨hin, hf⟩ := gd_some hf
      refine va_iald hx hb hK hP 3 0 rfl rfl hin dX5_cell_99 ?_
      refine lv_i2l (v := ((m_cells (((60 : Int32) * x1) + x2).toNatClampNeg)).toInt64) hx hb dX5_cell_100 rfl ?_
      replace hf := Option.some.inj hf
      obtain ⟨er0, er1⟩ := Prod.mk.inj hf
      clear hf 
      subst er0
      subst er1
      exact rt_l Cc hK hP hD hS dX5_cell_101
    · replace hf := (if_pos hc8).symm.trans hf
      refine lv_aload_n hx hb dX5_cell_83 rfl (lv_at hl 0 rfl) ?_
      refine lv_iconst (v := (3 : Int32)) hx hb dX5_cell_84 (by decide) ?_
      obtain ⟨q85_1, hq9, hf⟩ := Option.bind_eq_some_iff.mp hf
      refine cV (ws' := (W_m cI cS a_m a_m_sorts a_m_sheetLong a_m_cells a_m_kind a_m_wet a_m_readKind a_m_readWet a_m_keptWet a_m_readCells a_m_readHours a_m_readCracked q85_1.2 m_trace m_sorts m_sheetLong m_cells m_sun m_wide m_deep m_hour m_kind m_wet m_at m_readSun m_readWide m_readDeep m_readKind m_readWet m_keptWet m_keptSun m_openFirst m_planHours m_readings m_readCells m_readHours m_readCracked)) (rest := []) (st1 := [.long q85_1.1]) Cc hK hA hP hD hS hl.1 (ctX5_lost l D cI cS a_m a_m_sorts a_m_sheetLong a_m_cells a_m_kind a_m_wet a_m_readKind a_m_readWet a_m_keptWet a_m_readCells a_m_readHours a_m_readCracked m_fault m_trace m_sorts m_sheetLong m_cells m_sun m_wide m_deep m_hour m_kind m_wet m_at m_readSun m_readWide m_readDeep m_readKind m_readWet m_keptWet m_keptSun m_openFirst m_planHours m_readings m_readCells m_readHours m_readCracked (3 : Int32) n q85_1.1 q85_1.2 hq9) ⟨tw_796, tw_793, tw_795, tp_36, tw_6⟩ mdX5_lost ⟨rfl, rfl, Nat.le_of_ble_eq_true rfl, Nat.le_of_ble_eq_true rfl⟩ rfl dX5_cell_85 rfl (Nat.le_of_ble_eq_true rfl) ⟨Nat.zero_le _, Nat.zero_le _⟩ rfl rfl rfl [0, 1, 2, 3, 4, 5, 6, 7, 8, 9, 10, 11] [] [0, 1, 2, 3, 4, 5, 6, 7, 8, 9, 10, 11] rfl rfl (by decide) rfl (fun H locs hP hD hS => ?_)
      replace hf := Option.some.inj hf
      obtain ⟨er0, er1⟩ := Prod.mk.inj hf
      clear hf 
      subst er0
      subst er1
      exact rt_l Cc hK hP hD hS dX5_cell_88
  · replace hf := (if_pos hc6).symm.trans hf
    refine lv_aload_n hx hb dX5_cell_61 rfl (lv_at hl 0 rfl) ?_
    refine lv_iconst (v := (1 : Int32)) hx hb dX5_cell_62 (by decide) ?_
    obtain ⟨q63_1, hq10, hf⟩ := Option.bind_eq_some_iff.mp hf
    refine cV (ws' := (W_m cI cS a_m a_m_sorts a_m_sheetLong a_m_cells a_m_kind a_m_wet a_m_readKind a_m_readWet a_m_keptWet a_m_readCells a_m_readHours a_m_readCracked q63_1.2 m_trace m_sorts m_sheetLong m_cells m_sun m_wide m_deep m_hour m_kind m_wet m_at m_readSun m_readWide m_readDeep m_readKind m_readWet m_keptWet m_keptSun m_openFirst m_planHours m_readings m_readCells m_readHours m_readCracked)) (rest := []) (st1 := [.long q63_1.1]) Cc hK hA hP hD hS hl.1 (ctX5_lost l D cI cS a_m a_m_sorts a_m_sheetLong a_m_cells a_m_kind a_m_wet a_m_readKind a_m_readWet a_m_keptWet a_m_readCells a_m_readHours a_m_readCracked m_fault m_trace m_sorts m_sheetLong m_cells m_sun m_wide m_deep m_hour m_kind m_wet m_at m_readSun m_readWide m_readDeep m_readKind m_readWet m_keptWet m_keptSun m_openFirst m_planHours m_readings m_readCells m_readHours m_readCracked (1 : Int32) n q63_1.1 q63_1.2 hq10) ⟨tw_796, tw_793, tw_795, tp_36, tw_6⟩ mdX5_lost ⟨rfl, rfl, Nat.le_of_ble_eq_true rfl, Nat.le_of_ble_eq_true rfl⟩ rfl dX5_cell_63 rfl (Nat.le_of_ble_eq_true rfl) ⟨Nat.zero_le _, Nat.zero_le _⟩ rfl rfl rfl [0, 1, 2, 3, 4, 5, 6, 7, 8, 9, 10, 11] [] [0, 1, 2, 3, 4, 5, 6, 7, 8, 9, 10, 11] rfl rfl (by decide) rfl (fun H locs hP hD hS => ?_)
    replace hf := Option.some.inj hf
    obtain ⟨er0, er1⟩ := Prod.mk.inj hf
    clear hf 
    subst er0
    subst er1
    exact rt_l Cc hK hP hD hS dX5_cell_66
set_option maxHeartbeats 4000000 in
set_option maxRecDepth 100000 in
theorem ctX5_cell (l : Launch) (D : va_G) (cI cS : ClassId) (a_m a_m_sorts a_m_sheetLong a_m_cells a_m_kind a_m_wet a_m_readKind a_m_readWet a_m_keptWet a_m_readCells a_m_readHours a_m_readCracked : Nat) (m_fault : Int32) (m_trace : Int32) (m_sorts : Nat → Int32) (m_sheetLong : Nat → Int32) (m_cells : Nat → Int32) (m_sun : Int32) (m_wide : Int32) (m_deep : Int32) (m_hour : Int32) (m_kind : Nat → Int32) (m_wet : Nat → Int32) (m_at : Int32) (m_readSun : Int32) (m_readWide : Int32) (m_readDeep : Int32) (m_readKind : Nat → Int32) (m_readWet : Nat → Int32) (m_keptWet : Nat → Int32) (m_keptSun : Int32) (m_openFirst : Int32) (m_planHours : Int32) (m_readings : Int32) (m_readCells : Nat → Int32) (m_readHours : Nat → Int32) (m_readCracked : Nat → Int32) (p1 : Int32) (p2 : Int32) (p3 : Int32) (n : Nat) (r : Int64) (m_fault' : Int32) (hf : fX5_cell n m_fault m_sorts m_sheetLong m_cells p1 p2 p3 = some (r, m_fault')) : Ct l D (tysA cI cS) yX5_cell cX5_cell 4 (some .long) (Rm 2) [.ref a_m, .int p1, .int p2, .int p3] (W_m cI cS a_m a_m_sorts a_m_sheetLong a_m_cells a_m_kind a_m_wet a_m_readKind a_m_readWet a_m_keptWet a_m_readCells a_m_readHours a_m_readCracked m_fault m_trace m_sorts m_sheetLong m_cells m_sun m_wide m_deep m_hour m_kind m_wet m_at m_readSun m_readWide m_readDeep m_readKind m_readWet m_keptWet m_keptSun m_openFirst m_planHours m_readings m_readCells m_readHours m_readCracked) (some (.long r)) (W_m cI cS a_m a_m_sorts a_m_sheetLong a_m_cells a_m_kind a_m_wet a_m_readKind a_m_readWet a_m_keptWet a_m_readCells a_m_readHours a_m_readCracked m_fault' m_trace m_sorts m_sheetLong m_cells m_sun m_wide m_deep m_hour m_kind m_wet m_at m_readSun m_readWide m_readDeep m_readKind m_readWet m_keptWet m_keptSun m_openFirst m_planHours m_readings m_readCells m_readHours m_readCracked) := by
  refine Ct_of (by decide) (Nat.le_of_ble_eq_true rfl) ?_
  intro p e s m args below meth c A ls Cc hK hA hP hD hS hl
  have hl : lv_has ls 4 [(0, .ref a_m), (1, .int p1), (2, .int p2), (3, .int p3)] := hl
  obtain ⟨hx, hb, hr, hml, hown, hts, hlk, hnw⟩ := id Cc
  unfold fX5_cell at hf
  refine lv_aload_n hx hb dX5_cell_0 rfl (lv_at hl 0 rfl) ?_
  refine lv_iconst (v := (0 : Int32)) hx hb dX5_cell_1 (by decide) ?_
  refine va_put (D := D) (ci := 5) (v := .int (0 : Int32)) (ty := .int) (C := RX5) (T := TX5) (N := 25) hx hb hts inX5 tyX5 tyX5_ok nmX5 hown hK hP hD hS 0 rfl rfl 0 (by decide) (hts _ tw_503) (fun _ h9 => h9) rfl (tyX5_ok 0 (by decide)) rfl rfl (Nat.le_of_ble_eq_true rfl) dX5_cell_2 (fun H locs hP hD hS => ?_)
  have hP : va_P D classes (W_m cI cS a_m a_m_sorts a_m_sheetLong a_m_cells a_m_kind a_m_wet a_m_readKind a_m_readWet a_m_keptWet a_m_readCells a_m_readHours a_m_readCracked (0 : Int32) m_trace m_sorts m_sheetLong m_cells m_sun m_wide m_deep m_hour m_kind m_wet m_at m_readSun m_readWide m_readDeep m_readKind m_readWet m_keptWet m_keptSun m_openFirst m_planHours m_readings m_readCells m_readHours m_readCracked) H := hP
  have hD : va_D A (W_m cI cS a_m a_m_sorts a_m_sheetLong a_m_cells a_m_kind a_m_wet a_m_readKind a_m_readWet a_m_keptWet a_m_readCells a_m_readHours a_m_readCracked (0 : Int32) m_trace m_sorts m_sheetLong m_cells m_sun m_wide m_deep m_hour m_kind m_wet m_at m_readSun m_readWide m_readDeep m_readKind m_readWet m_keptWet m_keptSun m_openFirst m_planHours m_readings m_readCells m_readHours m_readCracked) := hD
  refine lv_iload_n hx hb dX5_cell_5 rfl (lv_at hl 1 rfl) ?_
  obtain ⟨q6_1, hq1, hf⟩ := Option.bind_eq_some_iff.mp hf
  refine cSt (ws' := (W_m cI cS a_m a_m_sorts a_m_sheetLong a_m_cells a_m_kind a_m_wet a_m_readKind a_m_readWet a_m_keptWet a_m_readCells a_m_readHours a_m_readCracked (0 : Int32) m_trace m_sorts m_sheetLong m_cells m_sun m_wide m_deep m_hour m_kind m_wet m_at m_readSun m_readWide m_readDeep m_readKind m_readWet m_keptWet m_keptSun m_openFirst m_planHours m_readings m_readCells m_readHours m_readCracked)) (rest := []) (st1 := [.int q6_1]) Cc hK hA hP hD hS hl.1 (ctX5_isSheet l D cI cS   p1 n q6_1 hq1) ⟨tw_585, tw_583, tw_584, tw_6⟩ mdX5_isSheet ⟨rfl, rfl, Nat.le_of_ble_eq_true rfl, Nat.le_of_ble_eq_true rfl⟩ rfl dX5_cell_6 rfl (Nat.le_of_ble_eq_true rfl) ⟨Nat.zero_le _, Nat.zero_le _⟩ rfl [] [0, 1, 2, 3, 4, 5, 6, 7, 8, 9, 10, 11] [0, 1, 2, 3, 4, 5, 6, 7, 8, 9, 10, 11] rfl rfl (by decide) rfl (fun H locs hP hD hS => ?_)
  refine lv_if_eq (tgt := 19) hx hb dX5_cell_9 (by decide) (fun hc2 => ?_) (fun hc2 => ?_)
  · replace hf := (if_pos hc2).symm.trans hf
    refine lv_ldc2 hx hb hown (hts _ tw_773) dX5_cell_19 ?_
    replace hf := Option.some.inj hf
    obtain ⟨er0, er1⟩ := Prod.mk.inj hf
    clear hf 
    subst er0
    subst er1
    exact rt_l Cc hK hP hD hS dX5_cell_22
  · replace hf := (if_neg hc2).symm.trans hf
    refine lv_iload_n hx hb dX5_cell_12 rfl (lv_at hl 3 rfl) ?_
    obtain ⟨q13_1, hq3, hf⟩ := Option.bind_eq_some_iff.mp hf
    refine cSt (ws' := (W_m cI cS a_m a_m_sorts a_m_sheetLong a_m_cells a_m_kind a_m_wet a_m_readKind a_m_readWet a_m_keptWet a_m_readCells a_m_readHours a_m_readCracked (0 : Int32) m_trace m_sorts m_sheetLong m_cells m_sun m_wide m_deep m_hour m_kind m_wet m_at m_readSun m_readWide m_readDeep m_readKind m_readWet m_keptWet m_keptSun m_openFirst m_planHours m_readings m_readCells m_readHours m_readCracked)) (rest := []) (st1 := [.int q13_1]) Cc hK hA hP hD hS hl.1 (ctX5_isSort l D cI cS   p3 n q13_1 hq3) ⟨tw_591, tw_589, tw_590, tw_6⟩ mdX5_isSort ⟨rfl, rfl, Nat.le_of_ble_eq_true rfl, Nat.le_of_ble_eq_true rfl⟩ rfl dX5_cell_13 rfl (Nat.le_of_ble_eq_true rfl) ⟨Nat.zero_le _, Nat.zero_le _⟩ rfl [] [0, 1, 2, 3, 4, 5, 6, 7, 8, 9, 10, 11] [0, 1, 2, 3, 4, 5, 6, 7, 8, 9, 10, 11] rfl rfl (by decide) rfl (fun H locs hP hD hS => ?_)
    refine lv_if_ne (tgt := 23) hx hb dX5_cell_16 (by decide) (fun hc4 => ?_) (fun hc4 => ?_)
    · replace hf := (if_neg hc4).symm.trans hf
      refine lv_aload_n hx hb dX5_cell_23 rfl (lv_at hl 0 rfl) ?_
      refine va_get (D := D) (ci := 5) (v := .ref a_m_sorts) (C := RX5) (T := TX5) (N := 25) hx hb hts inX5 hown hK hP 0 rfl rfl 2 (by decide) (hts _ tw_505) (fun _ h9 => h9) rfl dX5_cell_24 ?_
      refine lv_iload_n hx hb dX5_cell_27 rfl (lv_at hl 1 rfl) ?_
      obtain ⟨hin, hf⟩ := gd_some hf
      refine va_iald hx hb hK hP 1 0 rfl rfl hin dX5_cell_28 ?_
      refine lv_bipush (v := (-9 : Int32)) hx hb dX5_cell_29 (by decide) ?_
      refine lv_icmp_eq (tgt := 50) hx hb dX5_cell_31 (by decide) (fun hc5 => ?_) (fun hc5 => ?_)
      · replace hf := (if_pos hc5).symm.trans hf
        exact bX5_cell_50 a_m a_m_sorts a_m_sheetLong a_m_cells a_m_kind a_m_wet a_m_readKind a_m_readWet a_m_keptWet a_m_readCells a_m_readHours a_m_readCracked m_trace m_sun m_wide m_deep m_hour m_kind m_wet m_at m_readSun m_readWide m_readDeep m_readKind m_readWet m_keptWet m_keptSun m_openFirst m_planHours m_readings m_readCells m_readHours m_readCracked Cc hK hA n _ _ _ _ _ _ _ _ hf _ _ _ hP hD hS (lv_sub hl [0, 1, 2] rfl)
      · replace hf := (if_neg hc5).symm.trans hf
        refine lv_aload_n hx hb dX5_cell_34 rfl (lv_at hl 0 rfl) ?_
        refine va_get (D := D) (ci := 5) (v := .ref a_m_sorts) (C := RX5) (T := TX5) (N := 25) hx hb hts inX5 hown hK hP 0 rfl rfl 2 (by decide) (hts _ tw_505) (fun _ h9 => h9) rfl dX5_cell_35 ?_
        refine lv_iload_n hx hb dX5_cell_38 rfl (lv_at hl 1 rfl) ?_
        obtain ⟨hin, hf⟩ := gd_some hf
        refine va_iald hx hb hK hP 1 0 rfl rfl hin dX5_cell_39 ?_
        refine lv_iload_n hx hb dX5_cell_40 rfl (lv_at hl 3 rfl) ?_
        refine lv_icmp_eq (tgt := 50) hx hb dX5_cell_41 (by decide) (fun hc11 => ?_) (fun hc11 => ?_)
        · replace hf := (if_pos hc11).symm.trans hf
          exact bX5_cell_50 a_m a_m_sorts a_m_sheetLong a_m_cells a_m_kind a_m_wet a_m_readKind a_m_readWet a_m_keptWet a_m_readCells a_m_readHours a_m_readCracked m_trace m_sun m_wide m_deep m_hour m_kind m_wet m_at m_readSun m_readWide m_readDeep m_readKind m_readWet m_keptWet m_keptSun m_openFirst m_planHours m_readings m_readCells m_readHours m_readCracked Cc hK hA n _ _ _ _ _ _ _ _ hf _ _ _ hP hD hS (lv_sub hl [0, 1, 2] rfl)
        · replace hf := (if_neg hc11).symm.trans hf
          refine lv_aload_n hx hb dX5_cell_44 rfl (lv_at hl 0 rfl) ?_
          refine lv_iconst (v := (2 : Int32)) hx hb dX5_cell_45 (by decide) ?_
          obtain ⟨q46_1, hq12, hf⟩ := Option.bind_eq_some_iff.mp hf
          refine cV (ws' := (W_m cI cS a_m a_m_sorts a_m_sheetLong a_m_cells a_m_kind a_m_wet a_m_readKind a_m_readWet a_m_keptWet a_m_readCells a_m_readHours a_m_readCracked q46_1.2 m_trace m_sorts m_sheetLong m_cells m_sun m_wide m_deep m_hour m_kind m_wet m_at m_readSun m_readWide m_readDeep m_readKind m_readWet m_keptWet m_keptSun m_openFirst m_planHours m_readings m_readCells m_readHours m_readCracked)) (rest := []) (st1 := [.long q46_1.1]) Cc hK hA hP hD hS hl.1 (ctX5_lost l D cI cS a_m a_m_sorts a_m_sheetLong a_m_cells a_m_kind a_m_wet a_m_readKind a_m_readWet a_m_keptWet a_m_readCells a_m_readHours a_m_readCracked (0 : Int32) m_trace m_sorts m_sheetLong m_cells m_sun m_wide m_deep m_hour m_kind m_wet m_at m_readSun m_readWide m_readDeep m_readKind m_readWet m_keptWet m_keptSun m_openFirst m_planHours m_readings m_readCells m_readHours m_readCracked (2 : Int32) n q46_1.1 q46_1.2 hq12) ⟨tw_796, tw_793, tw_795, tp_36, tw_6⟩ mdX5_lost ⟨rfl, rfl, Nat.le_of_ble_eq_true rfl, Nat.le_of_ble_eq_true rfl⟩ rfl dX5_cell_46 rfl (Nat.le_of_ble_eq_true rfl) ⟨Nat.zero_le _, Nat.zero_le _⟩ rfl rfl rfl [0, 1, 2, 3, 4, 5, 6, 7, 8, 9, 10, 11] [] [0, 1, 2, 3, 4, 5, 6, 7, 8, 9, 10, 11] rfl rfl (by decide) rfl (fun H locs hP hD hS => ?_)
          replace hf := Option.some.inj hf
          obtain ⟨er0, er1⟩ := Prod.mk.inj hf
          clear hf 
          subst er0
          subst er1
          exact rt_l Cc hK hP hD hS dX5_cell_49
    · replace hf := (if_pos hc4).symm.trans hf
      refine lv_ldc2 hx hb hown (hts _ tw_773) dX5_cell_19 ?_
      replace hf := Option.some.inj hf
      obtain ⟨er0, er1⟩ := Prod.mk.inj hf
      clear hf 
      subst er0
      subst er1
      exact rt_l Cc hK hP hD hS dX5_cell_22
-- X5_copy
def fX5_copy_166 (n : Nat) : Nat → Int32 → (Nat → Int32) → (Nat → Int32) → (Nat → Int32) → Int32 → Int32 → Int32 → Int32 → Int32 → Int32 → Int32 → Option (Int32 × Int32 × (Nat → Int32))
  | 0, _, _, _, _, _, _, _, _, _, _, _ => none
  | k + 1, m_fault, m_sorts, m_sheetLong, m_cells, x1, x2, x3, x4, x5, x7, x8 => if x5 ≤ x8 then some (x5, m_fault, m_cells) else if x7 = 0 then gd ((((60 : Int32) * x1) + x2) + x8) 240 (gd ((((60 : Int32) * x3) + x4) + x8) 240 (fX5_copy_166 n k m_fault m_sorts m_sheetLong (upd m_cells ((((60 : Int32) * x3) + x4) + x8).toNatClampNeg (m_cells ((((60 : Int32) * x1) + x2) + x8).toNatClampNeg)) x1 x2 x3 x4 x5 x7 (x8 + 1))) else gd ((((60 : Int32) * x1) + x2) + ((x5 - (1 : Int32)) - x8)) 240 (gd ((((60 : Int32) * x3) + x4) + ((x5 - (1 : Int32)) - x8)) 240 (fX5_copy_166 n k m_fault m_sorts m_sheetLong (upd m_cells ((((60 : Int32) * x3) + x4) + ((x5 - (1 : Int32)) - x8)).toNatClampNeg (m_cells ((((60 : Int32) * x1) + x2) + ((x5 - (1 : Int32)) - x8)).toNatClampNeg)) x1 x2 x3 x4 x5 x7 (x8 + 1)))
def fX5_copy_161 (n : Nat) (m_fault : Int32) (m_sorts : Nat → Int32) (m_sheetLong : Nat → Int32) (m_cells : Nat → Int32) (x1 : Int32) (x2 : Int32) (x3 : Int32) (x4 : Int32) (x5 : Int32) (y0 : Int32) : Option (Int32 × Int32 × (Nat → Int32)) := fX5_copy_166 n n m_fault m_sorts m_sheetLong m_cells x1 x2 x3 x4 x5 y0 (0 : Int32)
def fX5_copy_110 (n : Nat) (m_fault : Int32) (m_sorts : Nat → Int32) (m_sheetLong : Nat → Int32) (m_cells : Nat → Int32) (x1 : Int32) (x2 : Int32) (x3 : Int32) (x4 : Int32) (x5 : Int32) (y0 : Int32) : Option (Int32 × Int32 × (Nat → Int32)) := if y0 = 0 then (fX5_fails n m_fault (3 : Int32)).bind fun q146_1 => some (q146_1.1, q146_1.2, m_cells) else gd x1 4 (if ((m_sheetLong x1.toNatClampNeg) - x2) < x5 then (fX5_fails n m_fault (3 : Int32)).bind fun q146_1 => some (q146_1.1, q146_1.2, m_cells) else gd x3 4 (if x5 ≤ ((m_sheetLong x3.toNatClampNeg) - x4) then if x4 ≤ x2 then fX5_copy_161 n m_fault m_sorts m_sheetLong m_cells x1 x2 x3 x4 x5 (0 : Int32) else fX5_copy_161 n m_fault m_sorts m_sheetLong m_cells x1 x2 x3 x4 x5 (1 : Int32) else (fX5_fails n m_fault (3 : Int32)).bind fun q146_1 => some (q146_1.1, q146_1.2, m_cells)))
def fX5_copy_109 (n : Nat) (m_fault : Int32) (m_sorts : Nat → Int32) (m_sheetLong : Nat → Int32) (m_cells : Nat → Int32) (x1 : Int32) (x2 : Int32) (x3 : Int32) (x4 : Int32) (x5 : Int32) : Option (Int32 × Int32 × (Nat → Int32)) := fX5_copy_110 n m_fault m_sorts m_sheetLong m_cells x1 x2 x3 x4 x5 (0 : Int32)
def fX5_copy (n : Nat) (m_fault : Int32) (m_sorts : Nat → Int32) (m_sheetLong : Nat → Int32) (m_cells : Nat → Int32) (p1 : Int32) (p2 : Int32) (p3 : Int32) (p4 : Int32) (p5 : Int32) : Option (Int32 × Int32 × (Nat → Int32)) := (fX5_isSheet n p1).bind fun q6_1 => if q6_1 = 0 then some ((-1 : Int32), (0 : Int32), m_cells) else (fX5_isSheet n p3).bind fun q13_1 => if q13_1 = 0 then some ((-1 : Int32), (0 : Int32), m_cells) else gd p1 4 (if (m_sorts p1.toNatClampNeg) = (-9 : Int32) then (fX5_fails n (0 : Int32) (1 : Int32)).bind fun q45_1 => some (q45_1.1, q45_1.2, m_cells) else gd p3 4 (if (m_sorts p3.toNatClampNeg) = (-9 : Int32) then (fX5_fails n (0 : Int32) (1 : Int32)).bind fun q45_1 => some (q45_1.1, q45_1.2, m_cells) else gd p1 4 (gd p3 4 (if (m_sorts p1.toNatClampNeg) = (m_sorts p3.toNatClampNeg) then if p2 < 0 then fX5_copy_109 n (0 : Int32) m_sorts m_sheetLong m_cells p1 p2 p3 p4 p5 else if p4 < 0 then fX5_copy_109 n (0 : Int32) m_sorts m_sheetLong m_cells p1 p2 p3 p4 p5 else if p5 < 0 then fX5_copy_109 n (0 : Int32) m_sorts m_sheetLong m_cells p1 p2 p3 p4 p5 else gd p1 4 (if (m_sheetLong p1.toNatClampNeg) < p2 then fX5_copy_109 n (0 : Int32) m_sorts m_sheetLong m_cells p1 p2 p3 p4 p5 else gd p3 4 (if (m_sheetLong p3.toNatClampNeg) < p4 then fX5_copy_109 n (0 : Int32) m_sorts m_sheetLong m_cells p1 p2 p3 p4 p5 else fX5_copy_110 n (0 : Int32) m_sorts m_sheetLong m_cells p1 p2 p3 p4 p5 (1 : Int32))) else (fX5_fails n (0 : Int32) (2 : Int32)).bind fun q66_1 => some (q66_1.1, q66_1.2, m_cells)))))
theorem mdX5_copy : yX5_copy.cls = RX5 ∧ yX5_copy.cls ≠ "java/lang/invoke/MethodHandle" ∧ yX5_copy.cls ≠ "java/lang/invoke/VarHandle" ∧ (parseMethodDescriptor yX5_copy.desc).map (fun d => d.parameters.length) = some 5 := by decide +kernel
set_option maxHeartbeats 4000000 in
set_option maxRecDepth 100000 in
theorem bX5_copy_166 {p : Program} {l : Launch} {e : Env} {s : State} {m : MethodId} {args : Array Value} {below : List Frame} {meth : Method} {c : Code} {A : Nat → Prop} {D : va_G} {cI cS : ClassId} (a_m a_m_sorts a_m_sheetLong a_m_cells a_m_kind a_m_wet a_m_readKind a_m_readWet a_m_keptWet a_m_readCells a_m_readHours a_m_readCracked : Nat) (m_trace : Int32) (m_sun : Int32) (m_wide : Int32) (m_deep : Int32) (m_hour : Int32) (m_kind : Nat → Int32) (m_wet : Nat → Int32) (m_at : Int32) (m_readSun : Int32) (m_readWide : Int32) (m_readDeep : Int32) (m_readKind : Nat → Int32) (m_readWet : Nat → Int32) (m_keptWet : Nat → Int32) (m_keptSun : Int32) (m_openFirst : Int32) (m_planHours : Int32) (m_readings : Int32) (m_readCells : Nat → Int32) (m_readHours : Nat → Int32) (m_readCracked : Nat → Int32) (Cc : Cx p s m args meth c RX5 cX5_copy 10 (some .int)) (hK : va_K D classes (tysA cI cS) s) (hA : ∀ q, s.heap.size ≤ q → A q) (n : Nat) : ∀ (k : Nat) (m_fault : Int32) (m_sorts : Nat → Int32) (m_sheetLong : Nat → Int32) (m_cells : Nat → Int32) (x1 : Int32) (x2 : Int32) (x3 : Int32) (x4 : Int32) (x5 : Int32) (x7 : Int32) (x8 : Int32) (r : Int32) (m_fault' : Int32) (m_cells' : Nat → Int32), fX5_copy_166 n k m_fault m_sorts m_sheetLong m_cells x1 x2 x3 x4 x5 x7 x8 = some (r, m_fault', m_cells') → ∀ (H : Heap) (locs : List Loc) (ls : Array Slot), va_P D classes (W_m cI cS a_m a_m_sorts a_m_sheetLong a_m_cells a_m_kind a_m_wet a_m_readKind a_m_readWet a_m_keptWet a_m_readCells a_m_readHours a_m_readCracked m_fault m_trace m_sorts m_sheetLong m_cells m_sun m_wide m_deep m_hour m_kind m_wet m_at m_readSun m_readWide m_readDeep m_readKind m_readWet m_keptWet m_keptSun m_openFirst m_planHours m_readings m_readCells m_readHours m_readCracked) H → va_D A (W_m cI cS a_m a_m_sorts a_m_sheetLong a_m_cells a_m_kind a_m_wet a_m_readKind a_m_readWet a_m_keptWet a_m_readCells a_m_readHours a_m_readCracked m_fault m_trace m_sorts m_sheetLong m_cells m_sun m_wide m_deep m_hour m_kind m_wet m_at m_readSun m_readWide m_readDeep m_readKind m_readWet m_keptWet m_keptSun m_openFirst m_planHours m_readings m_readCells m_readHours m_readCracked) → va_S A s.heap H locs → lv_has ls 10 [(0, .ref a_m), (1, .int x1), (2, .int x2), (3, .int x3), (4, .int x4), (5, .int x5), (7, .int x7), (8, .int x8)] → W p l e (Rm 2) s m args below meth c H locs 0 0 (MQ below (QW D (tysA cI cS) (some (.int r)) (W_m cI cS a_m a_m_sorts a_m_sheetLong a_m_cells a_m_kind a_m_wet a_m_readKind a_m_readWet a_m_keptWet a_m_readCells a_m_readHours a_m_readCracked m_fault' m_trace m_sorts m_sheetLong m_cells' m_sun m_wide m_deep m_hour m_kind m_wet m_at m_readSun m_readWide m_readDeep m_readKind m_readWet m_keptWet m_keptSun m_openFirst m_planHours m_readings m_readCells m_readHours m_readCracked) A) args s 0 0 A) (F0 m 166 ls []) := by
  obtain ⟨hx, hb, hr, hml, hown, hts, hlk, hnw⟩ := id Cc
  intro k
  induction k with
  | zero =>
    intro m_fault m_sorts m_sheetLong m_cells x1 x2 x3 x4 x5 x7 x8 r m_fault' m_cells' hf
    rw [fX5_copy_166] at hf
    cases hf
  | succ k ih =>
    intro m_fault m_sorts m_sheetLong m_cells x1 x2 x3 x4 x5 x7 x8 r m_fault' m_cells' hf H locs ls hP hD hS hl
    rw [fX5_copy_166] at hf
    refine lv_iload hx hb dX5_copy_166 (lv_at hl 7 rfl) ?_
    refine lv_iload hx hb dX5_copy_168 (lv_at hl 5 rfl) ?_
    refine lv_icmp_ge (tgt := 227) hx hb dX5_copy_170 (by decide) (fun hc16 => ?_) (fun hc16 => ?_)
    · replace hf := (if_pos hc16).symm.trans hf
      refine lv_iload hx hb dX5_copy_227 (lv_at hl 5 rfl) ?_
      replace hf := Option.some.inj hf
      obtain ⟨er0, er1⟩ := Prod.mk.inj hf
      obtain ⟨er2, er3⟩ := Prod.mk.inj er1
      clear hf er1
      subst er0
      subst er2
      subst er3
      exact rt_i Cc hK hP hD hS dX5_copy_229
    · replace hf := (if_neg hc16).symm.trans hf
      refine lv_iload hx hb dX5_copy_173 (lv_at hl 6 rfl) ?_
      refine lv_if_eq (tgt := 188) hx hb dX5_copy_175 (by decide) (fun hc17 => ?_) (fun hc17 => ?_)
      · replace hf := (if_pos hc17).symm.trans hf
        refine lv_iload hx hb dX5_copy_188 (lv_at hl 7 rfl) ?_
        refine lv_istore (lv' := [(9, .int x8), (0, .ref a_m), (1, .int x1), (2, .int x2), (3, .int x3), (4, .int x4), (5, .int x5), (7, .int x7), (8, .int x8)]) hx hb dX5_copy_190 hl (by decide) rfl (fun ls hl => ?_)
        refine lv_aload_n hx hb dX5_copy_192 rfl (lv_at hl 1 rfl) ?_
        refine va_get (D := D) (ci := 5) (v := .ref a_m_cells) (C := RX5) (T := TX5) (N := 25) hx hb hts inX5 hown hK hP 0 rfl rfl 4 (by decide) (hts _ tw_507) (fun _ h9 => h9) rfl dX5_copy_193 ?_
        refine lv_bipush (v := (60 : Int32)) hx hb dX5_copy_196 (by decide) ?_
        refine lv_iload_n hx hb dX5_copy_198 rfl (lv_at hl 4 rfl) ?_
        refine lv_imul hx hb dX5_copy_199 ?_
        refine lv_iload hx hb dX5_copy_200 (lv_at hl 5 rfl) ?_
        refine lv_iadd hx hb dX5_copy_202 ?_
        refine lv_iload hx hb dX5_copy_203 (lv_at hl 0 rfl) ?_
        refine lv_iadd hx hb dX5_copy_205 ?_
        refine lv_aload_n hx hb dX5_copy_206 rfl (lv_at hl 1 rfl) ?_
        refine va_get (D := D) (ci := 5) (v := .ref a_m_cells) (C := RX5) (T := TX5) (N := 25) hx hb hts inX5 hown hK hP 0 rfl rfl 4 (by decide) (hts _ tw_507) (fun _ h9 => h9) rfl dX5_copy_207 ?_
        refine lv_bipush (v := (60 : Int32)) hx hb dX5_copy_210 (by decide) ?_
        refine lv_iload_n hx hb dX5_copy_212 rfl (lv_at hl 2 rfl) ?_
        refine lv_imul hx hb dX5_copy_213 ?_
        refine lv_iload_n hx hb dX5_copy_214 rfl (lv_at hl 3 rfl) ?_
        refine lv_iadd hx hb dX5_copy_215 ?_
        refine lv_iload hx hb dX5_copy_216 (lv_at hl 0 rfl) ?_
        refine lv_iadd hx hb dX5_copy_218 ?_
        obtain ⟨hin, hf⟩ := gd_some hf
        refine va_iald hx hb hK hP 3 0 rfl rfl hin dX5_copy_219 ?_
        obtain ⟨hin, hf⟩ := gd_some hf
        refine va_iast hx hb hK hP hD hS 3 0 rfl rfl hin dX5_copy_220 (fun H locs hP hD hS => ?_)
        have hP : va_P D classes (W_m cI cS a_m a_m_sorts a_m_sheetLong a_m_cells a_m_kind a_m_wet a_m_readKind a_m_readWet a_m_keptWet a_m_readCells a_m_readHours a_m_readCracked m_fault m_trace m_sorts m_sheetLong (upd m_cells ((((60 : Int32) * x3) + x4) + x8).toNatClampNeg (m_cells ((((60 : Int32) * x1) + x2) + x8).toNatClampNeg)) m_sun m_wide m_deep m_hour m_kind m_wet m_at m_readSun m_readWide m_readDeep m_readKind m_readWet m_keptWet m_keptSun m_openFirst m_planHours m_readings m_readCells m_readHours m_readCracked) H := hP
        have hD : va_D A (W_m cI cS a_m a_m_sorts a_m_sheetLong a_m_cells a_m_kind a_m_wet a_m_readKind a_m_readWet a_m_keptWet a_m_readCells a_m_readHours a_m_readCracked m_fault m_trace m_sorts m_sheetLong (upd m_cells ((((60 : Int32) * x3) + x4) + x8).toNatClampNeg (m_cells ((((60 : Int32) * x1) + x2) + x8).toNatClampNeg)) m_sun m_wide m_deep m_hour m_kind m_wet m_at m_readSun m_readWide m_readDeep m_readKind m_readWet m_keptWet m_keptSun m_openFirst m_planHours m_readings m_readCells m_readHours m_readCracked) := hD
        refine lv_iinc (v := (x8 + 1)) (lv' := [(8, .int (x8 + 1)), (9, .int x8), (0, .ref a_m), (1, .int x1), (2, .int x2), (3, .int x3), (4, .int x4), (5, .int x5), (7, .int x7)]) hx hb dX5_copy_221 hl (k := 8) rfl rfl (by decide) rfl (fun ls hl => ?_)
        refine lv_goto (tgt := 166) hx hb dX5_copy_224 (by decide) ?_
        exact ih _ _ _ _ _ _ _ _ _ _ _ _ _ _ hf _ _ _ hP hD hS (lv_sub hl [2, 3, 4, 5, 6, 7, 8, 0] rfl)
      · replace hf := (if_neg hc17).symm.trans hf
        refine lv_iload hx hb dX5_copy_178 (lv_at hl 5 rfl) ?_
        refine lv_iconst (v := (1 : Int32)) hx hb dX5_copy_180 (by decide) ?_
        refine lv_isub hx hb dX5_copy_181 ?_
        refine lv_iload hx hb dX5_copy_182 (lv_at hl 7 rfl) ?_
        refine lv_isub hx hb dX5_copy_184 ?_
        refine lv_goto (tgt := 190) hx hb dX5_copy_185 (by decide) ?_
        refine lv_istore (lv' := [(9, .int ((x5 - (1 : Int32)) - x8)), (0, .ref a_m), (1, .int x1), (2, .int x2), (3, .int x3), (4, .int x4), (5, .int x5), (7, .int x7), (8, .int x8)]) hx hb dX5_copy_190 hl (by decide) rfl (fun ls hl => ?_)
        refine lv_aload_n hx hb dX5_copy_192 rfl (lv_at hl 1 rfl) ?_
        refine va_get (D := D) (ci := 5) (v := .ref a_m_cells) (C := RX5) (T := TX5) (N := 25) hx hb hts inX5 hown hK hP 0 rfl rfl 4 (by decide) (hts _ tw_507) (fun _ h9 => h9) rfl dX5_copy_193 ?_
        refine lv_bipush (v := (60 : Int32)) hx hb dX5_copy_196 (by decide) ?_
        refine lv_iload_n hx hb dX5_copy_198 rfl (lv_at hl 4 rfl) ?_
        refine lv_imul hx hb dX5_copy_199 ?_
        refine lv_iload hx hb dX5_copy_200 (lv_at hl 5 rfl) ?_
        refine lv_iadd hx hb dX5_copy_202 ?_
        refine lv_iload hx hb dX5_copy_203 (lv_at hl 0 rfl) ?_
        refine lv_iadd hx hb dX5_copy_205 ?_
        refine lv_aload_n hx hb dX5_copy_206 rfl (lv_at hl 1 rfl) ?_
        refine va_get (D := D) (ci := 5) (v := .ref a_m_cells) (C := RX5) (T := TX5) (N := 25) hx hb hts inX5 hown hK hP 0 rfl rfl 4 (by decide) (hts _ tw_507) (fun _ h9 => h9) rfl dX5_copy_207 ?_
        refine lv_bipush (v := (60 : Int32)) hx hb dX5_copy_210 (by decide) ?_
        refine lv_iload_n hx hb dX5_copy_212 rfl (lv_at hl 2 rfl) ?_
        refine lv_imul hx hb dX5_copy_213 ?_
        refine lv_iload_n hx hb dX5_copy_214 rfl (lv_at hl 3 rfl) ?_
        refine lv_iadd hx hb dX5_copy_215 ?_
        refine lv_iload hx hb dX5_copy_216 (lv_at hl 0 rfl) ?_
        refine lv_iadd hx hb dX5_copy_218 ?_
        obtain ⟨hin, hf⟩ := gd_some hf
        refine va_iald hx hb hK hP 3 0 rfl rfl hin dX5_copy_219 ?_
        obtain ⟨hin, hf⟩ := gd_some hf
        refine va_iast hx hb hK hP hD hS 3 0 rfl rfl hin dX5_copy_220 (fun H locs hP hD hS => ?_)
        have hP : va_P D classes (W_m cI cS a_m a_m_sorts a_m_sheetLong a_m_cells a_m_kind a_m_wet a_m_readKind a_m_readWet a_m_keptWet a_m_readCells a_m_readHours a_m_readCracked m_fault m_trace m_sorts m_sheetLong (upd m_cells ((((60 : Int32) * x3) + x4) + ((x5 - (1 : Int32)) - x8)).toNatClampNeg (m_cells ((((60 : Int32) * x1) + x2) + ((x5 - (1 : Int32)) - x8)).toNatClampNeg)) m_sun m_wide m_deep m_hour m_kind m_wet m_at m_readSun m_readWide m_readDeep m_readKind m_readWet m_keptWet m_keptSun m_openFirst m_planHours m_readings m_readCells m_readHours m_readCracked) H := hP
        have hD : va_D A (W_m cI cS a_m a_m_sorts a_m_sheetLong a_m_cells a_m_kind a_m_wet a_m_readKind a_m_readWet a_m_keptWet a_m_readCells a_m_readHours a_m_readCracked m_fault m_trace m_sorts m_sheetLong (upd m_cells ((((60 : Int32) * x3) + x4) + ((x5 - (1 : Int32)) - x8)).toNatClampNeg (m_cells ((((60 : Int32) * x1) + x2) + ((x5 - (1 : Int32)) - x8)).toNatClampNeg)) m_sun m_wide m_deep m_hour m_kind m_wet m_at m_readSun m_readWide m_readDeep m_readKind m_readWet m_keptWet m_keptSun m_openFirst m_planHours m_readings m_readCells m_readHours m_readCracked) := hD
        refine lv_iinc (v := (x8 + 1)) (lv' := [(8, .int (x8 + 1)), (9, .int ((x5 - (1 : Int32)) - x8)), (0, .ref a_m), (1, .int x1), (2, .int x2), (3, .int x3), (4, .int x4), (5, .int x5), (7, .int x7)]) hx hb dX5_copy_221 hl (k := 8) rfl rfl (by decide) rfl (fun ls hl => ?_)
        refine lv_goto (tgt := 166) hx hb dX5_copy_224 (by decide) ?_
        exact ih _ _ _ _ _ _ _ _ _ _ _ _ _ _ hf _ _ _ hP hD hS (lv_sub hl [2, 3, 4, 5, 6, 7, 8, 0] rfl)
set_option maxHeartbeats 4000000 in
set_option maxRecDepth 100000 in
theorem bX5_copy_161 {p : Program} {l : Launch} {e : Env} {s : State} {m : MethodId} {args : Array Value} {below : List Frame} {meth : Method} {c : Code} {A : Nat → Prop} {D : va_G} {cI cS : ClassId} (a_m a_m_sorts a_m_sheetLong a_m_cells a_m_kind a_m_wet a_m_readKind a_m_readWet a_m_keptWet a_m_readCells a_m_readHours a_m_readCracked : Nat) (m_trace : Int32) (m_sun : Int32) (m_wide : Int32) (m_deep : Int32) (m_hour : Int32) (m_kind : Nat → Int32) (m_wet : Nat → Int32) (m_at : Int32) (m_readSun : Int32) (m_readWide : Int32) (m_readDeep : Int32) (m_readKind : Nat → Int32) (m_readWet : Nat → Int32) (m_keptWet : Nat → Int32) (m_keptSun : Int32) (m_openFirst : Int32) (m_planHours : Int32) (m_readings : Int32) (m_readCells : Nat → Int32) (m_readHours : Nat → Int32) (m_readCracked : Nat → Int32) (Cc : Cx p s m args meth c RX5 cX5_copy 10 (some .int)) (hK : va_K D classes (tysA cI cS) s) (hA : ∀ q, s.heap.size ≤ q → A q) (n : Nat) : ∀ (m_fault : Int32) (m_sorts : Nat → Int32) (m_sheetLong : Nat → Int32) (m_cells : Nat → Int32) (x1 : Int32) (x2 : Int32) (x3 : Int32) (x4 : Int32) (x5 : Int32) (y0 : Int32) (r : Int32) (m_fault' : Int32) (m_cells' : Nat → Int32), fX5_copy_161 n m_fault m_sorts m_sheetLong m_cells x1 x2 x3 x4 x5 y0 = some (r, m_fault', m_cells') → ∀ (H : Heap) (locs : List Loc) (ls : Array Slot), va_P D classes (W_m cI cS a_m a_m_sorts a_m_sheetLong a_m_cells a_m_kind a_m_wet a_m_readKind a_m_readWet a_m_keptWet a_m_readCells a_m_readHours a_m_readCracked m_fault m_trace m_sorts m_sheetLong m_cells m_sun m_wide m_deep m_hour m_kind m_wet m_at m_readSun m_readWide m_readDeep m_readKind m_readWet m_keptWet m_keptSun m_openFirst m_planHours m_readings m_readCells m_readHours m_readCracked) H → va_D A (W_m cI cS a_m a_m_sorts a_m_sheetLong a_m_cells a_m_kind a_m_wet a_m_readKind a_m_readWet a_m_keptWet a_m_readCells a_m_readHours a_m_readCracked m_fault m_trace m_sorts m_sheetLong m_cells m_sun m_wide m_deep m_hour m_kind m_wet m_at m_readSun m_readWide m_readDeep m_readKind m_readWet m_keptWet m_keptSun m_openFirst m_planHours m_readings m_readCells m_readHours m_readCracked) → va_S A s.heap H locs → lv_has ls 10 [(0, .ref a_m), (1, .int x1), (2, .int x2), (3, .int x3), (4, .int x4), (5, .int x5)] → W p l e (Rm 2) s m args below meth c H locs 0 0 (MQ below (QW D (tysA cI cS) (some (.int r)) (W_m cI cS a_m a_m_sorts a_m_sheetLong a_m_cells a_m_kind a_m_wet a_m_readKind a_m_readWet a_m_keptWet a_m_readCells a_m_readHours a_m_readCracked m_fault' m_trace m_sorts m_sheetLong m_cells' m_sun m_wide m_deep m_hour m_kind m_wet m_at m_readSun m_readWide m_readDeep m_readKind m_readWet m_keptWet m_keptSun m_openFirst m_planHours m_readings m_readCells m_readHours m_readCracked) A) args s 0 0 A) (F0 m 161 ls [.int y0]) := by
  obtain ⟨hx, hb, hr, hml, hown, hts, hlk, hnw⟩ := id Cc
  intro m_fault m_sorts m_sheetLong m_cells x1 x2 x3 x4 x5 y0 r m_fault' m_cells' hf H locs ls hP hD hS hl
  unfold fX5_copy_161 at hf
  refine lv_istore (lv' := [(7, .int y0), (0, .ref a_m), (1, .int x1), (2, .int x2), (3, .int x3), (4, .int x4), (5, .int x5)]) hx hb dX5_copy_161 hl (by decide) rfl (fun ls hl => ?_)
  refine lv_iconst (v := (0 : Int32)) hx hb dX5_copy_163 (by decide) ?_
  refine lv_istore (lv' := [(8, .int (0 : Int32)), (7, .int y0), (0, .ref a_m), (1, .int x1), (2, .int x2), (3, .int x3), (4, .int x4), (5, .int x5)]) hx hb dX5_copy_164 hl (by decide) rfl (fun ls hl => ?_)
  exact bX5_copy_166 a_m a_m_sorts a_m_sheetLong a_m_cells a_m_kind a_m_wet a_m_readKind a_m_readWet a_m_keptWet a_m_readCells a_m_readHours a_m_readCracked m_trace m_sun m_wide m_deep m_hour m_kind m_wet m_at m_readSun m_readWide m_readDeep m_readKind m_readWet m_keptWet m_keptSun m_openFirst m_planHours m_readings m_readCells m_readHours m_readCracked Cc hK hA n n _ _ _ _ _ _ _ _ _ _ _ _ _ _ hf _ _ _ hP hD hS (lv_sub hl [2, 3, 4, 5, 6, 7, 1, 0] rfl)
set_option maxHeartbeats 4000000 in
set_option maxRecDepth 100000 in
theorem bX5_copy_110 {p : Program} {l : Launch} {e : Env} {s : State} {m : MethodId} {args : Array Value} {below : List Frame} {meth : Method} {c : Code} {A : Nat → Prop} {D : va_G} {cI cS : ClassId} (a_m a_m_sorts a_m_sheetLong a_m_cells a_m_kind a_m_wet a_m_readKind a_m_readWet a_m_keptWet a_m_readCells a_m_readHours a_m_readCracked : Nat) (m_trace : Int32) (m_sun : Int32) (m_wide : Int32) (m_deep : Int32) (m_hour : Int32) (m_kind : Nat → Int32) (m_wet : Nat → Int32) (m_at : Int32) (m_readSun : Int32) (m_readWide : Int32) (m_readDeep : Int32) (m_readKind : Nat → Int32) (m_readWet : Nat → Int32) (m_keptWet : Nat → Int32) (m_keptSun : Int32) (m_openFirst : Int32) (m_planHours : Int32) (m_readings : Int32) (m_readCells : Nat → Int32) (m_readHours : Nat → Int32) (m_readCracked : Nat → Int32) (Cc : Cx p s m args meth c RX5 cX5_copy 10 (some .int)) (hK : va_K D classes (tysA cI cS) s) (hA : ∀ q, s.heap.size ≤ q → A q) (n : Nat) : ∀ (m_fault : Int32) (m_sorts : Nat → Int32) (m_sheetLong : Nat → Int32) (m_cells : Nat → Int32) (x1 : Int32) (x2 : Int32) (x3 : Int32) (x4 : Int32) (x5 : Int32) (y0 : Int32) (r : Int32) (m_fault' : Int32) (m_cells' : Nat → Int32), fX5_copy_110 n m_fault m_sorts m_sheetLong m_cells x1 x2 x3 x4 x5 y0 = some (r, m_fault', m_cells') → ∀ (H : Heap) (locs : List Loc) (ls : Array Slot), va_P D classes (W_m cI cS a_m a_m_sorts a_m_sheetLong a_m_cells a_m_kind a_m_wet a_m_readKind a_m_readWet a_m_keptWet a_m_readCells a_m_readHours a_m_readCracked m_fault m_trace m_sorts m_sheetLong m_cells m_sun m_wide m_deep m_hour m_kind m_wet m_at m_readSun m_readWide m_readDeep m_readKind m_readWet m_keptWet m_keptSun m_openFirst m_planHours m_readings m_readCells m_readHours m_readCracked) H → va_D A (W_m cI cS a_m a_m_sorts a_m_sheetLong a_m_cells a_m_kind a_m_wet a_m_readKind a_m_readWet a_m_keptWet a_m_readCells a_m_readHours a_m_readCracked m_fault m_trace m_sorts m_sheetLong m_cells m_sun m_wide m_deep m_hour m_kind m_wet m_at m_readSun m_readWide m_readDeep m_readKind m_readWet m_keptWet m_keptSun m_openFirst m_planHours m_readings m_readCells m_readHours m_readCracked) → va_S A s.heap H locs → lv_has ls 10 [(0, .ref a_m), (1, .int x1), (2, .int x2), (3, .int x3), (4, .int x4), (5, .int x5)] → W p l e (Rm 2) s m args below meth c H locs 0 0 (MQ below (QW D (tysA cI cS) (some (.int r)) (W_m cI cS a_m a_m_sorts a_m_sheetLong a_m_cells a_m_kind a_m_wet a_m_readKind a_m_readWet a_m_keptWet a_m_readCells a_m_readHours a_m_readCracked m_fault' m_trace m_sorts m_sheetLong m_cells' m_sun m_wide m_deep m_hour m_kind m_wet m_at m_readSun m_readWide m_readDeep m_readKind m_readWet m_keptWet m_keptSun m_openFirst m_planHours m_readings m_readCells m_readHours m_readCracked) A) args s 0 0 A) (F0 m 110 ls [.int y0]) := by
  obtain ⟨hx, hb, hr, hml, hown, hts, hlk, hnw⟩ := id Cc
  intro m_fault m_sorts m_sheetLong m_cells x1 x2 x3 x4 x5 y0 r m_fault' m_cells' hf H locs ls hP hD hS hl
  unfold fX5_copy_110 at hf
  refine lv_istore (lv' := [(6, .int y0), (0, .ref a_m), (1, .int x1), (2, .int x2), (3, .int x3), (4, .int x4), (5, .int x5)]) hx hb dX5_copy_110 hl (by decide) rfl (fun ls hl => ?_)
  refine lv_iload hx hb dX5_copy_112 (lv_at hl 0 rfl) ?_
  refine lv_if_eq (tgt := 144) hx hb dX5_copy_114 (by decide) (fun hc10 => ?_) (fun hc10 => ?_)
  · replace hf := (if_pos hc10).symm.trans hf
    refine lv_aload_n hx hb dX5_copy_144 rfl (lv_at hl 1 rfl) ?_
    refine lv_iconst (v := (3 : Int32)) hx hb dX5_copy_145 (by decide) ?_
    obtain ⟨q146_1, hq11, hf⟩ := Option.bind_eq_some_iff.mp hf
    refine cV (ws' := (W_m cI cS a_m a_m_sorts a_m_sheetLong a_m_cells a_m_kind a_m_wet a_m_readKind a_m_readWet a_m_keptWet a_m_readCells a_m_readHours a_m_readCracked q146_1.2 m_trace m_sorts m_sheetLong m_cells m_sun m_wide m_deep m_hour m_kind m_wet m_at m_readSun m_readWide m_readDeep m_readKind m_readWet m_keptWet m_keptSun m_openFirst m_planHours m_readings m_readCells m_readHours m_readCracked)) (rest := []) (st1 := [.int q146_1.1]) Cc hK hA hP hD hS hl.1 (ctX5_fails l D cI cS a_m a_m_sorts a_m_sheetLong a_m_cells a_m_kind a_m_wet a_m_readKind a_m_readWet a_m_keptWet a_m_readCells a_m_readHours a_m_readCracked m_fault m_trace m_sorts m_sheetLong m_cells m_sun m_wide m_deep m_hour m_kind m_wet m_at m_readSun m_readWide m_readDeep m_readKind m_readWet m_keptWet m_keptSun m_openFirst m_planHours m_readings m_readCells m_readHours m_readCracked (3 : Int32) n q146_1.1 q146_1.2 hq11) ⟨tw_599, tw_596, tw_598, tp_12, tw_6⟩ mdX5_fails ⟨rfl, rfl, Nat.le_of_ble_eq_true rfl, Nat.le_of_ble_eq_true rfl⟩ rfl dX5_copy_146 rfl (Nat.le_of_ble_eq_true rfl) ⟨Nat.zero_le _, Nat.zero_le _⟩ rfl rfl rfl [0, 1, 2, 3, 4, 5, 6, 7, 8, 9, 10, 11] [] [0, 1, 2, 3, 4, 5, 6, 7, 8, 9, 10, 11] rfl rfl (by decide) rfl (fun H locs hP hD hS => ?_)
    replace hf := Option.some.inj hf
    obtain ⟨er0, er1⟩ := Prod.mk.inj hf
    obtain ⟨er2, er3⟩ := Prod.mk.inj er1
    clear hf er1
    subst er0
    subst er2
    subst er3
    exact rt_i Cc hK hP hD hS dX5_copy_149
  · replace hf := (if_neg hc10).symm.trans hf
    refine lv_iload hx hb dX5_copy_117 (lv_at hl 6 rfl) ?_
    refine lv_aload_n hx hb dX5_copy_119 rfl (lv_at hl 1 rfl) ?_
    refine va_get (D := D) (ci := 5) (v := .ref a_m_sheetLong) (C := RX5) (T := TX5) (N := 25) hx hb hts inX5 hown hK hP 0 rfl rfl 3 (by decide) (hts _ tw_506) (fun _ h9 => h9) rfl dX5_copy_120 ?_
    refine lv_iload_n hx hb dX5_copy_123 rfl (lv_at hl 2 rfl) ?_
    obtain ⟨hin, hf⟩ := gd_some hf
    refine va_iald hx hb hK hP 2 0 rfl rfl hin dX5_copy_124 ?_
    refine lv_iload_n hx hb dX5_copy_125 rfl (lv_at hl 3 rfl) ?_
    refine lv_isub hx hb dX5_copy_126 ?_
    refine lv_icmp_gt (tgt := 144) hx hb dX5_copy_127 (by decide) (fun hc12 => ?_) (fun hc12 => ?_)
    · replace hf := (if_pos hc12).symm.trans hf
      refine lv_aload_n hx hb dX5_copy_144 rfl (lv_at hl 1 rfl) ?_
      refine lv_iconst (v := (3 : Int32)) hx hb dX5_copy_145 (by decide) ?_
      obtain ⟨q146_1, hq13, hf⟩ := Option.bind_eq_some_iff.mp hf
      refine cV (ws' := (W_m cI cS a_m a_m_sorts a_m_sheetLong a_m_cells a_m_kind a_m_wet a_m_readKind a_m_readWet a_m_keptWet a_m_readCells a_m_readHours a_m_readCracked q146_1.2 m_trace m_sorts m_sheetLong m_cells m_sun m_wide m_deep m_hour m_kind m_wet m_at m_readSun m_readWide m_readDeep m_readKind m_readWet m_keptWet m_keptSun m_openFirst m_planHours m_readings m_readCells m_readHours m_readCracked)) (rest := []) (st1 := [.int q146_1.1]) Cc hK hA hP hD hS hl.1 (ctX5_fails l D cI cS a_m a_m_sorts a_m_sheetLong a_m_cells a_m_kind a_m_wet a_m_readKind a_m_readWet a_m_keptWet a_m_readCells a_m_readHours a_m_readCracked m_fault m_trace m_sorts m_sheetLong m_cells m_sun m_wide m_deep m_hour m_kind m_wet m_at m_readSun m_readWide m_readDeep m_readKind m_readWet m_keptWet m_keptSun m_openFirst m_planHours m_readings m_readCells m_readHours m_readCracked (3 : Int32) n q146_1.1 q146_1.2 hq13) ⟨tw_599, tw_596, tw_598, tp_12, tw_6⟩ mdX5_fails ⟨rfl, rfl, Nat.le_of_ble_eq_true rfl, Nat.le_of_ble_eq_true rfl⟩ rfl dX5_copy_146 rfl (Nat.le_of_ble_eq_true rfl) ⟨Nat.zero_le _, Nat.zero_le _⟩ rfl rfl rfl [0, 1, 2, 3, 4, 5, 6, 7, 8, 9, 10, 11] [] [0, 1, 2, 3, 4, 5, 6, 7, 8, 9, 10, 11] rfl rfl (by decide) rfl (fun H locs hP hD hS => ?_)
      replace hf := Option.some.inj hf
      obtain ⟨er0, er1⟩ := Prod.mk.inj hf
      obtain ⟨er2, er3⟩ := Prod.mk.inj er1
      clear hf er1
      subst er0
      subst er2
      subst er3
      exact rt_i Cc hK hP hD hS dX5_copy_149
    · replace hf := (if_neg hc12).symm.trans hf
      refine lv_iload hx hb dX5_copy_130 (lv_at hl 6 rfl) ?_
      refine lv_aload_n hx hb dX5_copy_132 rfl (lv_at hl 1 rfl) ?_
      refine va_get (D := D) (ci := 5) (v := .ref a_m_sheetLong) (C := RX5) (T := TX5) (N := 25) hx hb hts inX5 hown hK hP 0 rfl rfl 3 (by decide) (hts _ tw_506) (fun _ h9 => h9) rfl dX5_copy_133 ?_
      refine lv_iload_n hx hb dX5_copy_136 rfl (lv_at hl 4 rfl) ?_
      obtain ⟨hin, hf⟩ := gd_some hf
      refine va_iald hx hb hK hP 2 0 rfl rfl hin dX5_copy_137 ?_
      refine lv_iload hx hb dX5_copy_138 (lv_at hl 5 rfl) ?_
      refine lv_isub hx hb dX5_copy_140 ?_
      refine lv_icmp_le (tgt := 150) hx hb dX5_copy_141 (by decide) (fun hc14 => ?_) (fun hc14 => ?_)
      · replace hf := (if_pos hc14).symm.trans hf
        refine lv_iload_n hx hb dX5_copy_150 rfl (lv_at hl 3 rfl) ?_
        refine lv_iload hx hb dX5_copy_151 (lv_at hl 5 rfl) ?_
        refine lv_icmp_ge (tgt := 160) hx hb dX5_copy_153 (by decide) (fun hc15 => ?_) (fun hc15 => ?_)
        · replace hf := (if_pos hc15).symm.trans hf
          refine lv_iconst (v := (0 : Int32)) hx hb dX5_copy_160 (by decide) ?_
          exact bX5_copy_161 a_m a_m_sorts a_m_sheetLong a_m_cells a_m_kind a_m_wet a_m_readKind a_m_readWet a_m_keptWet a_m_readCells a_m_readHours a_m_readCracked m_trace m_sun m_wide m_deep m_hour m_kind m_wet m_at m_readSun m_readWide m_readDeep m_readKind m_readWet m_keptWet m_keptSun m_openFirst m_planHours m_readings m_readCells m_readHours m_readCracked Cc hK hA n _ _ _ _ _ _ _ _ _ _ _ _ _ hf _ _ _ hP hD hS (lv_sub hl [1, 2, 3, 4, 5, 6] rfl)
        · replace hf := (if_neg hc15).symm.trans hf
          refine lv_iconst (v := (1 : Int32)) hx hb dX5_copy_156 (by decide) ?_
          refine lv_goto (tgt := 161) hx hb dX5_copy_157 (by decide) ?_
          exact bX5_copy_161 a_m a_m_sorts a_m_sheetLong a_m_cells a_m_kind a_m_wet a_m_readKind a_m_readWet a_m_keptWet a_m_readCells a_m_readHours a_m_readCracked m_trace m_sun m_wide m_deep m_hour m_kind m_wet m_at m_readSun m_readWide m_readDeep m_readKind m_readWet m_keptWet m_keptSun m_openFirst m_planHours m_readings m_readCells m_readHours m_readCracked Cc hK hA n _ _ _ _ _ _ _ _ _ _ _ _ _ hf _ _ _ hP hD hS (lv_sub hl [1, 2, 3, 4, 5, 6] rfl)
      · replace hf := (if_neg hc14).symm.trans hf
        refine lv_aload_n hx hb dX5_copy_144 rfl (lv_at hl 1 rfl) ?_
        refine lv_iconst (v := (3 : Int32)) hx hb dX5_copy_145 (by decide) ?_
        obtain ⟨q146_1, hq18, hf⟩ := Option.bind_eq_some_iff.mp hf
        refine cV (ws' := (W_m cI cS a_m a_m_sorts a_m_sheetLong a_m_cells a_m_kind a_m_wet a_m_readKind a_m_readWet a_m_keptWet a_m_readCells a_m_readHours a_m_readCracked q146_1.2 m_trace m_sorts m_sheetLong m_cells m_sun m_wide m_deep m_hour m_kind m_wet m_at m_readSun m_readWide m_readDeep m_readKind m_readWet m_keptWet m_keptSun m_openFirst m_planHours m_readings m_readCells m_readHours m_readCracked)) (rest := []) (st1 := [.int q146_1.1]) Cc hK hA hP hD hS hl.1 (ctX5_fails l D cI cS a_m a_m_sorts a_m_sheetLong a_m_cells a_m_kind a_m_wet a_m_readKind a_m_readWet a_m_keptWet a_m_readCells a_m_readHours a_m_readCracked m_fault m_trace m_sorts m_sheetLong m_cells m_sun m_wide m_deep m_hour m_kind m_wet m_at m_readSun m_readWide m_readDeep m_readKind m_readWet m_keptWet m_keptSun m_openFirst m_planHours m_readings m_readCells m_readHours m_readCracked (3 : Int32) n q146_1.1 q146_1.2 hq18) ⟨tw_599, tw_596, tw_598, tp_12, tw_6⟩ mdX5_fails ⟨rfl, rfl, Nat.le_of_ble_eq_true rfl, Nat.le_of_ble_eq_true rfl⟩ rfl dX5_copy_146 rfl (Nat.le_of_ble_eq_true rfl) ⟨Nat.zero_le _, Nat.zero_le _⟩ rfl rfl rfl [0, 1, 2, 3, 4, 5, 6, 7, 8, 9, 10, 11] [] [0, 1, 2, 3, 4, 5, 6, 7, 8, 9, 10, 11] rfl rfl (by decide) rfl (fun H locs hP hD hS => ?_)
        replace hf := Option.some.inj hf
        obtain ⟨er0, er1⟩ := Prod.mk.inj hf
        obtain ⟨er2, er3⟩ := Prod.mk.inj er1
        clear hf er1
        subst er0
        subst er2
        subst er3
        exact rt_i Cc hK hP hD hS dX5_copy_149
set_option maxHeartbeats 4000000 in
set_option maxRecDepth 100000 in
theorem bX5_copy_109 {p : Program} {l : Launch} {e : Env} {s : State} {m : MethodId} {args : Array Value} {below : List Frame} {meth : Method} {c : Code} {A : Nat → Prop} {D : va_G} {cI cS : ClassId} (a_m a_m_sorts a_m_sheetLong a_m_cells a_m_kind a_m_wet a_m_readKind a_m_readWet a_m_keptWet a_m_readCells a_m_readHours a_m_readCracked : Nat) (m_trace : Int32) (m_sun : Int32) (m_wide : Int32) (m_deep : Int32) (m_hour : Int32) (m_kind : Nat → Int32) (m_wet : Nat → Int32) (m_at : Int32) (m_readSun : Int32) (m_readWide : Int32) (m_readDeep : Int32) (m_readKind : Nat → Int32) (m_readWet : Nat → Int32) (m_keptWet : Nat → Int32) (m_keptSun : Int32) (m_openFirst : Int32) (m_planHours : Int32) (m_readings : Int32) (m_readCells : Nat → Int32) (m_readHours : Nat → Int32) (m_readCracked : Nat → Int32) (Cc : Cx p s m args meth c RX5 cX5_copy 10 (some .int)) (hK : va_K D classes (tysA cI cS) s) (hA : ∀ q, s.heap.size ≤ q → A q) (n : Nat) : ∀ (m_fault : Int32) (m_sorts : Nat → Int32) (m_sheetLong : Nat → Int32) (m_cells : Nat → Int32) (x1 : Int32) (x2 : Int32) (x3 : Int32) (x4 : Int32) (x5 : Int32) (r : Int32) (m_fault' : Int32) (m_cells' : Nat → Int32), fX5_copy_109 n m_fault m_sorts m_sheetLong m_cells x1 x2 x3 x4 x5 = some (r, m_fault', m_cells') → ∀ (H : Heap) (locs : List Loc) (ls : Array Slot), va_P D classes (W_m cI cS a_m a_m_sorts a_m_sheetLong a_m_cells a_m_kind a_m_wet a_m_readKind a_m_readWet a_m_keptWet a_m_readCells a_m_readHours a_m_readCracked m_fault m_trace m_sorts m_sheetLong m_cells m_sun m_wide m_deep m_hour m_kind m_wet m_at m_readSun m_readWide m_readDeep m_readKind m_readWet m_keptWet m_keptSun m_openFirst m_planHours m_readings m_readCells m_readHours m_readCracked) H → va_D A (W_m cI cS a_m a_m_sorts a_m_sheetLong a_m_cells a_m_kind a_m_wet a_m_readKind a_m_readWet a_m_keptWet a_m_readCells a_m_readHours a_m_readCracked m_fault m_trace m_sorts m_sheetLong m_cells m_sun m_wide m_deep m_hour m_kind m_wet m_at m_readSun m_readWide m_readDeep m_readKind m_readWet m_keptWet m_keptSun m_openFirst m_planHours m_readings m_readCells m_readHours m_readCracked) → va_S A s.heap H locs → lv_has ls 10 [(0, .ref a_m), (1, .int x1), (2, .int x2), (3, .int x3), (4, .int x4), (5, .int x5)] → W p l e (Rm 2) s m args below meth c H locs 0 0 (MQ below (QW D (tysA cI cS) (some (.int r)) (W_m cI cS a_m a_m_sorts a_m_sheetLong a_m_cells a_m_kind a_m_wet a_m_readKind a_m_readWet a_m_keptWet a_m_readCells a_m_readHours a_m_readCracked m_fault' m_trace m_sorts m_sheetLong m_cells' m_sun m_wide m_deep m_hour m_kind m_wet m_at m_readSun m_readWide m_readDeep m_readKind m_readWet m_keptWet m_keptSun m_openFirst m_planHours m_readings m_readCells m_readHours m_readCracked) A) args s 0 0 A) (F0 m 109 ls []) := by
  obtain ⟨hx, hb, hr, hml, hown, hts, hlk, hnw⟩ := id Cc
  intro m_fault m_sorts m_sheetLong m_cells x1 x2 x3 x4 x5 r m_fault' m_cells' hf H locs ls hP hD hS hl
  unfold fX5_copy_109 at hf
  refine lv_iconst (v := (0 : Int32)) hx hb dX5_copy_109 (by decide) ?_
  exact bX5_copy_110 a_m a_m_sorts a_m_sheetLong a_m_cells a_m_kind a_m_wet a_m_readKind a_m_readWet a_m_keptWet a_m_readCells a_m_readHours a_m_readCracked m_trace m_sun m_wide m_deep m_hour m_kind m_wet m_at m_readSun m_readWide m_readDeep m_readKind m_readWet m_keptWet m_keptSun m_openFirst m_planHours m_readings m_readCells m_readHours m_readCracked Cc hK hA n _ _ _ _ _ _ _ _ _ _ _ _ _ hf _ _ _ hP hD hS (lv_sub hl [0, 1, 2, 3, 4, 5] rfl)
set_option maxHeartbeats 4000000 in
set_option maxRecDepth 100000 in
theorem ctX5_copy (l : Launch) (D : va_G) (cI cS : ClassId) (a_m a_m_sorts a_m_sheetLong a_m_cells a_m_kind a_m_wet a_m_readKind a_m_readWet a_m_keptWet a_m_readCells a_m_readHours a_m_readCracked : Nat) (m_fault : Int32) (m_trace : Int32) (m_sorts : Nat → Int32) (m_sheetLong : Nat → Int32) (m_cells : Nat → Int32) (m_sun : Int32) (m_wide : Int32) (m_deep : Int32) (m_hour : Int32) (m_kind : Nat → Int32) (m_wet : Nat → Int32) (m_at : Int32) (m_readSun : Int32) (m_readWide : Int32) (m_readDeep : Int32) (m_readKind : Nat → Int32) (m_readWet : Nat → Int32) (m_keptWet : Nat → Int32) (m_keptSun : Int32) (m_openFirst : Int32) (m_planHours : Int32) (m_readings : Int32) (m_readCells : Nat → Int32) (m_readHours : Nat → Int32) (m_readCracked : Nat → Int32) (p1 : Int32) (p2 : Int32) (p3 : Int32) (p4 : Int32) (p5 : Int32) (n : Nat) (r : Int32) (m_fault' : Int32) (m_cells' : Nat → Int32) (hf : fX5_copy n m_fault m_sorts m_sheetLong m_cells p1 p2 p3 p4 p5 = some (r, m_fault', m_cells')) : Ct l D (tysA cI cS) yX5_copy cX5_copy 10 (some .int) (Rm 2) [.ref a_m, .int p1, .int p2, .int p3, .int p4, .int p5] (W_m cI cS a_m a_m_sorts a_m_sheetLong a_m_cells a_m_kind a_m_wet a_m_readKind a_m_readWet a_m_keptWet a_m_readCells a_m_readHours a_m_readCracked m_fault m_trace m_sorts m_sheetLong m_cells m_sun m_wide m_deep m_hour m_kind m_wet m_at m_readSun m_readWide m_readDeep m_readKind m_readWet m_keptWet m_keptSun m_openFirst m_planHours m_readings m_readCells m_readHours m_readCracked) (some (.int r)) (W_m cI cS a_m a_m_sorts a_m_sheetLong a_m_cells a_m_kind a_m_wet a_m_readKind a_m_readWet a_m_keptWet a_m_readCells a_m_readHours a_m_readCracked m_fault' m_trace m_sorts m_sheetLong m_cells' m_sun m_wide m_deep m_hour m_kind m_wet m_at m_readSun m_readWide m_readDeep m_readKind m_readWet m_keptWet m_keptSun m_openFirst m_planHours m_readings m_readCells m_readHours m_readCracked) := by
  refine Ct_of (by decide) (Nat.le_of_ble_eq_true rfl) ?_
  intro p e s m args below meth c A ls Cc hK hA hP hD hS hl
  have hl : lv_has ls 10 [(0, .ref a_m), (1, .int p1), (2, .int p2), (3, .int p3), (4, .int p4), (5, .int p5)] := hl
  obtain ⟨hx, hb, hr, hml, hown, hts, hlk, hnw⟩ := id Cc
  unfold fX5_copy at hf
  refine lv_aload_n hx hb dX5_copy_0 rfl (lv_at hl 0 rfl) ?_
  refine lv_iconst (v := (0 : Int32)) hx hb dX5_copy_1 (by decide) ?_
  refine va_put (D := D) (ci := 5) (v := .int (0 : Int32)) (ty := .int) (C := RX5) (T := TX5) (N := 25) hx hb hts inX5 tyX5 tyX5_ok nmX5 hown hK hP hD hS 0 rfl rfl 0 (by decide) (hts _ tw_503) (fun _ h9 => h9) rfl (tyX5_ok 0 (by decide)) rfl rfl (Nat.le_of_ble_eq_true rfl) dX5_copy_2 (fun H locs hP hD hS => ?_)
  have hP : va_P D classes (W_m cI cS a_m a_m_sorts a_m_sheetLong a_m_cells a_m_kind a_m_wet a_m_readKind a_m_readWet a_m_keptWet a_m_readCells a_m_readHours a_m_readCracked (0 : Int32) m_trace m_sorts m_sheetLong m_cells m_sun m_wide m_deep m_hour m_kind m_wet m_at m_readSun m_readWide m_readDeep m_readKind m_readWet m_keptWet m_keptSun m_openFirst m_planHours m_readings m_readCells m_readHours m_readCracked) H := hP
  have hD : va_D A (W_m cI cS a_m a_m_sorts a_m_sheetLong a_m_cells a_m_kind a_m_wet a_m_readKind a_m_readWet a_m_keptWet a_m_readCells a_m_readHours a_m_readCracked (0 : Int32) m_trace m_sorts m_sheetLong m_cells m_sun m_wide m_deep m_hour m_kind m_wet m_at m_readSun m_readWide m_readDeep m_readKind m_readWet m_keptWet m_keptSun m_openFirst m_planHours m_readings m_readCells m_readHours m_readCracked) := hD
  refine lv_iload_n hx hb dX5_copy_5 rfl (lv_at hl 1 rfl) ?_
  obtain ⟨q6_1, hq1, hf⟩ := Option.bind_eq_some_iff.mp hf
  refine cSt (ws' := (W_m cI cS a_m a_m_sorts a_m_sheetLong a_m_cells a_m_kind a_m_wet a_m_readKind a_m_readWet a_m_keptWet a_m_readCells a_m_readHours a_m_readCracked (0 : Int32) m_trace m_sorts m_sheetLong m_cells m_sun m_wide m_deep m_hour m_kind m_wet m_at m_readSun m_readWide m_readDeep m_readKind m_readWet m_keptWet m_keptSun m_openFirst m_planHours m_readings m_readCells m_readHours m_readCracked)) (rest := []) (st1 := [.int q6_1]) Cc hK hA hP hD hS hl.1 (ctX5_isSheet l D cI cS   p1 n q6_1 hq1) ⟨tw_585, tw_583, tw_584, tw_6⟩ mdX5_isSheet ⟨rfl, rfl, Nat.le_of_ble_eq_true rfl, Nat.le_of_ble_eq_true rfl⟩ rfl dX5_copy_6 rfl (Nat.le_of_ble_eq_true rfl) ⟨Nat.zero_le _, Nat.zero_le _⟩ rfl [] [0, 1, 2, 3, 4, 5, 6, 7, 8, 9, 10, 11] [0, 1, 2, 3, 4, 5, 6, 7, 8, 9, 10, 11] rfl rfl (by decide) rfl (fun H locs hP hD hS => ?_)
  refine lv_if_eq (tgt := 19) hx hb dX5_copy_9 (by decide) (fun hc2 => ?_) (fun hc2 => ?_)
  · replace hf := (if_pos hc2).symm.trans hf
    refine lv_iconst (v := (-1 : Int32)) hx hb dX5_copy_19 (by decide) ?_
    replace hf := Option.some.inj hf
    obtain ⟨er0, er1⟩ := Prod.mk.inj hf
    obtain ⟨er2, er3⟩ := Prod.mk.inj er1
    clear hf er1
    subst er0
    subst er2
    subst er3
    exact rt_i Cc hK hP hD hS dX5_copy_20
  · replace hf := (if_neg hc2).symm.trans hf
    refine lv_iload_n hx hb dX5_copy_12 rfl (lv_at hl 3 rfl) ?_
    obtain ⟨q13_1, hq3, hf⟩ := Option.bind_eq_some_iff.mp hf
    refine cSt (ws' := (W_m cI cS a_m a_m_sorts a_m_sheetLong a_m_cells a_m_kind a_m_wet a_m_readKind a_m_readWet a_m_keptWet a_m_readCells a_m_readHours a_m_readCracked (0 : Int32) m_trace m_sorts m_sheetLong m_cells m_sun m_wide m_deep m_hour m_kind m_wet m_at m_readSun m_readWide m_readDeep m_readKind m_readWet m_keptWet m_keptSun m_openFirst m_planHours m_readings m_readCells m_readHours m_readCracked)) (rest := []) (st1 := [.int q13_1]) Cc hK hA hP hD hS hl.1 (ctX5_isSheet l D cI cS   p3 n q13_1 hq3) ⟨tw_585, tw_583, tw_584, tw_6⟩ mdX5_isSheet ⟨rfl, rfl, Nat.le_of_ble_eq_true rfl, Nat.le_of_ble_eq_true rfl⟩ rfl dX5_copy_13 rfl (Nat.le_of_ble_eq_true rfl) ⟨Nat.zero_le _, Nat.zero_le _⟩ rfl [] [0, 1, 2, 3, 4, 5, 6, 7, 8, 9, 10, 11] [0, 1, 2, 3, 4, 5, 6, 7, 8, 9, 10, 11] rfl rfl (by decide) rfl (fun H locs hP hD hS => ?_)
    refine lv_if_ne (tgt := 21) hx hb dX5_copy_16 (by decide) (fun hc4 => ?_) (fun hc4 => ?_)
    · replace hf := (if_neg hc4).symm.trans hf
      refine lv_aload_n hx hb dX5_copy_21 rfl (lv_at hl 0 rfl) ?_
      refine va_get (D := D) (ci := 5) (v := .ref a_m_sorts) (C := RX5) (T := TX5) (N := 25) hx hb hts inX5 hown hK hP 0 rfl rfl 2 (by decide) (hts _ tw_505) (fun _ h9 => h9) rfl dX5_copy_22 ?_
      refine lv_iload_n hx hb dX5_copy_25 rfl (lv_at hl 1 rfl) ?_
      obtain ⟨hin, hf⟩ := gd_some hf
      refine va_iald hx hb hK hP 1 0 rfl rfl hin dX5_copy_26 ?_
      refine lv_bipush (v := (-9 : Int32)) hx hb dX5_copy_27 (by decide) ?_
      refine lv_icmp_eq (tgt := 43) hx hb dX5_copy_29 (by decide) (fun hc5 => ?_) (fun hc5 => ?_)
      · replace hf := (if_pos hc5).symm.trans hf
        refine lv_aload_n hx hb dX5_copy_43 rfl (lv_at hl 0 rfl) ?_
        refine lv_iconst (v := (1 : Int32)) hx hb dX5_copy_44 (by decide) ?_
        obtain ⟨q45_1, hq6, hf⟩ := Option.bind_eq_some_iff.mp hf
        refine cV (ws' := (W_m cI cS a_m a_m_sorts a_m_sheetLong a_m_cells a_m_kind a_m_wet a_m_readKind a_m_readWet a_m_keptWet a_m_readCells a_m_readHours a_m_readCracked q45_1.2 m_trace m_sorts m_sheetLong m_cells m_sun m_wide m_deep m_hour m_kind m_wet m_at m_readSun m_readWide m_readDeep m_readKind m_readWet m_keptWet m_keptSun m_openFirst m_planHours m_readings m_readCells m_readHours m_readCracked)) (rest := []) (st1 := [.int q45_1.1]) Cc hK hA hP hD hS hl.1 (ctX5_fails l D cI cS a_m a_m_sorts a_m_sheetLong a_m_cells a_m_kind a_m_wet a_m_readKind a_m_readWet a_m_keptWet a_m_readCells a_m_readHours a_m_readCracked (0 : Int32) m_trace m_sorts m_sheetLong m_cells m_sun m_wide m_deep m_hour m_kind m_wet m_at m_readSun m_readWide m_readDeep m_readKind m_readWet m_keptWet m_keptSun m_openFirst m_planHours m_readings m_readCells m_readHours m_readCracked (1 : Int32) n q45_1.1 q45_1.2 hq6) ⟨tw_599, tw_596, tw_598, tp_12, tw_6⟩ mdX5_fails ⟨rfl, rfl, Nat.le_of_ble_eq_true rfl, Nat.le_of_ble_eq_true rfl⟩ rfl dX5_copy_45 rfl (Nat.le_of_ble_eq_true rfl) ⟨Nat.zero_le _, Nat.zero_le _⟩ rfl rfl rfl [0, 1, 2, 3, 4, 5, 6, 7, 8, 9, 10, 11] [] [0, 1, 2, 3, 4, 5, 6, 7, 8, 9, 10, 11] rfl rfl (by decide) rfl (fun H locs hP hD hS => ?_)
        replace hf := Option.some.inj hf
        obtain ⟨er0, er1⟩ := Prod.mk.inj hf
        obtain ⟨er2, er3⟩ := Prod.mk.inj er1
        clear hf er1
        subst er0
        subst er2
        subst er3
        exact rt_i Cc hK hP hD hS dX5_copy_48
      · replace hf := (if_neg hc5).symm.trans hf
        refine lv_aload_n hx hb dX5_copy_32 rfl (lv_at hl 0 rfl) ?_
        refine va_get (D := D) (ci := 5) (v := .ref a_m_sorts) (C := RX5) (T := TX5) (N := 25) hx hb hts inX5 hown hK hP 0 rfl rfl 2 (by decide) (hts _ tw_505) (fun _ h9 => h9) rfl dX5_copy_33 ?_
        refine lv_iload_n hx hb dX5_copy_36 rfl (lv_at hl 3 rfl) ?_
        obtain ⟨hin, hf⟩ := gd_some hf
        refine va_iald hx hb hK hP 1 0 rfl rfl hin dX5_copy_37 ?_
        refine lv_bipush (v := (-9 : Int32)) hx hb dX5_copy_38 (by decide) ?_
        refine lv_icmp_ne (tgt := 49) hx hb dX5_copy_40 (by decide) (fun hc7 => ?_) (fun hc7 => ?_)
        · replace hf := (if_neg hc7).symm.trans hf
          refine lv_aload_n hx hb dX5_copy_49 rfl (lv_at hl 0 rfl) ?_
          refine va_get (D := D) (ci := 5) (v := .ref a_m_sorts) (C := RX5) (T := TX5) (N := 25) hx hb hts inX5 hown hK hP 0 rfl rfl 2 (by decide) (hts _ tw_505) (fun _ h9 => h9) rfl dX5_copy_50 ?_
          refine lv_iload_n hx hb dX5_copy_53 rfl (lv_at hl 1 rfl) ?_
          obtain ⟨hin, hf⟩ := gd_some hf
          refine va_iald hx hb hK hP 1 0 rfl rfl hin dX5_copy_54 ?_
          refine lv_aload_n hx hb dX5_copy_55 rfl (lv_at hl 0 rfl) ?_
          refine va_get (D := D) (ci := 5) (v := .ref a_m_sorts) (C := RX5) (T := TX5) (N := 25) hx hb hts inX5 hown hK hP 0 rfl rfl 2 (by decide) (hts _ tw_505) (fun _ h9 => h9) rfl dX5_copy_56 ?_
          refine lv_iload_n hx hb dX5_copy_59 rfl (lv_at hl 3 rfl) ?_
          obtain ⟨hin, hf⟩ := gd_some hf
          refine va_iald hx hb hK hP 1 0 rfl rfl hin dX5_copy_60 ?_
          refine lv_icmp_eq (tgt := 70) hx hb dX5_copy_61 (by decide) (fun hc8 => ?_) (fun hc8 => ?_)
          · replace hf := (if_pos hc8).symm.trans hf
            refine lv_iload_n hx hb dX5_copy_70 rfl (lv_at hl 2 rfl) ?_
            refine lv_if_lt (tgt := 109) hx hb dX5_copy_71 (by decide) (fun hc9 => ?_) (fun hc9 => ?_)
            · replace hf := (if_pos hc9).symm.trans hf
              exact bX5_copy_109 a_m a_m_sorts a_m_sheetLong a_m_cells a_m_kind a_m_wet a_m_readKind a_m_readWet a_m_keptWet a_m_readCells a_m_readHours a_m_readCracked m_trace m_sun m_wide m_deep m_hour m_kind m_wet m_at m_readSun m_readWide m_readDeep m_readKind m_readWet m_keptWet m_keptSun m_openFirst m_planHours m_readings m_readCells m_readHours m_readCracked Cc hK hA n _ _ _ _ _ _ _ _ _ _ _ _ hf _ _ _ hP hD hS (lv_sub hl [0, 1, 2, 3, 4, 5] rfl)
            · replace hf := (if_neg hc9).symm.trans hf
              refine lv_iload hx hb dX5_copy_74 (lv_at hl 4 rfl) ?_
              refine lv_if_lt (tgt := 109) hx hb dX5_copy_76 (by decide) (fun hc19 => ?_) (fun hc19 => ?_)
              · replace hf := (if_pos hc19).symm.trans hf
                exact bX5_copy_109 a_m a_m_sorts a_m_sheetLong a_m_cells a_m_kind a_m_wet a_m_readKind a_m_readWet a_m_keptWet a_m_readCells a_m_readHours a_m_readCracked m_trace m_sun m_wide m_deep m_hour m_kind m_wet m_at m_readSun m_readWide m_readDeep m_readKind m_readWet m_keptWet m_keptSun m_openFirst m_planHours m_readings m_readCells m_readHours m_readCracked Cc hK hA n _ _ _ _ _ _ _ _ _ _ _ _ hf _ _ _ hP hD hS (lv_sub hl [0, 1, 2, 3, 4, 5] rfl)
              · replace hf := (if_neg hc19).symm.trans hf
                refine lv_iload hx hb dX5_copy_79 (lv_at hl 5 rfl) ?_
                refine lv_if_lt (tgt := 109) hx hb dX5_copy_81 (by decide) (fun hc20 => ?_) (fun hc20 => ?_)
                · replace hf := (if_pos hc20).symm.trans hf
                  exact bX5_copy_109 a_m a_m_sorts a_m_sheetLong a_m_cells a_m_kind a_m_wet a_m_readKind a_m_readWet a_m_keptWet a_m_readCells a_m_readHours a_m_readCracked m_trace m_sun m_wide m_deep m_hour m_kind m_wet m_at m_readSun m_readWide m_readDeep m_readKind m_readWet m_keptWet m_keptSun m_openFirst m_planHours m_readings m_readCells m_readHours m_readCracked Cc hK hA n _ _ _ _ _ _ _ _ _ _ _ _ hf _ _ _ hP hD hS (lv_sub hl [0, 1, 2, 3, 4, 5] rfl)
                · replace hf := (if_neg hc20).symm.trans hf
                  refine lv_iload_n hx hb dX5_copy_84 rfl (lv_at hl 2 rfl) ?_
                  refine lv_aload_n hx hb dX5_copy_85 rfl (lv_at hl 0 rfl) ?_
                  refine va_get (D := D) (ci := 5) (v := .ref a_m_sheetLong) (C := RX5) (T := TX5) (N := 25) hx hb hts inX5 hown hK hP 0 rfl rfl 3 (by decide) (hts _ tw_506) (fun _ h9 => h9) rfl dX5_copy_86 ?_
                  refine lv_iload_n hx hb dX5_copy_89 rfl (lv_at hl 1 rfl) ?_
                  obtain ⟨hin, hf⟩ := gd_some hf
                  refine va_iald hx hb hK hP 2 0 rfl rfl hin dX5_copy_90 ?_
                  refine lv_icmp_gt (tgt := 109) hx hb dX5_copy_91 (by decide) (fun hc21 => ?_) (fun hc21 => ?_)
                  · replace hf := (if_pos hc21).symm.trans hf
                    exact bX5_copy_109 a_m a_m_sorts a_m_sheetLong a_m_cells a_m_kind a_m_wet a_m_readKind a_m_readWet a_m_keptWet a_m_readCells a_m_readHours a_m_readCracked m_trace m_sun m_wide m_deep m_hour m_kind m_wet m_at m_readSun m_readWide m_readDeep m_readKind m_readWet m_keptWet m_keptSun m_openFirst m_planHours m_readings m_readCells m_readHours m_readCracked Cc hK hA n _ _ _ _ _ _ _ _ _ _ _ _ hf _ _ _ hP hD hS (lv_sub hl [0, 1, 2, 3, 4, 5] rfl)
                  · replace hf := (if_neg hc21).symm.trans hf
                    refine lv_iload hx hb dX5_copy_94 (lv_at hl 4 rfl) ?_
                    refine lv_aload_n hx hb dX5_copy_96 rfl (lv_at hl 0 rfl) ?_
                    refine va_get (D := D) (ci := 5) (v := .ref a_m_sheetLong) (C := RX5) (T := TX5) (N := 25) hx hb hts inX5 hown hK hP 0 rfl rfl 3 (by decide) (hts _ tw_506) (fun _ h9 => h9) rfl dX5_copy_97 ?_
                    refine lv_iload_n hx hb dX5_copy_100 rfl (lv_at hl 3 rfl) ?_
                    obtain ⟨hin, hf⟩ := gd_some hf
                    refine va_iald hx hb hK hP 2 0 rfl rfl hin dX5_copy_101 ?_
                    refine lv_icmp_gt (tgt := 109) hx hb dX5_copy_102 (by decide) (fun hc22 => ?_) (fun hc22 => ?_)
                    · replace hf := (if_pos hc22).symm.trans hf
                      exact bX5_copy_109 a_m a_m_sorts a_m_sheetLong a_m_cells a_m_kind a_m_wet a_m_readKind a_m_readWet a_m_keptWet a_m_readCells a_m_readHours a_m_readCracked m_trace m_sun m_wide m_deep m_hour m_kind m_wet m_at m_readSun m_readWide m_readDeep m_readKind m_readWet m_keptWet m_keptSun m_openFirst m_planHours m_readings m_readCells m_readHours m_readCracked Cc hK hA n _ _ _ _ _ _ _ _ _ _ _ _ hf _ _ _ hP hD hS (lv_sub hl [0, 1, 2, 3, 4, 5] rfl)
                    · replace hf := (if_neg hc22).symm.trans hf
                      refine lv_iconst (v := (1 : Int32)) hx hb dX5_copy_105 (by decide) ?_
                      refine lv_goto (tgt := 110) hx hb dX5_copy_106 (by decide) ?_
                      exact bX5_copy_110 a_m a_m_sorts a_m_sheetLong a_m_cells a_m_kind a_m_wet a_m_readKind a_m_readWet a_m_keptWet a_m_readCells a_m_readHours a_m_readCracked m_trace m_sun m_wide m_deep m_hour m_kind m_wet m_at m_readSun m_readWide m_readDeep m_readKind m_readWet m_keptWet m_keptSun m_openFirst m_planHours m_readings m_readCells m_readHours m_readCracked Cc hK hA n _ _ _ _ _ _ _ _ _ _ _ _ _ hf _ _ _ hP hD hS (lv_sub hl [0, 1, 2, 3, 4, 5] rfl)
          · replace hf := (if_neg hc8).symm.trans hf
            refine lv_aload_n hx hb dX5_copy_64 rfl (lv_at hl 0 rfl) ?_
            refine lv_iconst (v := (2 : Int32)) hx hb dX5_copy_65 (by decide) ?_
            obtain ⟨q66_1, hq23, hf⟩ := Option.bind_eq_some_iff.mp hf
            refine cV (ws' := (W_m cI cS a_m a_m_sorts a_m_sheetLong a_m_cells a_m_kind a_m_wet a_m_readKind a_m_readWet a_m_keptWet a_m_readCells a_m_readHours a_m_readCracked q66_1.2 m_trace m_sorts m_sheetLong m_cells m_sun m_wide m_deep m_hour m_kind m_wet m_at m_readSun m_readWide m_readDeep m_readKind m_readWet m_keptWet m_keptSun m_openFirst m_planHours m_readings m_readCells m_readHours m_readCracked)) (rest := []) (st1 := [.int q66_1.1]) Cc hK hA hP hD hS hl.1 (ctX5_fails l D cI cS a_m a_m_sorts a_m_sheetLong a_m_cells a_m_kind a_m_wet a_m_readKind a_m_readWet a_m_keptWet a_m_readCells a_m_readHours a_m_readCracked (0 : Int32) m_trace m_sorts m_sheetLong m_cells m_sun m_wide m_deep m_hour m_kind m_wet m_at m_readSun m_readWide m_readDeep m_readKind m_readWet m_keptWet m_keptSun m_openFirst m_planHours m_readings m_readCells m_readHours m_readCracked (2 : Int32) n q66_1.1 q66_1.2 hq23) ⟨tw_599, tw_596, tw_598, tp_12, tw_6⟩ mdX5_fails ⟨rfl, rfl, Nat.le_of_ble_eq_true rfl, Nat.le_of_ble_eq_true rfl⟩ rfl dX5_copy_66 rfl (Nat.le_of_ble_eq_true rfl) ⟨Nat.zero_le _, Nat.zero_le _⟩ rfl rfl rfl [0, 1, 2, 3, 4, 5, 6, 7, 8, 9, 10, 11] [] [0, 1, 2, 3, 4, 5, 6, 7, 8, 9, 10, 11] rfl rfl (by decide) rfl (fun H locs hP hD hS => ?_)
            replace hf := Option.some.inj hf
            obtain ⟨er0, er1⟩ := Prod.mk.inj hf
            obtain ⟨er2, er3⟩ := Prod.mk.inj er1
            clear hf er1
            subst er0
            subst er2
            subst er3
            exact rt_i Cc hK hP hD hS dX5_copy_69
        · replace hf := (if_pos hc7).symm.trans hf
          refine lv_aload_n hx hb dX5_copy_43 rfl (lv_at hl 0 rfl) ?_
          refine lv_iconst (v := (1 : Int32)) hx hb dX5_copy_44 (by decide) ?_
          obtain ⟨q45_1, hq24, hf⟩ := Option.bind_eq_some_iff.mp hf
          refine cV (ws' := (W_m cI cS a_m a_m_sorts a_m_sheetLong a_m_cells a_m_kind a_m_wet a_m_readKind a_m_readWet a_m_keptWet a_m_readCells a_m_readHours a_m_readCracked q45_1.2 m_trace m_sorts m_sheetLong m_cells m_sun m_wide m_deep m_hour m_kind m_wet m_at m_readSun m_readWide m_readDeep m_readKind m_readWet m_keptWet m_keptSun m_openFirst m_planHours m_readings m_readCells m_readHours m_readCracked)) (rest := []) (st1 := [.int q45_1.1]) Cc hK hA hP hD hS hl.1 (ctX5_fails l D cI cS a_m a_m_sorts a_m_sheetLong a_m_cells a_m_kind a_m_wet a_m_readKind a_m_readWet a_m_keptWet a_m_readCells a_m_readHours a_m_readCracked (0 : Int32) m_trace m_sorts m_sheetLong m_cells m_sun m_wide m_deep m_hour m_kind m_wet m_at m_readSun m_readWide m_readDeep m_readKind m_readWet m_keptWet m_keptSun m_openFirst m_planHours m_readings m_readCells m_readHours m_readCracked (1 : Int32) n q45_1.1 q45_1.2 hq24) ⟨tw_599, tw_596, tw_598, tp_12, tw_6⟩ mdX5_fails ⟨rfl, rfl, Nat.le_of_ble_eq_true rfl, Nat.le_of_ble_eq_true rfl⟩ rfl dX5_copy_45 rfl (Nat.le_of_ble_eq_true rfl) ⟨Nat.zero_le _, Nat.zero_le _⟩ rfl rfl rfl [0, 1, 2, 3, 4, 5, 6, 7, 8, 9, 10, 11] [] [0, 1, 2, 3, 4, 5, 6, 7, 8, 9, 10, 11] rfl rfl (by decide) rfl (fun H locs hP hD hS => ?_)
          replace hf := Option.some.inj hf
          obtain ⟨er0, er1⟩ := Prod.mk.inj hf
          obtain ⟨er2, er3⟩ := Prod.mk.inj er1
          clear hf er1
          subst er0
          subst er2
          subst er3
          exact rt_i Cc hK hP hD hS dX5_copy_48
    · replace hf := (if_pos hc4).symm.trans hf
      refine lv_iconst (v := (-1 : Int32)) hx hb dX5_copy_19 (by decide) ?_
      replace hf := Option.some.inj hf
      obtain ⟨er0, er1⟩ := Prod.mk.inj hf
      obtain ⟨er2, er3⟩ := Prod.mk.inj er1
      clear hf er1
      subst er0
      subst er2
      subst er3
      exact rt_i Cc hK hP hD hS dX5_copy_20
-- X5_begins
def fX5_begins (n : Nat) (m_trace : Int32) (p1 : Int32) : Option (Int32) := some ((((31 : Int32) * m_trace) + p1))
theorem mdX5_begins : yX5_begins.cls = RX5 ∧ yX5_begins.cls ≠ "java/lang/invoke/MethodHandle" ∧ yX5_begins.cls ≠ "java/lang/invoke/VarHandle" ∧ (parseMethodDescriptor yX5_begins.desc).map (fun d => d.parameters.length) = some 1 := by decide +kernel
set_option maxHeartbeats 4000000 in
set_option maxRecDepth 100000 in
theorem ctX5_begins (l : Launch) (D : va_G) (cI cS : ClassId) (a_m a_m_sorts a_m_sheetLong a_m_cells a_m_kind a_m_wet a_m_readKind a_m_readWet a_m_keptWet a_m_readCells a_m_readHours a_m_readCracked : Nat) (m_fault : Int32) (m_trace : Int32) (m_sorts : Nat → Int32) (m_sheetLong : Nat → Int32) (m_cells : Nat → Int32) (m_sun : Int32) (m_wide : Int32) (m_deep : Int32) (m_hour : Int32) (m_kind : Nat → Int32) (m_wet : Nat → Int32) (m_at : Int32) (m_readSun : Int32) (m_readWide : Int32) (m_readDeep : Int32) (m_readKind : Nat → Int32) (m_readWet : Nat → Int32) (m_keptWet : Nat → Int32) (m_keptSun : Int32) (m_openFirst : Int32) (m_planHours : Int32) (m_readings : Int32) (m_readCells : Nat → Int32) (m_readHours : Nat → Int32) (m_readCracked : Nat → Int32) (p1 : Int32) (n : Nat) (m_trace' : Int32) (hf : fX5_begins n m_trace p1 = some (m_trace')) : Ct l D (tysA cI cS) yX5_begins cX5_begins 2 none (Rm 0) [.ref a_m, .int p1] (W_m cI cS a_m a_m_sorts a_m_sheetLong a_m_cells a_m_kind a_m_wet a_m_readKind a_m_readWet a_m_keptWet a_m_readCells a_m_readHours a_m_readCracked m_fault m_trace m_sorts m_sheetLong m_cells m_sun m_wide m_deep m_hour m_kind m_wet m_at m_readSun m_readWide m_readDeep m_readKind m_readWet m_keptWet m_keptSun m_openFirst m_planHours m_readings m_readCells m_readHours m_readCracked) none (W_m cI cS a_m a_m_sorts a_m_sheetLong a_m_cells a_m_kind a_m_wet a_m_readKind a_m_readWet a_m_keptWet a_m_readCells a_m_readHours a_m_readCracked m_fault m_trace' m_sorts m_sheetLong m_cells m_sun m_wide m_deep m_hour m_kind m_wet m_at m_readSun m_readWide m_readDeep m_readKind m_readWet m_keptWet m_keptSun m_openFirst m_planHours m_readings m_readCells m_readHours m_readCracked) := by
  refine Ct_of (by decide) (Nat.le_of_ble_eq_true rfl) ?_
  intro p e s m args below meth c A ls Cc hK hA hP hD hS hl
  have hl : lv_has ls 2 [(0, .ref a_m), (1, .int p1)] := hl
  obtain ⟨hx, hb, hr, hml, hown, hts, hlk, hnw⟩ := id Cc
  unfold fX5_begins at hf
  refine lv_aload_n hx hb dX5_begins_0 rfl (lv_at hl 0 rfl) ?_
  refine lv_bipush (v := (31 : Int32)) hx hb dX5_begins_1 (by decide) ?_
  refine lv_aload_n hx hb dX5_begins_3 rfl (lv_at hl 0 rfl) ?_
  refine va_get (D := D) (ci := 5) (v := .int m_trace) (C := RX5) (T := TX5) (N := 25) hx hb hts inX5 hown hK hP 0 rfl rfl 1 (by decide) (hts _ tw_504) (fun _ h9 => h9) rfl dX5_begins_4 ?_
  refine lv_imul hx hb dX5_begins_7 ?_
  refine lv_iload_n hx hb dX5_begins_8 rfl (lv_at hl 1 rfl) ?_
  refine lv_iadd hx hb dX5_begins_9 ?_
  refine va_put (D := D) (ci := 5) (v := .int (((31 : Int32) * m_trace) + p1)) (ty := .int) (C := RX5) (T := TX5) (N := 25) hx hb hts inX5 tyX5 tyX5_ok nmX5 hown hK hP hD hS 0 rfl rfl 1 (by decide) (hts _ tw_504) (fun _ h9 => h9) rfl (tyX5_ok 1 (by decide)) rfl rfl (Nat.le_of_ble_eq_true rfl) dX5_begins_10 (fun H locs hP hD hS => ?_)
  have hP : va_P D classes (W_m cI cS a_m a_m_sorts a_m_sheetLong a_m_cells a_m_kind a_m_wet a_m_readKind a_m_readWet a_m_keptWet a_m_readCells a_m_readHours a_m_readCracked m_fault (((31 : Int32) * m_trace) + p1) m_sorts m_sheetLong m_cells m_sun m_wide m_deep m_hour m_kind m_wet m_at m_readSun m_readWide m_readDeep m_readKind m_readWet m_keptWet m_keptSun m_openFirst m_planHours m_readings m_readCells m_readHours m_readCracked) H := hP
  have hD : va_D A (W_m cI cS a_m a_m_sorts a_m_sheetLong a_m_cells a_m_kind a_m_wet a_m_readKind a_m_readWet a_m_keptWet a_m_readCells a_m_readHours a_m_readCracked m_fault (((31 : Int32) * m_trace) + p1) m_sorts m_sheetLong m_cells m_sun m_wide m_deep m_hour m_kind m_wet m_at m_readSun m_readWide m_readDeep m_readKind m_readWet m_keptWet m_keptSun m_openFirst m_planHours m_readings m_readCells m_readHours m_readCracked) := hD
  obtain rfl := Option.some.inj hf
  exact rt_v Cc hK hP hD hS dX5_begins_13
-- X5_tell
def fX5_tell (n : Nat) (m_trace : Int32) (m_wide : Int32) (m_deep : Int32) (m_kind : Nat → Int32) (m_wet : Nat → Int32) (p1 : Int32) : Option (Int32 × Int32) := (fX5_isCell n m_wide m_deep p1).bind fun q2_1 => if q2_1 = 0 then some ((-1 : Int32), m_trace) else gd p1 12 (gd p1 12 (if (m_kind p1.toNatClampNeg) = 1 then (fX5_begins n m_trace (2 : Int32)).bind fun q50_1 => (fX5_begins n q50_1 (1 : Int32)).bind fun q55_2 => some (((m_wet p1.toNatClampNeg) + (100 : Int32)), q55_2) else if (m_kind p1.toNatClampNeg) = 2 then (fX5_begins n m_trace (3 : Int32)).bind fun q65_1 => (fX5_begins n q65_1 (2 : Int32)).bind fun q70_2 => (fX5_begins n q70_2 (1 : Int32)).bind fun q75_3 => (fX5_begins n q75_3 (1 : Int32)).bind fun q80_4 => some ((((2 : Int32) * (m_wet p1.toNatClampNeg)) + (100 : Int32)), q80_4) else (fX5_begins n m_trace (1 : Int32)).bind fun q92_1 => some ((m_wet p1.toNatClampNeg), q92_1)))
theorem mdX5_tell : yX5_tell.cls = RX5 ∧ yX5_tell.cls ≠ "java/lang/invoke/MethodHandle" ∧ yX5_tell.cls ≠ "java/lang/invoke/VarHandle" ∧ (parseMethodDescriptor yX5_tell.desc).map (fun d => d.parameters.length) = some 1 := by decide +kernel
set_option maxHeartbeats 4000000 in
set_option maxRecDepth 100000 in
theorem ctX5_tell (l : Launch) (D : va_G) (cI cS : ClassId) (a_m a_m_sorts a_m_sheetLong a_m_cells a_m_kind a_m_wet a_m_readKind a_m_readWet a_m_keptWet a_m_readCells a_m_readHours a_m_readCracked : Nat) (m_fault : Int32) (m_trace : Int32) (m_sorts : Nat → Int32) (m_sheetLong : Nat → Int32) (m_cells : Nat → Int32) (m_sun : Int32) (m_wide : Int32) (m_deep : Int32) (m_hour : Int32) (m_kind : Nat → Int32) (m_wet : Nat → Int32) (m_at : Int32) (m_readSun : Int32) (m_readWide : Int32) (m_readDeep : Int32) (m_readKind : Nat → Int32) (m_readWet : Nat → Int32) (m_keptWet : Nat → Int32) (m_keptSun : Int32) (m_openFirst : Int32) (m_planHours : Int32) (m_readings : Int32) (m_readCells : Nat → Int32) (m_readHours : Nat → Int32) (m_readCracked : Nat → Int32) (p1 : Int32) (n : Nat) (r : Int32) (m_trace' : Int32) (hf : fX5_tell n m_trace m_wide m_deep m_kind m_wet p1 = some (r, m_trace')) : Ct l D (tysA cI cS) yX5_tell cX5_tell 3 (some .int) (Rm 2) [.ref a_m, .int p1] (W_m cI cS a_m a_m_sorts a_m_sheetLong a_m_cells a_m_kind a_m_wet a_m_readKind a_m_readWet a_m_keptWet a_m_readCells a_m_readHours a_m_readCracked m_fault m_trace m_sorts m_sheetLong m_cells m_sun m_wide m_deep m_hour m_kind m_wet m_at m_readSun m_readWide m_readDeep m_readKind m_readWet m_keptWet m_keptSun m_openFirst m_planHours m_readings m_readCells m_readHours m_readCracked) (some (.int r)) (W_m cI cS a_m a_m_sorts a_m_sheetLong a_m_cells a_m_kind a_m_wet a_m_readKind a_m_readWet a_m_keptWet a_m_readCells a_m_readHours a_m_readCracked m_fault m_trace' m_sorts m_sheetLong m_cells m_sun m_wide m_deep m_hour m_kind m_wet m_at m_readSun m_readWide m_readDeep m_readKind m_readWet m_keptWet m_keptSun m_openFirst m_planHours m_readings m_readCells m_readHours m_readCracked) := by
  refine Ct_of (by decide) (Nat.le_of_ble_eq_true rfl) ?_
  intro p e s m args below meth c A ls Cc hK hA hP hD hS hl
  have hl : lv_has ls 3 [(0, .ref a_m), (1, .int p1)] := hl
  obtain ⟨hx, hb, hr, hml, hown, hts, hlk, hnw⟩ := id Cc
  unfold fX5_tell at hf
  refine lv_aload_n hx hb dX5_tell_0 rfl (lv_at hl 0 rfl) ?_
  refine lv_iload_n hx hb dX5_tell_1 rfl (lv_at hl 1 rfl) ?_
  obtain ⟨q2_1, hq1, hf⟩ := Option.bind_eq_some_iff.mp hf
  refine cV (ws' := (W_m cI cS a_m a_m_sorts a_m_sheetLong a_m_cells a_m_kind a_m_wet a_m_readKind a_m_readWet a_m_keptWet a_m_readCells a_m_readHours a_m_readCracked m_fault m_trace m_sorts m_sheetLong m_cells m_sun m_wide m_deep m_hour m_kind m_wet m_at m_readSun m_readWide m_readDeep m_readKind m_readWet m_keptWet m_keptSun m_openFirst m_planHours m_readings m_readCells m_readHours m_readCracked)) (rest := []) (st1 := [.int q2_1]) Cc hK hA hP hD hS hl.1 (ctX5_isCell l D cI cS a_m a_m_sorts a_m_sheetLong a_m_cells a_m_kind a_m_wet a_m_readKind a_m_readWet a_m_keptWet a_m_readCells a_m_readHours a_m_readCracked m_fault m_trace m_sorts m_sheetLong m_cells m_sun m_wide m_deep m_hour m_kind m_wet m_at m_readSun m_readWide m_readDeep m_readKind m_readWet m_keptWet m_keptSun m_openFirst m_planHours m_readings m_readCells m_readHours m_readCracked p1 n q2_1 hq1) ⟨tw_627, tw_624, tw_626, tp_18, tw_6⟩ mdX5_isCell ⟨rfl, rfl, Nat.le_of_ble_eq_true rfl, Nat.le_of_ble_eq_true rfl⟩ rfl dX5_tell_2 rfl (Nat.le_of_ble_eq_true rfl) ⟨Nat.zero_le _, Nat.zero_le _⟩ rfl rfl rfl [0, 1, 2, 3, 4, 5, 6, 7, 8, 9, 10, 11] [] [0, 1, 2, 3, 4, 5, 6, 7, 8, 9, 10, 11] rfl rfl (by decide) rfl (fun H locs hP hD hS => ?_)
  refine lv_if_ne (tgt := 10) hx hb dX5_tell_5 (by decide) (fun hc2 => ?_) (fun hc2 => ?_)
  · replace hf := (if_neg hc2).symm.trans hf
    refine lv_aload_n hx hb dX5_tell_10 rfl (lv_at hl 0 rfl) ?_
    refine va_get (D := D) (ci := 5) (v := .ref a_m_wet) (C := RX5) (T := TX5) (N := 25) hx hb hts inX5 hown hK hP 0 rfl rfl 10 (by decide) (hts _ tw_513) (fun _ h9 => h9) rfl dX5_tell_11 ?_
    refine lv_iload_n hx hb dX5_tell_14 rfl (lv_at hl 1 rfl) ?_
    obtain ⟨hin, hf⟩ := gd_some hf
    refine va_iald hx hb hK hP 5 0 rfl rfl hin dX5_tell_15 ?_
    refine lv_istore_n (lv' := [(2, .int (m_wet p1.toNatClampNeg)), (0, .ref a_m), (1, .int p1)]) hx hb dX5_tell_16 rfl hl (by decide) rfl (fun ls hl => ?_)
    refine lv_aload_n hx hb dX5_tell_17 rfl (lv_at hl 1 rfl) ?_
    refine va_get (D := D) (ci := 5) (v := .ref a_m_kind) (C := RX5) (T := TX5) (N := 25) hx hb hts inX5 hown hK hP 0 rfl rfl 9 (by decide) (hts _ tw_512) (fun _ h9 => h9) rfl dX5_tell_18 ?_
    refine lv_iload_n hx hb dX5_tell_21 rfl (lv_at hl 2 rfl) ?_
    obtain ⟨hin, hf⟩ := gd_some hf
    refine va_iald hx hb hK hP 4 0 rfl rfl hin dX5_tell_22 ?_
    by_cases hs3_0 : (m_kind p1.toNatClampNeg) = 1
    · replace hf := (if_pos hs3_0).symm.trans hf
      refine lv_lookup (tgt := 48) (off := 25) hx hb dX5_tell_23 (by decide) (by rw [hs3_0]; decide) (by decide) ?_
      refine lv_aload_n hx hb dX5_tell_48 rfl (lv_at hl 1 rfl) ?_
      refine lv_iconst (v := (2 : Int32)) hx hb dX5_tell_49 (by decide) ?_
      obtain ⟨q50_1, hq4, hf⟩ := Option.bind_eq_some_iff.mp hf
      refine cV (ws' := (W_m cI cS a_m a_m_sorts a_m_sheetLong a_m_cells a_m_kind a_m_wet a_m_readKind a_m_readWet a_m_keptWet a_m_readCells a_m_readHours a_m_readCracked m_fault q50_1 m_sorts m_sheetLong m_cells m_sun m_wide m_deep m_hour m_kind m_wet m_at m_readSun m_readWide m_readDeep m_readKind m_readWet m_keptWet m_keptSun m_openFirst m_planHours m_readings m_readCells m_readHours m_readCracked)) (rest := []) (st1 := []) Cc hK hA hP hD hS hl.1 (ctX5_begins l D cI cS a_m a_m_sorts a_m_sheetLong a_m_cells a_m_kind a_m_wet a_m_readKind a_m_readWet a_m_keptWet a_m_readCells a_m_readHours a_m_readCracked m_fault m_trace m_sorts m_sheetLong m_cells m_sun m_wide m_deep m_hour m_kind m_wet m_at m_readSun m_readWide m_readDeep m_readKind m_readWet m_keptWet m_keptSun m_openFirst m_planHours m_readings m_readCells m_readHours m_readCracked (2 : Int32) n q50_1 hq4) ⟨tw_808, tw_805, tw_807, tp_37, tw_6⟩ mdX5_begins ⟨rfl, rfl, Nat.le_of_ble_eq_true rfl, Nat.le_of_ble_eq_true rfl⟩ rfl dX5_tell_50 rfl (Nat.le_of_ble_eq_true rfl) ⟨Nat.zero_le _, Nat.zero_le _⟩ rfl rfl rfl [0, 1, 2, 3, 4, 5, 6, 7, 8, 9, 10, 11] [] [0, 1, 2, 3, 4, 5, 6, 7, 8, 9, 10, 11] rfl rfl (by decide) rfl (fun H locs hP hD hS => ?_)
      refine lv_aload_n hx hb dX5_tell_53 rfl (lv_at hl 1 rfl) ?_
      refine lv_iconst (v := (1 : Int32)) hx hb dX5_tell_54 (by decide) ?_
      obtain ⟨q55_2, hq5, hf⟩ := Option.bind_eq_some_iff.mp hf
      refine cV (ws' := (W_m cI cS a_m a_m_sorts a_m_sheetLong a_m_cells a_m_kind a_m_wet a_m_readKind a_m_readWet a_m_keptWet a_m_readCells a_m_readHours a_m_readCracked m_fault q55_2 m_sorts m_sheetLong m_cells m_sun m_wide m_deep m_hour m_kind m_wet m_at m_readSun m_readWide m_readDeep m_readKind m_readWet m_keptWet m_keptSun m_openFirst m_planHours m_readings m_readCells m_readHours m_readCracked)) (rest := []) (st1 := []) Cc hK hA hP hD hS hl.1 (ctX5_begins l D cI cS a_m a_m_sorts a_m_sheetLong a_m_cells a_m_kind a_m_wet a_m_readKind a_m_readWet a_m_keptWet a_m_readCells a_m_readHours a_m_readCracked m_fault q50_1 m_sorts m_sheetLong m_cells m_sun m_wide m_deep m_hour m_kind m_wet m_at m_readSun m_readWide m_readDeep m_readKind m_readWet m_keptWet m_keptSun m_openFirst m_planHours m_readings m_readCells m_readHours m_readCracked (1 : Int32) n q55_2 hq5) ⟨tw_808, tw_805, tw_807, tp_37, tw_6⟩ mdX5_begins ⟨rfl, rfl, Nat.le_of_ble_eq_true rfl, Nat.le_of_ble_eq_true rfl⟩ rfl dX5_tell_55 rfl (Nat.le_of_ble_eq_true rfl) ⟨Nat.zero_le _, Nat.zero_le _⟩ rfl rfl rfl [0, 1, 2, 3, 4, 5, 6, 7, 8, 9, 10, 11] [] [0, 1, 2, 3, 4, 5, 6, 7, 8, 9, 10, 11] rfl rfl (by decide) rfl (fun H locs hP hD hS => ?_)
      refine lv_iload_n hx hb dX5_tell_58 rfl (lv_at hl 0 rfl) ?_
      refine lv_bipush (v := (100 : Int32)) hx hb dX5_tell_59 (by decide) ?_
      refine lv_iadd hx hb dX5_tell_61 ?_
      replace hf := Option.some.inj hf
      obtain ⟨er0, er1⟩ := Prod.mk.inj hf
      clear hf 
      subst er0
      subst er1
      exact rt_i Cc hK hP hD hS dX5_tell_62
    · replace hf := (if_neg hs3_0).symm.trans hf
      by_cases hs3_1 : (m_kind p1.toNatClampNeg) = 2
      · replace hf := (if_pos hs3_1).symm.trans hf
        refine lv_lookup (tgt := 63) (off := 40) hx hb dX5_tell_23 (by decide) (by rw [hs3_1]; decide) (by decide) ?_
        refine lv_aload_n hx hb dX5_tell_63 rfl (lv_at hl 1 rfl) ?_
        refine lv_iconst (v := (3 : Int32)) hx hb dX5_tell_64 (by decide) ?_
        obtain ⟨q65_1, hq6, hf⟩ := Option.bind_eq_some_iff.mp hf
        refine cV (ws' := (W_m cI cS a_m a_m_sorts a_m_sheetLong a_m_cells a_m_kind a_m_wet a_m_readKind a_m_readWet a_m_keptWet a_m_readCells a_m_readHours a_m_readCracked m_fault q65_1 m_sorts m_sheetLong m_cells m_sun m_wide m_deep m_hour m_kind m_wet m_at m_readSun m_readWide m_readDeep m_readKind m_readWet m_keptWet m_keptSun m_openFirst m_planHours m_readings m_readCells m_readHours m_readCracked)) (rest := []) (st1 := []) Cc hK hA hP hD hS hl.1 (ctX5_begins l D cI cS a_m a_m_sorts a_m_sheetLong a_m_cells a_m_kind a_m_wet a_m_readKind a_m_readWet a_m_keptWet a_m_readCells a_m_readHours a_m_readCracked m_fault m_trace m_sorts m_sheetLong m_cells m_sun m_wide m_deep m_hour m_kind m_wet m_at m_readSun m_readWide m_readDeep m_readKind m_readWet m_keptWet m_keptSun m_openFirst m_planHours m_readings m_readCells m_readHours m_readCracked (3 : Int32) n q65_1 hq6) ⟨tw_808, tw_805, tw_807, tp_37, tw_6⟩ mdX5_begins ⟨rfl, rfl, Nat.le_of_ble_eq_true rfl, Nat.le_of_ble_eq_true rfl⟩ rfl dX5_tell_65 rfl (Nat.le_of_ble_eq_true rfl) ⟨Nat.zero_le _, Nat.zero_le _⟩ rfl rfl rfl [0, 1, 2, 3, 4, 5, 6, 7, 8, 9, 10, 11] [] [0, 1, 2, 3, 4, 5, 6, 7, 8, 9, 10, 11] rfl rfl (by decide) rfl (fun H locs hP hD hS => ?_)
        refine lv_aload_n hx hb dX5_tell_68 rfl (lv_at hl 1 rfl) ?_
        refine lv_iconst (v := (2 : Int32)) hx hb dX5_tell_69 (by decide) ?_
        obtain ⟨q70_2, hq7, hf⟩ := Option.bind_eq_some_iff.mp hf
        refine cV (ws' := (W_m cI cS a_m a_m_sorts a_m_sheetLong a_m_cells a_m_kind a_m_wet a_m_readKind a_m_readWet a_m_keptWet a_m_readCells a_m_readHours a_m_readCracked m_fault q70_2 m_sorts m_sheetLong m_cells m_sun m_wide m_deep m_hour m_kind m_wet m_at m_readSun m_readWide m_readDeep m_readKind m_readWet m_keptWet m_keptSun m_openFirst m_planHours m_readings m_readCells m_readHours m_readCracked)) (rest := []) (st1 := []) Cc hK hA hP hD hS hl.1 (ctX5_begins l D cI cS a_m a_m_sorts a_m_sheetLong a_m_cells a_m_kind a_m_wet a_m_readKind a_m_readWet a_m_keptWet a_m_readCells a_m_readHours a_m_readCracked m_fault q65_1 m_sorts m_sheetLong m_cells m_sun m_wide m_deep m_hour m_kind m_wet m_at m_readSun m_readWide m_readDeep m_readKind m_readWet m_keptWet m_keptSun m_openFirst m_planHours m_readings m_readCells m_readHours m_readCracked (2 : Int32) n q70_2 hq7) ⟨tw_808, tw_805, tw_807, tp_37, tw_6⟩ mdX5_begins ⟨rfl, rfl, Nat.le_of_ble_eq_true rfl, Nat.le_of_ble_eq_true rfl⟩ rfl dX5_tell_70 rfl (Nat.le_of_ble_eq_true rfl) ⟨Nat.zero_le _, Nat.zero_le _⟩ rfl rfl rfl [0, 1, 2, 3, 4, 5, 6, 7, 8, 9, 10, 11] [] [0, 1, 2, 3, 4, 5, 6, 7, 8, 9, 10, 11] rfl rfl (by decide) rfl (fun H locs hP hD hS => ?_)
        refine lv_aload_n hx hb dX5_tell_73 rfl (lv_at hl 1 rfl) ?_
        refine lv_iconst (v := (1 : Int32)) hx hb dX5_tell_74 (by decide) ?_
        obtain ⟨q75_3, hq8, hf⟩ := Option.bind_eq_some_iff.mp hf
        refine cV (ws' := (W_m cI cS a_m a_m_sorts a_m_sheetLong a_m_cells a_m_kind a_m_wet a_m_readKind a_m_readWet a_m_keptWet a_m_readCells a_m_readHours a_m_readCracked m_fault q75_3 m_sorts m_sheetLong m_cells m_sun m_wide m_deep m_hour m_kind m_wet m_at m_readSun m_readWide m_readDeep m_readKind m_readWet m_keptWet m_keptSun m_openFirst m_planHours m_readings m_readCells m_readHours m_readCracked)) (rest := []) (st1 := []) Cc hK hA hP hD hS hl.1 (ctX5_begins l D cI cS a_m a_m_sorts a_m_sheetLong a_m_cells a_m_kind a_m_wet a_m_readKind a_m_readWet a_m_keptWet a_m_readCells a_m_readHours a_m_readCracked m_fault q70_2 m_sorts m_sheetLong m_cells m_sun m_wide m_deep m_hour m_kind m_wet m_at m_readSun m_readWide m_readDeep m_readKind m_readWet m_keptWet m_keptSun m_openFirst m_planHours m_readings m_readCells m_readHours m_readCracked (1 : Int32) n q75_3 hq8) ⟨tw_808, tw_805, tw_807, tp_37, tw_6⟩ mdX5_begins ⟨rfl, rfl, Nat.le_of_ble_eq_true rfl, Nat.le_of_ble_eq_true rfl⟩ rfl dX5_tell_75 rfl (Nat.le_of_ble_eq_true rfl) ⟨Nat.zero_le _, Nat.zero_le _⟩ rfl rfl rfl [0, 1, 2, 3, 4, 5, 6, 7, 8, 9, 10, 11] [] [0, 1, 2, 3, 4, 5, 6, 7, 8, 9, 10, 11] rfl rfl (by decide) rfl (fun H locs hP hD hS => ?_)
        refine lv_aload_n hx hb dX5_tell_78 rfl (lv_at hl 1 rfl) ?_
        refine lv_iconst (v := (1 : Int32)) hx hb dX5_tell_79 (by decide) ?_
        obtain ⟨q80_4, hq9, hf⟩ := Option.bind_eq_some_iff.mp hf
        refine cV (ws' := (W_m cI cS a_m a_m_sorts a_m_sheetLong a_m_cells a_m_kind a_m_wet a_m_readKind a_m_readWet a_m_keptWet a_m_readCells a_m_readHours a_m_readCracked m_fault q80_4 m_sorts m_sheetLong m_cells m_sun m_wide m_deep m_hour m_kind m_wet m_at m_readSun m_readWide m_readDeep m_readKind m_readWet m_keptWet m_keptSun m_openFirst m_planHours m_readings m_readCells m_readHours m_readCracked)) (rest := []) (st1 := []) Cc hK hA hP hD hS hl.1 (ctX5_begins l D cI cS a_m a_m_sorts a_m_sheetLong a_m_cells a_m_kind a_m_wet a_m_readKind a_m_readWet a_m_keptWet a_m_readCells a_m_readHours a_m_readCracked m_fault q75_3 m_sorts m_sheetLong m_cells m_sun m_wide m_deep m_hour m_kind m_wet m_at m_readSun m_readWide m_readDeep m_readKind m_readWet m_keptWet m_keptSun m_openFirst m_planHours m_readings m_readCells m_readHours m_readCracked (1 : Int32) n q80_4 hq9) ⟨tw_808, tw_805, tw_807, tp_37, tw_6⟩ mdX5_begins ⟨rfl, rfl, Nat.le_of_ble_eq_true rfl, Nat.le_of_ble_eq_true rfl⟩ rfl dX5_tell_80 rfl (Nat.le_of_ble_eq_true rfl) ⟨Nat.zero_le _, Nat.zero_le _⟩ rfl rfl rfl [0, 1, 2, 3, 4, 5, 6, 7, 8, 9, 10, 11] [] [0, 1, 2, 3, 4, 5, 6, 7, 8, 9, 10, 11] rfl rfl (by decide) rfl (fun H locs hP hD hS => ?_)
        refine lv_iconst (v := (2 : Int32)) hx hb dX5_tell_83 (by decide) ?_
        refine lv_iload_n hx hb dX5_tell_84 rfl (lv_at hl 0 rfl) ?_
        refine lv_imul hx hb dX5_tell_85 ?_
        refine lv_bipush (v := (100 : Int32)) hx hb dX5_tell_86 (by decide) ?_
        refine lv_iadd hx hb dX5_tell_88 ?_
        replace hf := Option.some.inj hf
        obtain ⟨er0, er1⟩ := Prod.mk.inj hf
        clear hf 
        subst er0
        subst er1
        exact rt_i Cc hK hP hD hS dX5_tell_89
      · replace hf := (if_neg hs3_1).symm.trans hf
        refine lv_lookup (tgt := 90) (off := 67) hx hb dX5_tell_23 (by decide) (lk_out2 (k0 := 1) (k1 := 2) (nei hs3_0) (nei hs3_1)) (by decide) ?_
        refine lv_aload_n hx hb dX5_tell_90 rfl (lv_at hl 1 rfl) ?_
        refine lv_iconst (v := (1 : Int32)) hx hb dX5_tell_91 (by decide) ?_
        obtain ⟨q92_1, hq10, hf⟩ := Option.bind_eq_some_iff.mp hf
        refine cV (ws' := (W_m cI cS a_m a_m_sorts a_m_sheetLong a_m_cells a_m_kind a_m_wet a_m_readKind a_m_readWet a_m_keptWet a_m_readCells a_m_readHours a_m_readCracked m_fault q92_1 m_sorts m_sheetLong m_cells m_sun m_wide m_deep m_hour m_kind m_wet m_at m_readSun m_readWide m_readDeep m_readKind m_readWet m_keptWet m_keptSun m_openFirst m_planHours m_readings m_readCells m_readHours m_readCracked)) (rest := []) (st1 := []) Cc hK hA hP hD hS hl.1 (ctX5_begins l D cI cS a_m a_m_sorts a_m_sheetLong a_m_cells a_m_kind a_m_wet a_m_readKind a_m_readWet a_m_keptWet a_m_readCells a_m_readHours a_m_readCracked m_fault m_trace m_sorts m_sheetLong m_cells m_sun m_wide m_deep m_hour m_kind m_wet m_at m_readSun m_readWide m_readDeep m_readKind m_readWet m_keptWet m_keptSun m_openFirst m_planHours m_readings m_readCells m_readHours m_readCracked (1 : Int32) n q92_1 hq10) ⟨tw_808, tw_805, tw_807, tp_37, tw_6⟩ mdX5_begins ⟨rfl, rfl, Nat.le_of_ble_eq_true rfl, Nat.le_of_ble_eq_true rfl⟩ rfl dX5_tell_92 rfl (Nat.le_of_ble_eq_true rfl) ⟨Nat.zero_le _, Nat.zero_le _⟩ rfl rfl rfl [0, 1, 2, 3, 4, 5, 6, 7, 8, 9, 10, 11] [] [0, 1, 2, 3, 4, 5, 6, 7, 8, 9, 10, 11] rfl rfl (by decide) rfl (fun H locs hP hD hS => ?_)
        refine lv_iload_n hx hb dX5_tell_95 rfl (lv_at hl 0 rfl) ?_
        replace hf := Option.some.inj hf
        obtain ⟨er0, er1⟩ := Prod.mk.inj hf
        clear hf 
        subst er0
        subst er1
        exact rt_i Cc hK hP hD hS dX5_tell_96
  · replace hf := (if_pos hc2).symm.trans hf
    refine lv_iconst (v := (-1 : Int32)) hx hb dX5_tell_8 (by decide) ?_
    replace hf := Option.some.inj hf
    obtain ⟨er0, er1⟩ := Prod.mk.inj hf
    clear hf 
    subst er0
    subst er1
    exact rt_i Cc hK hP hD hS dX5_tell_9
-- X5_draw
def fX5_draw_26 (n : Nat) (m_trace : Int32) (m_wide : Int32) (m_deep : Int32) (m_kind : Nat → Int32) (x1 : Int32) (y0 : Int32) : Option (Int32 × Int32) := (fX5_begins n m_trace y0).bind fun q26_1 => gd x1 12 (if (m_kind x1.toNatClampNeg) = (2 : Int32) then some ((80 : Int32), q26_1) else some (x1, q26_1))
def fX5_draw (n : Nat) (m_trace : Int32) (m_wide : Int32) (m_deep : Int32) (m_kind : Nat → Int32) (p1 : Int32) : Option (Int32 × Int32) := (fX5_isCell n m_wide m_deep p1).bind fun q2_1 => if q2_1 = 0 then some ((-1 : Int32), m_trace) else gd p1 12 (if (m_kind p1.toNatClampNeg) = (2 : Int32) then fX5_draw_26 n m_trace m_wide m_deep m_kind p1 (5 : Int32) else fX5_draw_26 n m_trace m_wide m_deep m_kind p1 (4 : Int32))
theorem mdX5_draw : yX5_draw.cls = RX5 ∧ yX5_draw.cls ≠ "java/lang/invoke/MethodHandle" ∧ yX5_draw.cls ≠ "java/lang/invoke/VarHandle" ∧ (parseMethodDescriptor yX5_draw.desc).map (fun d => d.parameters.length) = some 1 := by decide +kernel
set_option maxHeartbeats 4000000 in
set_option maxRecDepth 100000 in
theorem bX5_draw_26 {p : Program} {l : Launch} {e : Env} {s : State} {m : MethodId} {args : Array Value} {below : List Frame} {meth : Method} {c : Code} {A : Nat → Prop} {D : va_G} {cI cS : ClassId} (a_m a_m_sorts a_m_sheetLong a_m_cells a_m_kind a_m_wet a_m_readKind a_m_readWet a_m_keptWet a_m_readCells a_m_readHours a_m_readCracked : Nat) (m_fault : Int32) (m_sorts : Nat → Int32) (m_sheetLong : Nat → Int32) (m_cells : Nat → Int32) (m_sun : Int32) (m_hour : Int32) (m_wet : Nat → Int32) (m_at : Int32) (m_readSun : Int32) (m_readWide : Int32) (m_readDeep : Int32) (m_readKind : Nat → Int32) (m_readWet : Nat → Int32) (m_keptWet : Nat → Int32) (m_keptSun : Int32) (m_openFirst : Int32) (m_planHours : Int32) (m_readings : Int32) (m_readCells : Nat → Int32) (m_readHours : Nat → Int32) (m_readCracked : Nat → Int32) (Cc : Cx p s m args meth c RX5 cX5_draw 2 (some .int)) (hK : va_K D classes (tysA cI cS) s) (hA : ∀ q, s.heap.size ≤ q → A q) (n : Nat) : ∀ (m_trace : Int32) (m_wide : Int32) (m_deep : Int32) (m_kind : Nat → Int32) (x1 : Int32) (y0 : Int32) (r : Int32) (m_trace' : Int32), fX5_draw_26 n m_trace m_wide m_deep m_kind x1 y0 = some (r, m_trace') → ∀ (H : Heap) (locs : List Loc) (ls : Array Slot), va_P D classes (W_m cI cS a_m a_m_sorts a_m_sheetLong a_m_cells a_m_kind a_m_wet a_m_readKind a_m_readWet a_m_keptWet a_m_readCells a_m_readHours a_m_readCracked m_fault m_trace m_sorts m_sheetLong m_cells m_sun m_wide m_deep m_hour m_kind m_wet m_at m_readSun m_readWide m_readDeep m_readKind m_readWet m_keptWet m_keptSun m_openFirst m_planHours m_readings m_readCells m_readHours m_readCracked) H → va_D A (W_m cI cS a_m a_m_sorts a_m_sheetLong a_m_cells a_m_kind a_m_wet a_m_readKind a_m_readWet a_m_keptWet a_m_readCells a_m_readHours a_m_readCracked m_fault m_trace m_sorts m_sheetLong m_cells m_sun m_wide m_deep m_hour m_kind m_wet m_at m_readSun m_readWide m_readDeep m_readKind m_readWet m_keptWet m_keptSun m_openFirst m_planHours m_readings m_readCells m_readHours m_readCracked) → va_S A s.heap H locs → lv_has ls 2 [(0, .ref a_m), (1, .int x1)] → W p l e (Rm 2) s m args below meth c H locs 0 0 (MQ below (QW D (tysA cI cS) (some (.int r)) (W_m cI cS a_m a_m_sorts a_m_sheetLong a_m_cells a_m_kind a_m_wet a_m_readKind a_m_readWet a_m_keptWet a_m_readCells a_m_readHours a_m_readCracked m_fault m_trace' m_sorts m_sheetLong m_cells m_sun m_wide m_deep m_hour m_kind m_wet m_at m_readSun m_readWide m_readDeep m_readKind m_readWet m_keptWet m_keptSun m_openFirst m_planHours m_readings m_readCells m_readHours m_readCracked) A) args s 0 0 A) (F0 m 26 ls [.int y0, .ref a_m]) := by
  obtain ⟨hx, hb, hr, hml, hown, hts, hlk, hnw⟩ := id Cc
  intro m_trace m_wide m_deep m_kind x1 y0 r m_trace' hf H locs ls hP hD hS hl
  unfold fX5_draw_26 at hf
  obtain ⟨q26_1, hq4, hf⟩ := Option.bind_eq_some_iff.mp hf
  refine cV (ws' := (W_m cI cS a_m a_m_sorts a_m_sheetLong a_m_cells a_m_kind a_m_wet a_m_readKind a_m_readWet a_m_keptWet a_m_readCells a_m_readHours a_m_readCracked m_fault q26_1 m_sorts m_sheetLong m_cells m_sun m_wide m_deep m_hour m_kind m_wet m_at m_readSun m_readWide m_readDeep m_readKind m_readWet m_keptWet m_keptSun m_openFirst m_planHours m_readings m_readCells m_readHours m_readCracked)) (rest := []) (st1 := []) Cc hK hA hP hD hS hl.1 (ctX5_begins l D cI cS a_m a_m_sorts a_m_sheetLong a_m_cells a_m_kind a_m_wet a_m_readKind a_m_readWet a_m_keptWet a_m_readCells a_m_readHours a_m_readCracked m_fault m_trace m_sorts m_sheetLong m_cells m_sun m_wide m_deep m_hour m_kind m_wet m_at m_readSun m_readWide m_readDeep m_readKind m_readWet m_keptWet m_keptSun m_openFirst m_planHours m_readings m_readCells m_readHours m_readCracked y0 n q26_1 hq4) ⟨tw_808, tw_805, tw_807, tp_37, tw_6⟩ mdX5_begins ⟨rfl, rfl, Nat.le_of_ble_eq_true rfl, Nat.le_of_ble_eq_true rfl⟩ rfl dX5_draw_26 rfl (Nat.le_of_ble_eq_true rfl) ⟨Nat.zero_le _, Nat.zero_le _⟩ rfl rfl rfl [0, 1, 2, 3, 4, 5, 6, 7, 8, 9, 10, 11] [] [0, 1, 2, 3, 4, 5, 6, 7, 8, 9, 10, 11] rfl rfl (by decide) rfl (fun H locs hP hD hS => ?_)
  refine lv_aload_n hx hb dX5_draw_29 rfl (lv_at hl 0 rfl) ?_
  refine va_get (D := D) (ci := 5) (v := .ref a_m_kind) (C := RX5) (T := TX5) (N := 25) hx hb hts inX5 hown hK hP 0 rfl rfl 9 (by decide) (hts _ tw_512) (fun _ h9 => h9) rfl dX5_draw_30 ?_
  refine lv_iload_n hx hb dX5_draw_33 rfl (lv_at hl 1 rfl) ?_
  obtain ⟨hin, hf⟩ := gd_some hf
  refine va_iald hx hb hK hP 4 0 rfl rfl hin dX5_draw_34 ?_
  refine lv_iconst (v := (2 : Int32)) hx hb dX5_draw_35 (by decide) ?_
  refine lv_icmp_ne (tgt := 44) hx hb dX5_draw_36 (by decide) (fun hc5 => ?_) (fun hc5 => ?_)
  · replace hf := (if_neg hc5).symm.trans hf
    refine lv_iload_n hx hb dX5_draw_44 rfl (lv_at hl 1 rfl) ?_
    replace hf := Option.some.inj hf
    obtain ⟨er0, er1⟩ := Prod.mk.inj hf
    clear hf 
    subst er0
    subst er1
    exact rt_i Cc hK hP hD hS dX5_draw_45
  · replace hf := (if_pos hc5).symm.trans hf
    refine lv_bipush (v := (80 : Int32)) hx hb dX5_draw_39 (by decide) ?_
    refine lv_goto (tgt := 45) hx hb dX5_draw_41 (by decide) ?_
    replace hf := Option.some.inj hf
    obtain ⟨er0, er1⟩ := Prod.mk.inj hf
    clear hf 
    subst er0
    subst er1
    exact rt_i Cc hK hP hD hS dX5_draw_45
set_option maxHeartbeats 4000000 in
set_option maxRecDepth 100000 in
theorem ctX5_draw (l : Launch) (D : va_G) (cI cS : ClassId) (a_m a_m_sorts a_m_sheetLong a_m_cells a_m_kind a_m_wet a_m_readKind a_m_readWet a_m_keptWet a_m_readCells a_m_readHours a_m_readCracked : Nat) (m_fault : Int32) (m_trace : Int32) (m_sorts : Nat → Int32) (m_sheetLong : Nat → Int32) (m_cells : Nat → Int32) (m_sun : Int32) (m_wide : Int32) (m_deep : Int32) (m_hour : Int32) (m_kind : Nat → Int32) (m_wet : Nat → Int32) (m_at : Int32) (m_readSun : Int32) (m_readWide : Int32) (m_readDeep : Int32) (m_readKind : Nat → Int32) (m_readWet : Nat → Int32) (m_keptWet : Nat → Int32) (m_keptSun : Int32) (m_openFirst : Int32) (m_planHours : Int32) (m_readings : Int32) (m_readCells : Nat → Int32) (m_readHours : Nat → Int32) (m_readCracked : Nat → Int32) (p1 : Int32) (n : Nat) (r : Int32) (m_trace' : Int32) (hf : fX5_draw n m_trace m_wide m_deep m_kind p1 = some (r, m_trace')) : Ct l D (tysA cI cS) yX5_draw cX5_draw 2 (some .int) (Rm 2) [.ref a_m, .int p1] (W_m cI cS a_m a_m_sorts a_m_sheetLong a_m_cells a_m_kind a_m_wet a_m_readKind a_m_readWet a_m_keptWet a_m_readCells a_m_readHours a_m_readCracked m_fault m_trace m_sorts m_sheetLong m_cells m_sun m_wide m_deep m_hour m_kind m_wet m_at m_readSun m_readWide m_readDeep m_readKind m_readWet m_keptWet m_keptSun m_openFirst m_planHours m_readings m_readCells m_readHours m_readCracked) (some (.int r)) (W_m cI cS a_m a_m_sorts a_m_sheetLong a_m_cells a_m_kind a_m_wet a_m_readKind a_m_readWet a_m_keptWet a_m_readCells a_m_readHours a_m_readCracked m_fault m_trace' m_sorts m_sheetLong m_cells m_sun m_wide m_deep m_hour m_kind m_wet m_at m_readSun m_readWide m_readDeep m_readKind m_readWet m_keptWet m_keptSun m_openFirst m_planHours m_readings m_readCells m_readHours m_readCracked) := by
  refine Ct_of (by decide) (Nat.le_of_ble_eq_true rfl) ?_
  intro p e s m args below meth c A ls Cc hK hA hP hD hS hl
  have hl : lv_has ls 2 [(0, .ref a_m), (1, .int p1)] := hl
  obtain ⟨hx, hb, hr, hml, hown, hts, hlk, hnw⟩ := id Cc
  unfold fX5_draw at hf
  refine lv_aload_n hx hb dX5_draw_0 rfl (lv_at hl 0 rfl) ?_
  refine lv_iload_n hx hb dX5_draw_1 rfl (lv_at hl 1 rfl) ?_
  obtain ⟨q2_1, hq1, hf⟩ := Option.bind_eq_some_iff.mp hf
  refine cV (ws' := (W_m cI cS a_m a_m_sorts a_m_sheetLong a_m_cells a_m_kind a_m_wet a_m_readKind a_m_readWet a_m_keptWet a_m_readCells a_m_readHours a_m_readCracked m_fault m_trace m_sorts m_sheetLong m_cells m_sun m_wide m_deep m_hour m_kind m_wet m_at m_readSun m_readWide m_readDeep m_readKind m_readWet m_keptWet m_keptSun m_openFirst m_planHours m_readings m_readCells m_readHours m_readCracked)) (rest := []) (st1 := [.int q2_1]) Cc hK hA hP hD hS hl.1 (ctX5_isCell l D cI cS a_m a_m_sorts a_m_sheetLong a_m_cells a_m_kind a_m_wet a_m_readKind a_m_readWet a_m_keptWet a_m_readCells a_m_readHours a_m_readCracked m_fault m_trace m_sorts m_sheetLong m_cells m_sun m_wide m_deep m_hour m_kind m_wet m_at m_readSun m_readWide m_readDeep m_readKind m_readWet m_keptWet m_keptSun m_openFirst m_planHours m_readings m_readCells m_readHours m_readCracked p1 n q2_1 hq1) ⟨tw_627, tw_624, tw_626, tp_18, tw_6⟩ mdX5_isCell ⟨rfl, rfl, Nat.le_of_ble_eq_true rfl, Nat.le_of_ble_eq_true rfl⟩ rfl dX5_draw_2 rfl (Nat.le_of_ble_eq_true rfl) ⟨Nat.zero_le _, Nat.zero_le _⟩ rfl rfl rfl [0, 1, 2, 3, 4, 5, 6, 7, 8, 9, 10, 11] [] [0, 1, 2, 3, 4, 5, 6, 7, 8, 9, 10, 11] rfl rfl (by decide) rfl (fun H locs hP hD hS => ?_)
  refine lv_if_ne (tgt := 10) hx hb dX5_draw_5 (by decide) (fun hc2 => ?_) (fun hc2 => ?_)
  · replace hf := (if_neg hc2).symm.trans hf
    refine lv_aload_n hx hb dX5_draw_10 rfl (lv_at hl 0 rfl) ?_
    refine lv_aload_n hx hb dX5_draw_11 rfl (lv_at hl 0 rfl) ?_
    refine va_get (D := D) (ci := 5) (v := .ref a_m_kind) (C := RX5) (T := TX5) (N := 25) hx hb hts inX5 hown hK hP 0 rfl rfl 9 (by decide) (hts _ tw_512) (fun _ h9 => h9) rfl dX5_draw_12 ?_
    refine lv_iload_n hx hb dX5_draw_15 rfl (lv_at hl 1 rfl) ?_
    obtain ⟨hin, hf⟩ := gd_some hf
    refine va_iald hx hb hK hP 4 0 rfl rfl hin dX5_draw_16 ?_
    refine lv_iconst (v := (2 : Int32)) hx hb dX5_draw_17 (by decide) ?_
    refine lv_icmp_ne (tgt := 25) hx hb dX5_draw_18 (by decide) (fun hc3 => ?_) (fun hc3 => ?_)
    · replace hf := (if_neg hc3).symm.trans hf
      refine lv_iconst (v := (4 : Int32)) hx hb dX5_draw_25 (by decide) ?_
      exact bX5_draw_26 a_m a_m_sorts a_m_sheetLong a_m_cells a_m_kind a_m_wet a_m_readKind a_m_readWet a_m_keptWet a_m_readCells a_m_readHours a_m_readCracked m_fault m_sorts m_sheetLong m_cells m_sun m_hour m_wet m_at m_readSun m_readWide m_readDeep m_readKind m_readWet m_keptWet m_keptSun m_openFirst m_planHours m_readings m_readCells m_readHours m_readCracked Cc hK hA n _ _ _ _ _ _ _ _ hf _ _ _ hP hD hS (lv_sub hl [0, 1] rfl)
    · replace hf := (if_pos hc3).symm.trans hf
      refine lv_iconst (v := (5 : Int32)) hx hb dX5_draw_21 (by decide) ?_
      refine lv_goto (tgt := 26) hx hb dX5_draw_22 (by decide) ?_
      exact bX5_draw_26 a_m a_m_sorts a_m_sheetLong a_m_cells a_m_kind a_m_wet a_m_readKind a_m_readWet a_m_keptWet a_m_readCells a_m_readHours a_m_readCracked m_fault m_sorts m_sheetLong m_cells m_sun m_hour m_wet m_at m_readSun m_readWide m_readDeep m_readKind m_readWet m_keptWet m_keptSun m_openFirst m_planHours m_readings m_readCells m_readHours m_readCracked Cc hK hA n _ _ _ _ _ _ _ _ hf _ _ _ hP hD hS (lv_sub hl [0, 1] rfl)
  · replace hf := (if_pos hc2).symm.trans hf
    refine lv_iconst (v := (-1 : Int32)) hx hb dX5_draw_8 (by decide) ?_
    replace hf := Option.some.inj hf
    obtain ⟨er0, er1⟩ := Prod.mk.inj hf
    clear hf 
    subst er0
    subst er1
    exact rt_i Cc hK hP hD hS dX5_draw_9
-- X5_as
def fX5_as (n : Nat) (m_fault : Int32) (m_wide : Int32) (m_deep : Int32) (m_kind : Nat → Int32) (p1 : Int32) (p2 : Int32) : Option (Int32 × Int32) := (fX5_isCell n m_wide m_deep p1).bind fun q7_1 => if q7_1 = 0 then some ((-1 : Int32), (0 : Int32)) else (fX5_within n p2 (0 : Int32) (2 : Int32)).bind fun q18_1 => if q18_1 = 0 then some ((-2 : Int32), (0 : Int32)) else gd p1 12 (if (m_kind p1.toNatClampNeg) < p2 then (fX5_fails n (0 : Int32) (2 : Int32)).bind fun q43_1 => some (q43_1.1, q43_1.2) else some ((1 : Int32), (0 : Int32)))
theorem mdX5_as : yX5_as.cls = RX5 ∧ yX5_as.cls ≠ "java/lang/invoke/MethodHandle" ∧ yX5_as.cls ≠ "java/lang/invoke/VarHandle" ∧ (parseMethodDescriptor yX5_as.desc).map (fun d => d.parameters.length) = some 2 := by decide +kernel
set_option maxHeartbeats 4000000 in
set_option maxRecDepth 100000 in
theorem ctX5_as (l : Launch) (D : va_G) (cI cS : ClassId) (a_m a_m_sorts a_m_sheetLong a_m_cells a_m_kind a_m_wet a_m_readKind a_m_readWet a_m_keptWet a_m_readCells a_m_readHours a_m_readCracked : Nat) (m_fault : Int32) (m_trace : Int32) (m_sorts : Nat → Int32) (m_sheetLong : Nat → Int32) (m_cells : Nat → Int32) (m_sun : Int32) (m_wide : Int32) (m_deep : Int32) (m_hour : Int32) (m_kind : Nat → Int32) (m_wet : Nat → Int32) (m_at : Int32) (m_readSun : Int32) (m_readWide : Int32) (m_readDeep : Int32) (m_readKind : Nat → Int32) (m_readWet : Nat → Int32) (m_keptWet : Nat → Int32) (m_keptSun : Int32) (m_openFirst : Int32) (m_planHours : Int32) (m_readings : Int32) (m_readCells : Nat → Int32) (m_readHours : Nat → Int32) (m_readCracked : Nat → Int32) (p1 : Int32) (p2 : Int32) (n : Nat) (r : Int32) (m_fault' : Int32) (hf : fX5_as n m_fault m_wide m_deep m_kind p1 p2 = some (r, m_fault')) : Ct l D (tysA cI cS) yX5_as cX5_as 3 (some .int) (Rm 2) [.ref a_m, .int p1, .int p2] (W_m cI cS a_m a_m_sorts a_m_sheetLong a_m_cells a_m_kind a_m_wet a_m_readKind a_m_readWet a_m_keptWet a_m_readCells a_m_readHours a_m_readCracked m_fault m_trace m_sorts m_sheetLong m_cells m_sun m_wide m_deep m_hour m_kind m_wet m_at m_readSun m_readWide m_readDeep m_readKind m_readWet m_keptWet m_keptSun m_openFirst m_planHours m_readings m_readCells m_readHours m_readCracked) (some (.int r)) (W_m cI cS a_m a_m_sorts a_m_sheetLong a_m_cells a_m_kind a_m_wet a_m_readKind a_m_readWet a_m_keptWet a_m_readCells a_m_readHours a_m_readCracked m_fault' m_trace m_sorts m_sheetLong m_cells m_sun m_wide m_deep m_hour m_kind m_wet m_at m_readSun m_readWide m_readDeep m_readKind m_readWet m_keptWet m_keptSun m_openFirst m_planHours m_readings m_readCells m_readHours m_readCracked) := by
  refine Ct_of (by decide) (Nat.le_of_ble_eq_true rfl) ?_
  intro p e s m args below meth c A ls Cc hK hA hP hD hS hl
  have hl : lv_has ls 3 [(0, .ref a_m), (1, .int p1), (2, .int p2)] := hl
  obtain ⟨hx, hb, hr, hml, hown, hts, hlk, hnw⟩ := id Cc
  unfold fX5_as at hf
  refine lv_aload_n hx hb dX5_as_0 rfl (lv_at hl 0 rfl) ?_
  refine lv_iconst (v := (0 : Int32)) hx hb dX5_as_1 (by decide) ?_
  refine va_put (D := D) (ci := 5) (v := .int (0 : Int32)) (ty := .int) (C := RX5) (T := TX5) (N := 25) hx hb hts inX5 tyX5 tyX5_ok nmX5 hown hK hP hD hS 0 rfl rfl 0 (by decide) (hts _ tw_503) (fun _ h9 => h9) rfl (tyX5_ok 0 (by decide)) rfl rfl (Nat.le_of_ble_eq_true rfl) dX5_as_2 (fun H locs hP hD hS => ?_)
  have hP : va_P D classes (W_m cI cS a_m a_m_sorts a_m_sheetLong a_m_cells a_m_kind a_m_wet a_m_readKind a_m_readWet a_m_keptWet a_m_readCells a_m_readHours a_m_readCracked (0 : Int32) m_trace m_sorts m_sheetLong m_cells m_sun m_wide m_deep m_hour m_kind m_wet m_at m_readSun m_readWide m_readDeep m_readKind m_readWet m_keptWet m_keptSun m_openFirst m_planHours m_readings m_readCells m_readHours m_readCracked) H := hP
  have hD : va_D A (W_m cI cS a_m a_m_sorts a_m_sheetLong a_m_cells a_m_kind a_m_wet a_m_readKind a_m_readWet a_m_keptWet a_m_readCells a_m_readHours a_m_readCracked (0 : Int32) m_trace m_sorts m_sheetLong m_cells m_sun m_wide m_deep m_hour m_kind m_wet m_at m_readSun m_readWide m_readDeep m_readKind m_readWet m_keptWet m_keptSun m_openFirst m_planHours m_readings m_readCells m_readHours m_readCracked) := hD
  refine lv_aload_n hx hb dX5_as_5 rfl (lv_at hl 0 rfl) ?_
  refine lv_iload_n hx hb dX5_as_6 rfl (lv_at hl 1 rfl) ?_
  obtain ⟨q7_1, hq1, hf⟩ := Option.bind_eq_some_iff.mp hf
  refine cV (ws' := (W_m cI cS a_m a_m_sorts a_m_sheetLong a_m_cells a_m_kind a_m_wet a_m_readKind a_m_readWet a_m_keptWet a_m_readCells a_m_readHours a_m_readCracked (0 : Int32) m_trace m_sorts m_sheetLong m_cells m_sun m_wide m_deep m_hour m_kind m_wet m_at m_readSun m_readWide m_readDeep m_readKind m_readWet m_keptWet m_keptSun m_openFirst m_planHours m_readings m_readCells m_readHours m_readCracked)) (rest := []) (st1 := [.int q7_1]) Cc hK hA hP hD hS hl.1 (ctX5_isCell l D cI cS a_m a_m_sorts a_m_sheetLong a_m_cells a_m_kind a_m_wet a_m_readKind a_m_readWet a_m_keptWet a_m_readCells a_m_readHours a_m_readCracked (0 : Int32) m_trace m_sorts m_sheetLong m_cells m_sun m_wide m_deep m_hour m_kind m_wet m_at m_readSun m_readWide m_readDeep m_readKind m_readWet m_keptWet m_keptSun m_openFirst m_planHours m_readings m_readCells m_readHours m_readCracked p1 n q7_1 hq1) ⟨tw_627, tw_624, tw_626, tp_18, tw_6⟩ mdX5_isCell ⟨rfl, rfl, Nat.le_of_ble_eq_true rfl, Nat.le_of_ble_eq_true rfl⟩ rfl dX5_as_7 rfl (Nat.le_of_ble_eq_true rfl) ⟨Nat.zero_le _, Nat.zero_le _⟩ rfl rfl rfl [0, 1, 2, 3, 4, 5, 6, 7, 8, 9, 10, 11] [] [0, 1, 2, 3, 4, 5, 6, 7, 8, 9, 10, 11] rfl rfl (by decide) rfl (fun H locs hP hD hS => ?_)
  refine lv_if_ne (tgt := 15) hx hb dX5_as_10 (by decide) (fun hc2 => ?_) (fun hc2 => ?_)
  · replace hf := (if_neg hc2).symm.trans hf
    refine lv_iload_n hx hb dX5_as_15 rfl (lv_at hl 2 rfl) ?_
    refine lv_iconst (v := (0 : Int32)) hx hb dX5_as_16 (by decide) ?_
    refine lv_iconst (v := (2 : Int32)) hx hb dX5_as_17 (by decide) ?_
    obtain ⟨q18_1, hq3, hf⟩ := Option.bind_eq_some_iff.mp hf
    refine cSt (ws' := (W_m cI cS a_m a_m_sorts a_m_sheetLong a_m_cells a_m_kind a_m_wet a_m_readKind a_m_readWet a_m_keptWet a_m_readCells a_m_readHours a_m_readCracked (0 : Int32) m_trace m_sorts m_sheetLong m_cells m_sun m_wide m_deep m_hour m_kind m_wet m_at m_readSun m_readWide m_readDeep m_readKind m_readWet m_keptWet m_keptSun m_openFirst m_planHours m_readings m_readCells m_readHours m_readCracked)) (rest := []) (st1 := [.int q18_1]) Cc hK hA hP hD hS hl.1 (ctX5_within l D cI cS   p2 (0 : Int32) (2 : Int32) n q18_1 hq3) ⟨tw_588, tw_586, tw_587, tw_6⟩ mdX5_within ⟨rfl, rfl, Nat.le_of_ble_eq_true rfl, Nat.le_of_ble_eq_true rfl⟩ rfl dX5_as_18 rfl (Nat.le_of_ble_eq_true rfl) ⟨Nat.zero_le _, Nat.zero_le _⟩ rfl [] [0, 1, 2, 3, 4, 5, 6, 7, 8, 9, 10, 11] [0, 1, 2, 3, 4, 5, 6, 7, 8, 9, 10, 11] rfl rfl (by decide) rfl (fun H locs hP hD hS => ?_)
    refine lv_if_ne (tgt := 27) hx hb dX5_as_21 (by decide) (fun hc4 => ?_) (fun hc4 => ?_)
    · replace hf := (if_neg hc4).symm.trans hf
      refine lv_aload_n hx hb dX5_as_27 rfl (lv_at hl 0 rfl) ?_
      refine va_get (D := D) (ci := 5) (v := .ref a_m_kind) (C := RX5) (T := TX5) (N := 25) hx hb hts inX5 hown hK hP 0 rfl rfl 9 (by decide) (hts _ tw_512) (fun _ h9 => h9) rfl dX5_as_28 ?_
      refine lv_iload_n hx hb dX5_as_31 rfl (lv_at hl 1 rfl) ?_
      obtain ⟨hin, hf⟩ := gd_some hf
      refine va_iald hx hb hK hP 4 0 rfl rfl hin dX5_as_32 ?_
      refine lv_iload_n hx hb dX5_as_33 rfl (lv_at hl 2 rfl) ?_
      refine lv_icmp_lt (tgt := 41) hx hb dX5_as_34 (by decide) (fun hc5 => ?_) (fun hc5 => ?_)
      · replace hf := (if_pos hc5).symm.trans hf
        refine lv_aload_n hx hb dX5_as_41 rfl (lv_at hl 0 rfl) ?_
        refine lv_iconst (v := (2 : Int32)) hx hb dX5_as_42 (by decide) ?_
        obtain ⟨q43_1, hq6, hf⟩ := Option.bind_eq_some_iff.mp hf
        refine cV (ws' := (W_m cI cS a_m a_m_sorts a_m_sheetLong a_m_cells a_m_kind a_m_wet a_m_readKind a_m_readWet a_m_keptWet a_m_readCells a_m_readHours a_m_readCracked q43_1.2 m_trace m_sorts m_sheetLong m_cells m_sun m_wide m_deep m_hour m_kind m_wet m_at m_readSun m_readWide m_readDeep m_readKind m_readWet m_keptWet m_keptSun m_openFirst m_planHours m_readings m_readCells m_readHours m_readCracked)) (rest := []) (st1 := [.int q43_1.1]) Cc hK hA hP hD hS hl.1 (ctX5_fails l D cI cS a_m a_m_sorts a_m_sheetLong a_m_cells a_m_kind a_m_wet a_m_readKind a_m_readWet a_m_keptWet a_m_readCells a_m_readHours a_m_readCracked (0 : Int32) m_trace m_sorts m_sheetLong m_cells m_sun m_wide m_deep m_hour m_kind m_wet m_at m_readSun m_readWide m_readDeep m_readKind m_readWet m_keptWet m_keptSun m_openFirst m_planHours m_readings m_readCells m_readHours m_readCracked (2 : Int32) n q43_1.1 q43_1.2 hq6) ⟨tw_599, tw_596, tw_598, tp_12, tw_6⟩ mdX5_fails ⟨rfl, rfl, Nat.le_of_ble_eq_true rfl, Nat.le_of_ble_eq_true rfl⟩ rfl dX5_as_43 rfl (Nat.le_of_ble_eq_true rfl) ⟨Nat.zero_le _, Nat.zero_le _⟩ rfl rfl rfl [0, 1, 2, 3, 4, 5, 6, 7, 8, 9, 10, 11] [] [0, 1, 2, 3, 4, 5, 6, 7, 8, 9, 10, 11] rfl rfl (by decide) rfl (fun H locs hP hD hS => ?_)
        replace hf := Option.some.inj hf
        obtain ⟨er0, er1⟩ := Prod.mk.inj hf
        clear hf 
        subst er0
        subst er1
        exact rt_i Cc hK hP hD hS dX5_as_46
      · replace hf := (if_neg hc5).symm.trans hf
        refine lv_iconst (v := (1 : Int32)) hx hb dX5_as_37 (by decide) ?_
        refine lv_goto (tgt := 46) hx hb dX5_as_38 (by decide) ?_
        replace hf := Option.some.inj hf
        obtain ⟨er0, er1⟩ := Prod.mk.inj hf
        clear hf 
        subst er0
        subst er1
        exact rt_i Cc hK hP hD hS dX5_as_46
    · replace hf := (if_pos hc4).symm.trans hf
      refine lv_bipush (v := (-2 : Int32)) hx hb dX5_as_24 (by decide) ?_
      replace hf := Option.some.inj hf
      obtain ⟨er0, er1⟩ := Prod.mk.inj hf
      clear hf 
      subst er0
      subst er1
      exact rt_i Cc hK hP hD hS dX5_as_26
  · replace hf := (if_pos hc2).symm.trans hf
    refine lv_iconst (v := (-1 : Int32)) hx hb dX5_as_13 (by decide) ?_
    replace hf := Option.some.inj hf
    obtain ⟨er0, er1⟩ := Prod.mk.inj hf
    clear hf 
    subst er0
    subst er1
    exact rt_i Cc hK hP hD hS dX5_as_14
-- X5_trace
def fX5_trace (n : Nat) (m_trace : Int32)  : Option (Int32) := some (m_trace)
theorem mdX5_trace : yX5_trace.cls = RX5 ∧ yX5_trace.cls ≠ "java/lang/invoke/MethodHandle" ∧ yX5_trace.cls ≠ "java/lang/invoke/VarHandle" ∧ (parseMethodDescriptor yX5_trace.desc).map (fun d => d.parameters.length) = some 0 := by decide +kernel
set_option maxHeartbeats 4000000 in
set_option maxRecDepth 100000 in
theorem ctX5_trace (l : Launch) (D : va_G) (cI cS : ClassId) (a_m a_m_sorts a_m_sheetLong a_m_cells a_m_kind a_m_wet a_m_readKind a_m_readWet a_m_keptWet a_m_readCells a_m_readHours a_m_readCracked : Nat) (m_fault : Int32) (m_trace : Int32) (m_sorts : Nat → Int32) (m_sheetLong : Nat → Int32) (m_cells : Nat → Int32) (m_sun : Int32) (m_wide : Int32) (m_deep : Int32) (m_hour : Int32) (m_kind : Nat → Int32) (m_wet : Nat → Int32) (m_at : Int32) (m_readSun : Int32) (m_readWide : Int32) (m_readDeep : Int32) (m_readKind : Nat → Int32) (m_readWet : Nat → Int32) (m_keptWet : Nat → Int32) (m_keptSun : Int32) (m_openFirst : Int32) (m_planHours : Int32) (m_readings : Int32) (m_readCells : Nat → Int32) (m_readHours : Nat → Int32) (m_readCracked : Nat → Int32)  (n : Nat) (r : Int32) (hf : fX5_trace n m_trace  = some (r)) : Ct l D (tysA cI cS) yX5_trace cX5_trace 1 (some .int) (Rm 0) [.ref a_m] (W_m cI cS a_m a_m_sorts a_m_sheetLong a_m_cells a_m_kind a_m_wet a_m_readKind a_m_readWet a_m_keptWet a_m_readCells a_m_readHours a_m_readCracked m_fault m_trace m_sorts m_sheetLong m_cells m_sun m_wide m_deep m_hour m_kind m_wet m_at m_readSun m_readWide m_readDeep m_readKind m_readWet m_keptWet m_keptSun m_openFirst m_planHours m_readings m_readCells m_readHours m_readCracked) (some (.int r)) (W_m cI cS a_m a_m_sorts a_m_sheetLong a_m_cells a_m_kind a_m_wet a_m_readKind a_m_readWet a_m_keptWet a_m_readCells a_m_readHours a_m_readCracked m_fault m_trace m_sorts m_sheetLong m_cells m_sun m_wide m_deep m_hour m_kind m_wet m_at m_readSun m_readWide m_readDeep m_readKind m_readWet m_keptWet m_keptSun m_openFirst m_planHours m_readings m_readCells m_readHours m_readCracked) := by
  refine Ct_of (by decide) (Nat.le_of_ble_eq_true rfl) ?_
  intro p e s m args below meth c A ls Cc hK hA hP hD hS hl
  have hl : lv_has ls 1 [(0, .ref a_m)] := hl
  obtain ⟨hx, hb, hr, hml, hown, hts, hlk, hnw⟩ := id Cc
  unfold fX5_trace at hf
  refine lv_aload_n hx hb dX5_trace_0 rfl (lv_at hl 0 rfl) ?_
  refine va_get (D := D) (ci := 5) (v := .int m_trace) (C := RX5) (T := TX5) (N := 25) hx hb hts inX5 hown hK hP 0 rfl rfl 1 (by decide) (hts _ tw_504) (fun _ h9 => h9) rfl dX5_trace_1 ?_
  obtain rfl := Option.some.inj hf
  exact rt_i Cc hK hP hD hS dX5_trace_4
-- X5_fault
def fX5_fault (n : Nat) (m_fault : Int32)  : Option (Int32) := some (m_fault)
theorem mdX5_fault : yX5_fault.cls = RX5 ∧ yX5_fault.cls ≠ "java/lang/invoke/MethodHandle" ∧ yX5_fault.cls ≠ "java/lang/invoke/VarHandle" ∧ (parseMethodDescriptor yX5_fault.desc).map (fun d => d.parameters.length) = some 0 := by decide +kernel
set_option maxHeartbeats 4000000 in
set_option maxRecDepth 100000 in
theorem ctX5_fault (l : Launch) (D : va_G) (cI cS : ClassId) (a_m a_m_sorts a_m_sheetLong a_m_cells a_m_kind a_m_wet a_m_readKind a_m_readWet a_m_keptWet a_m_readCells a_m_readHours a_m_readCracked : Nat) (m_fault : Int32) (m_trace : Int32) (m_sorts : Nat → Int32) (m_sheetLong : Nat → Int32) (m_cells : Nat → Int32) (m_sun : Int32) (m_wide : Int32) (m_deep : Int32) (m_hour : Int32) (m_kind : Nat → Int32) (m_wet : Nat → Int32) (m_at : Int32) (m_readSun : Int32) (m_readWide : Int32) (m_readDeep : Int32) (m_readKind : Nat → Int32) (m_readWet : Nat → Int32) (m_keptWet : Nat → Int32) (m_keptSun : Int32) (m_openFirst : Int32) (m_planHours : Int32) (m_readings : Int32) (m_readCells : Nat → Int32) (m_readHours : Nat → Int32) (m_readCracked : Nat → Int32)  (n : Nat) (r : Int32) (hf : fX5_fault n m_fault  = some (r)) : Ct l D (tysA cI cS) yX5_fault cX5_fault 1 (some .int) (Rm 0) [.ref a_m] (W_m cI cS a_m a_m_sorts a_m_sheetLong a_m_cells a_m_kind a_m_wet a_m_readKind a_m_readWet a_m_keptWet a_m_readCells a_m_readHours a_m_readCracked m_fault m_trace m_sorts m_sheetLong m_cells m_sun m_wide m_deep m_hour m_kind m_wet m_at m_readSun m_readWide m_readDeep m_readKind m_readWet m_keptWet m_keptSun m_openFirst m_planHours m_readings m_readCells m_readHours m_readCracked) (some (.int r)) (W_m cI cS a_m a_m_sorts a_m_sheetLong a_m_cells a_m_kind a_m_wet a_m_readKind a_m_readWet a_m_keptWet a_m_readCells a_m_readHours a_m_readCracked m_fault m_trace m_sorts m_sheetLong m_cells m_sun m_wide m_deep m_hour m_kind m_wet m_at m_readSun m_readWide m_readDeep m_readKind m_readWet m_keptWet m_keptSun m_openFirst m_planHours m_readings m_readCells m_readHours m_readCracked) := by
  refine Ct_of (by decide) (Nat.le_of_ble_eq_true rfl) ?_
  intro p e s m args below meth c A ls Cc hK hA hP hD hS hl
  have hl : lv_has ls 1 [(0, .ref a_m)] := hl
  obtain ⟨hx, hb, hr, hml, hown, hts, hlk, hnw⟩ := id Cc
  unfold fX5_fault at hf
  refine lv_aload_n hx hb dX5_fault_0 rfl (lv_at hl 0 rfl) ?_
  refine va_get (D := D) (ci := 5) (v := .int m_fault) (C := RX5) (T := TX5) (N := 25) hx hb hts inX5 hown hK hP 0 rfl rfl 0 (by decide) (hts _ tw_503) (fun _ h9 => h9) rfl dX5_fault_1 ?_
  obtain rfl := Option.some.inj hf
  exact rt_i Cc hK hP hD hS dX5_fault_4
-- X5_many
def fX5_many (n : Nat) (m_sun : Int32) (m_wide : Int32) (m_deep : Int32) (m_hour : Int32) (m_kind : Nat → Int32) (m_wet : Nat → Int32) (m_readings : Int32) (p1 : Int32) : Option (Int32) := if p1 = 0 then some (m_wide) else if p1 = 1 then some (m_deep) else if p1 = 2 then some (m_sun) else if p1 = 3 then some (m_hour) else if p1 = 4 then (fX5_crackedBehind n m_sun m_wide m_deep m_kind m_wet (0 : Int32)).bind fun q62_1 => (fX5_size n q62_1).bind fun q65_2 => some (q65_2) else if p1 = 5 then some (m_readings) else some ((-2 : Int32))
theorem mdX5_many : yX5_many.cls = RX5 ∧ yX5_many.cls ≠ "java/lang/invoke/MethodHandle" ∧ yX5_many.cls ≠ "java/lang/invoke/VarHandle" ∧ (parseMethodDescriptor yX5_many.desc).map (fun d => d.parameters.length) = some 1 := by decide +kernel
set_option maxHeartbeats 4000000 in
set_option maxRecDepth 100000 in
theorem ctX5_many (l : Launch) (D : va_G) (cI cS : ClassId) (a_m a_m_sorts a_m_sheetLong a_m_cells a_m_kind a_m_wet a_m_readKind a_m_readWet a_m_keptWet a_m_readCells a_m_readHours a_m_readCracked : Nat) (m_fault : Int32) (m_trace : Int32) (m_sorts : Nat → Int32) (m_sheetLong : Nat → Int32) (m_cells : Nat → Int32) (m_sun : Int32) (m_wide : Int32) (m_deep : Int32) (m_hour : Int32) (m_kind : Nat → Int32) (m_wet : Nat → Int32) (m_at : Int32) (m_readSun : Int32) (m_readWide : Int32) (m_readDeep : Int32) (m_readKind : Nat → Int32) (m_readWet : Nat → Int32) (m_keptWet : Nat → Int32) (m_keptSun : Int32) (m_openFirst : Int32) (m_planHours : Int32) (m_readings : Int32) (m_readCells : Nat → Int32) (m_readHours : Nat → Int32) (m_readCracked : Nat → Int32) (p1 : Int32) (n : Nat) (r : Int32) (hf : fX5_many n m_sun m_wide m_deep m_hour m_kind m_wet m_readings p1 = some (r)) : Ct l D (tysA cI cS) yX5_many cX5_many 2 (some .int) (Rm 3) [.ref a_m, .int p1] (W_m cI cS a_m a_m_sorts a_m_sheetLong a_m_cells a_m_kind a_m_wet a_m_readKind a_m_readWet a_m_keptWet a_m_readCells a_m_readHours a_m_readCracked m_fault m_trace m_sorts m_sheetLong m_cells m_sun m_wide m_deep m_hour m_kind m_wet m_at m_readSun m_readWide m_readDeep m_readKind m_readWet m_keptWet m_keptSun m_openFirst m_planHours m_readings m_readCells m_readHours m_readCracked) (some (.int r)) (W_m cI cS a_m a_m_sorts a_m_sheetLong a_m_cells a_m_kind a_m_wet a_m_readKind a_m_readWet a_m_keptWet a_m_readCells a_m_readHours a_m_readCracked m_fault m_trace m_sorts m_sheetLong m_cells m_sun m_wide m_deep m_hour m_kind m_wet m_at m_readSun m_readWide m_readDeep m_readKind m_readWet m_keptWet m_keptSun m_openFirst m_planHours m_readings m_readCells m_readHours m_readCracked) := by
  refine Ct_of (by decide) (Nat.le_of_ble_eq_true rfl) ?_
  intro p e s m args below meth c A ls Cc hK hA hP hD hS hl
  have hl : lv_has ls 2 [(0, .ref a_m), (1, .int p1)] := hl
  obtain ⟨hx, hb, hr, hml, hown, hts, hlk, hnw⟩ := id Cc
  unfold fX5_many at hf
  refine lv_iload_n hx hb dX5_many_0 rfl (lv_at hl 1 rfl) ?_
  by_cases hs1_0 : p1 = 0
  · replace hf := (if_pos hs1_0).symm.trans hf
    refine lv_tableIn (tgt := 40) (off := 39) hx hb dX5_many_1 (by rw [hs1_0]; decide) (by rw [hs1_0]; decide) (by rw [hs1_0]; decide) (by decide) ?_
    refine lv_aload_n hx hb dX5_many_40 rfl (lv_at hl 0 rfl) ?_
    refine va_get (D := D) (ci := 5) (v := .int m_wide) (C := RX5) (T := TX5) (N := 25) hx hb hts inX5 hown hK hP 0 rfl rfl 6 (by decide) (hts _ tw_509) (fun _ h9 => h9) rfl dX5_many_41 ?_
    obtain rfl := Option.some.inj hf
    exact rt_i Cc hK hP hD hS dX5_many_44
  · replace hf := (if_neg hs1_0).symm.trans hf
    by_cases hs1_1 : p1 = 1
    · replace hf := (if_pos hs1_1).symm.trans hf
      refine lv_tableIn (tgt := 45) (off := 44) hx hb dX5_many_1 (by rw [hs1_1]; decide) (by rw [hs1_1]; decide) (by rw [hs1_1]; decide) (by decide) ?_
      refine lv_aload_n hx hb dX5_many_45 rfl (lv_at hl 0 rfl) ?_
      refine va_get (D := D) (ci := 5) (v := .int m_deep) (C := RX5) (T := TX5) (N := 25) hx hb hts inX5 hown hK hP 0 rfl rfl 7 (by decide) (hts _ tw_510) (fun _ h9 => h9) rfl dX5_many_46 ?_
      obtain rfl := Option.some.inj hf
      exact rt_i Cc hK hP hD hS dX5_many_49
    · replace hf := (if_neg hs1_1).symm.trans hf
      by_cases hs1_2 : p1 = 2
      · replace hf := (if_pos hs1_2).symm.trans hf
        refine lv_tableIn (tgt := 50) (off := 49) hx hb dX5_many_1 (by rw [hs1_2]; decide) (by rw [hs1_2]; decide) (by rw [hs1_2]; decide) (by decide) ?_
        refine lv_aload_n hx hb dX5_many_50 rfl (lv_at hl 0 rfl) ?_
        refine va_get (D := D) (ci := 5) (v := .int m_sun) (C := RX5) (T := TX5) (N := 25) hx hb hts inX5 hown hK hP 0 rfl rfl 5 (by decide) (hts _ tw_508) (fun _ h9 => h9) rfl dX5_many_51 ?_
        obtain rfl := Option.some.inj hf
        exact rt_i Cc hK hP hD hS dX5_many_54
      · replace hf := (if_neg hs1_2).symm.trans hf
        by_cases hs1_3 : p1 = 3
        · replace hf := (if_pos hs1_3).symm.trans hf
          refine lv_tableIn (tgt := 55) (off := 54) hx hb dX5_many_1 (by rw [hs1_3]; decide) (by rw [hs1_3]; decide) (by rw [hs1_3]; decide) (by decide) ?_
          refine lv_aload_n hx hb dX5_many_55 rfl (lv_at hl 0 rfl) ?_
          refine va_get (D := D) (ci := 5) (v := .int m_hour) (C := RX5) (T := TX5) (N := 25) hx hb hts inX5 hown hK hP 0 rfl rfl 8 (by decide) (hts _ tw_511) (fun _ h9 => h9) rfl dX5_many_56 ?_
          obtain rfl := Option.some.inj hf
          exact rt_i Cc hK hP hD hS dX5_many_59
        · replace hf := (if_neg hs1_3).symm.trans hf
          by_cases hs1_4 : p1 = 4
          · replace hf := (if_pos hs1_4).symm.trans hf
            refine lv_tableIn (tgt := 60) (off := 59) hx hb dX5_many_1 (by rw [hs1_4]; decide) (by rw [hs1_4]; decide) (by rw [hs1_4]; decide) (by decide) ?_
            refine lv_aload_n hx hb dX5_many_60 rfl (lv_at hl 0 rfl) ?_
            refine lv_iconst (v := (0 : Int32)) hx hb dX5_many_61 (by decide) ?_
            obtain ⟨q62_1, hq2, hf⟩ := Option.bind_eq_some_iff.mp hf
            refine cV (ws' := (W_m cI cS a_m a_m_sorts a_m_sheetLong a_m_cells a_m_kind a_m_wet a_m_readKind a_m_readWet a_m_keptWet a_m_readCells a_m_readHours a_m_readCracked m_fault m_trace m_sorts m_sheetLong m_cells m_sun m_wide m_deep m_hour m_kind m_wet m_at m_readSun m_readWide m_readDeep m_readKind m_readWet m_keptWet m_keptSun m_openFirst m_planHours m_readings m_readCells m_readHours m_readCracked)) (rest := []) (st1 := [.int q62_1]) Cc hK hA hP hD hS hl.1 (ctX5_crackedBehind l D cI cS a_m a_m_sorts a_m_sheetLong a_m_cells a_m_kind a_m_wet a_m_readKind a_m_readWet a_m_keptWet a_m_readCells a_m_readHours a_m_readCracked m_fault m_trace m_sorts m_sheetLong m_cells m_sun m_wide m_deep m_hour m_kind m_wet m_at m_readSun m_readWide m_readDeep m_readKind m_readWet m_keptWet m_keptSun m_openFirst m_planHours m_readings m_readCells m_readHours m_readCracked (0 : Int32) n q62_1 hq2) ⟨tw_639, tw_636, tw_638, tp_21, tw_6⟩ mdX5_crackedBehind ⟨rfl, rfl, Nat.le_of_ble_eq_true rfl, Nat.le_of_ble_eq_true rfl⟩ rfl dX5_many_62 rfl (Nat.le_of_ble_eq_true rfl) ⟨Nat.zero_le _, Nat.zero_le _⟩ rfl rfl rfl [0, 1, 2, 3, 4, 5, 6, 7, 8, 9, 10, 11] [] [0, 1, 2, 3, 4, 5, 6, 7, 8, 9, 10, 11] rfl rfl (by decide) rfl (fun H locs hP hD hS => ?_)
            obtain ⟨q65_2, hq3, hf⟩ := Option.bind_eq_some_iff.mp hf
            refine cSt (ws' := (W_m cI cS a_m a_m_sorts a_m_sheetLong a_m_cells a_m_kind a_m_wet a_m_readKind a_m_readWet a_m_keptWet a_m_readCells a_m_readHours a_m_readCracked m_fault m_trace m_sorts m_sheetLong m_cells m_sun m_wide m_deep m_hour m_kind m_wet m_at m_readSun m_readWide m_readDeep m_readKind m_readWet m_keptWet m_keptSun m_openFirst m_planHours m_readings m_readCells m_readHours m_readCracked)) (rest := []) (st1 := [.int q65_2]) Cc hK hA hP hD hS hl.1 (ctX5_size l D cI cS   q62_1 n q65_2 hq3) ⟨tw_657, tw_655, tw_656, tw_6⟩ mdX5_size ⟨rfl, rfl, Nat.le_of_ble_eq_true rfl, Nat.le_of_ble_eq_true rfl⟩ rfl dX5_many_65 rfl (Nat.le_of_ble_eq_true rfl) ⟨Nat.zero_le _, Nat.zero_le _⟩ rfl [] [0, 1, 2, 3, 4, 5, 6, 7, 8, 9, 10, 11] [0, 1, 2, 3, 4, 5, 6, 7, 8, 9, 10, 11] rfl rfl (by decide) rfl (fun H locs hP hD hS => ?_)
            obtain rfl := Option.some.inj hf
            exact rt_i Cc hK hP hD hS dX5_many_68
          · replace hf := (if_neg hs1_4).symm.trans hf
            by_cases hs1_5 : p1 = 5
            · replace hf := (if_pos hs1_5).symm.trans hf
              refine lv_tableIn (tgt := 69) (off := 68) hx hb dX5_many_1 (by rw [hs1_5]; decide) (by rw [hs1_5]; decide) (by rw [hs1_5]; decide) (by decide) ?_
              refine lv_aload_n hx hb dX5_many_69 rfl (lv_at hl 0 rfl) ?_
              refine va_get (D := D) (ci := 5) (v := .int m_readings) (C := RX5) (T := TX5) (N := 25) hx hb hts inX5 hown hK hP 0 rfl rfl 21 (by decide) (hts _ tw_524) (fun _ h9 => h9) rfl dX5_many_70 ?_
              obtain rfl := Option.some.inj hf
              exact rt_i Cc hK hP hD hS dX5_many_73
            · replace hf := (if_neg hs1_5).symm.trans hf
              refine lv_tableOut (tgt := 74) hx hb dX5_many_1 (tb_out (N := 5) (by decide) (fun i hi => match i, hi with | 0, _ => hs1_0 | 1, _ => hs1_1 | 2, _ => hs1_2 | 3, _ => hs1_3 | 4, _ => hs1_4 | 5, _ => hs1_5 | i + 6, hi => absurd hi (by omega))) (by decide) ?_
              refine lv_bipush (v := (-2 : Int32)) hx hb dX5_many_74 (by decide) ?_
              obtain rfl := Option.some.inj hf
              exact rt_i Cc hK hP hD hS dX5_many_76
