-- X5_fails
def fX5_fails (n : Nat) (m_fault : Int32) (p1 : Int32) : Option (Int32 × Int32) := some (((-10 : Int32) - p1), p1)
theorem mdX5_fails : yX5_fails.cls = RX5 ∧ yX5_fails.cls ≠ "java/lang/invoke/MethodHandle" ∧ yX5_fails.cls ≠ "java/lang/invoke/VarHandle" ∧ (parseMethodDescriptor yX5_fails.desc).map (fun d => d.parameters.length) = some 1 := by decide +kernel
set_option maxHeartbeats 4000000 in
set_option maxRecDepth 100000 in
theorem ctX5_fails (l : Launch) (D : va_G) (cI cS : ClassId) (a_m a_m_sorts a_m_sheetLong a_m_cells a_m_kind a_m_wet a_m_readKind a_m_readWet a_m_keptWet a_m_readCells a_m_readHours a_m_readCracked : Nat) (m_fault : Int32) (m_trace : Int32) (m_sorts : Nat → Int32) (m_sheetLong : Nat → Int32) (m_cells : Nat → Int32) (m_sun : Int32) (m_wide : Int32) (m_deep : Int32) (m_hour : Int32) (m_kind : Nat → Int32) (m_wet : Nat → Int32) (m_at : Int32) (m_readSun : Int32) (m_readWide : Int32) (m_readDeep : Int32) (m_readKind : Nat → Int32) (m_readWet : Nat → Int32) (m_keptWet : Nat → Int32) (m_keptSun : Int32) (m_openFirst : Int32) (m_planHours : Int32) (m_readings : Int32) (m_readCells : Nat → Int32) (m_readHours : Nat → Int32) (m_readCracked : Nat → Int32) (p1 : Int32) (n : Nat) (r : Int32) (m_fault' : Int32) (hf : fX5_fails n m_fault p1 = some (r, m_fault')) : Ct l D (tysA cI cS) yX5_fails cX5_fails 2 (some .int) (Rm 0) [.ref a_m, .int p1] (W_m cI cS a_m a_m_sorts a_m_sheetLong a_m_cells a_m_kind a_m_wet a_m_readKind a_m_readWet a_m_keptWet a_m_readCells a_m_readHours a_m_readCracked m_fault m_trace m_sorts m_sheetLong m_cells m_sun m_wide m_deep m_hour m_kind m_wet m_at m_readSun m_readWide m_readDeep m_readKind m_readWet m_keptWet m_keptSun m_openFirst m_planHours m_readings m_readCells m_readHours m_readCracked) (some (.int r)) (W_m cI cS a_m a_m_sorts a_m_sheetLong a_m_cells a_m_kind a_m_wet a_m_readKind a_m_readWet a_m_keptWet a_m_readCells a_m_readHours a_m_readCracked m_fault' m_trace m_sorts m_sheetLong m_cells m_sun m_wide m_deep m_hour m_kind m_wet m_at m_readSun m_readWide m_readDeep m_readKind m_readWet m_keptWet m_keptSun m_openFirst m_planHours m_readings m_readCells m_readHours m_readCracked) := by
  refine Ct_of (by decide) (Nat.le_of_ble_eq_true rfl) ?_
  intro p e s m args below meth c A ls Cc hK hA hP hD hS hl
  have hl : lv_has ls 2 [(0, .ref a_m), (1, .int p1)] := hl
  obtain ⟨hx, hb, hr, hml, hown, hts, hlk, hnw⟩ := id Cc
  unfold fX5_fails at hf
  refine lv_aload_n hx hb dX5_fails_0 rfl (lv_at hl 0 rfl) ?_
  refine lv_iload_n hx hb dX5_fails_1 rfl (lv_at hl 1 rfl) ?_
  refine va_put (D := D) (ci := 5) (v := .int p1) (ty := .int) (C := RX5) (T := TX5) (N := 25) hx hb hts inX5 tyX5 tyX5_ok nmX5 hown hK hP hD hS 0 rfl rfl 0 (by decide) (hts _ tw_503) (fun _ h9 => h9) rfl (tyX5_ok 0 (by decide)) rfl rfl (Nat.le_of_ble_eq_true rfl) dX5_fails_2 (fun H locs hP hD hS => ?_)
  have hP : va_P D classes (W_m cI cS a_m a_m_sorts a_m_sheetLong a_m_cells a_m_kind a_m_wet a_m_readKind a_m_readWet a_m_keptWet a_m_readCells a_m_readHours a_m_readCracked p1 m_trace m_sorts m_sheetLong m_cells m_sun m_wide m_deep m_hour m_kind m_wet m_at m_readSun m_readWide m_readDeep m_readKind m_readWet m_keptWet m_keptSun m_openFirst m_planHours m_readings m_readCells m_readHours m_readCracked) H := hP
  have hD : va_D A (W_m cI cS a_m a_m_sorts a_m_sheetLong a_m_cells a_m_kind a_m_wet a_m_readKind a_m_readWet a_m_keptWet a_m_readCells a_m_readHours a_m_readCracked p1 m_trace m_sorts m_sheetLong m_cells m_sun m_wide m_deep m_hour m_kind m_wet m_at m_readSun m_readWide m_readDeep m_readKind m_readWet m_keptWet m_keptSun m_openFirst m_planHours m_readings m_readCells m_readHours m_readCracked) := hD
  refine lv_bipush (v := (-10 : Int32)) hx hb dX5_fails_5 (by decide) ?_
  refine lv_iload_n hx hb dX5_fails_7 rfl (lv_at hl 1 rfl) ?_
  refine lv_isub hx hb dX5_fails_8 ?_
  replace hf := Option.some.inj hf
  obtain ⟨er0, er1⟩ := Prod.mk.inj hf
  clear hf 
  subst er0
  subst er1
  exact rt_i Cc hK hP hD hS dX5_fails_9
-- X5_lost
def fX5_lost (n : Nat) (m_fault : Int32) (p1 : Int32) : Option (Int64 × Int32) := some ((-9223372036854775808 : Int64), p1)
theorem mdX5_lost : yX5_lost.cls = RX5 ∧ yX5_lost.cls ≠ "java/lang/invoke/MethodHandle" ∧ yX5_lost.cls ≠ "java/lang/invoke/VarHandle" ∧ (parseMethodDescriptor yX5_lost.desc).map (fun d => d.parameters.length) = some 1 := by decide +kernel
set_option maxHeartbeats 4000000 in
set_option maxRecDepth 100000 in
theorem ctX5_lost (l : Launch) (D : va_G) (cI cS : ClassId) (a_m a_m_sorts a_m_sheetLong a_m_cells a_m_kind a_m_wet a_m_readKind a_m_readWet a_m_keptWet a_m_readCells a_m_readHours a_m_readCracked : Nat) (m_fault : Int32) (m_trace : Int32) (m_sorts : Nat → Int32) (m_sheetLong : Nat → Int32) (m_cells : Nat → Int32) (m_sun : Int32) (m_wide : Int32) (m_deep : Int32) (m_hour : Int32) (m_kind : Nat → Int32) (m_wet : Nat → Int32) (m_at : Int32) (m_readSun : Int32) (m_readWide : Int32) (m_readDeep : Int32) (m_readKind : Nat → Int32) (m_readWet : Nat → Int32) (m_keptWet : Nat → Int32) (m_keptSun : Int32) (m_openFirst : Int32) (m_planHours : Int32) (m_readings : Int32) (m_readCells : Nat → Int32) (m_readHours : Nat → Int32) (m_readCracked : Nat → Int32) (p1 : Int32) (n : Nat) (r : Int64) (m_fault' : Int32) (hf : fX5_lost n m_fault p1 = some (r, m_fault')) : Ct l D (tysA cI cS) yX5_lost cX5_lost 2 (some .long) (Rm 0) [.ref a_m, .int p1] (W_m cI cS a_m a_m_sorts a_m_sheetLong a_m_cells a_m_kind a_m_wet a_m_readKind a_m_readWet a_m_keptWet a_m_readCells a_m_readHours a_m_readCracked m_fault m_trace m_sorts m_sheetLong m_cells m_sun m_wide m_deep m_hour m_kind m_wet m_at m_readSun m_readWide m_readDeep m_readKind m_readWet m_keptWet m_keptSun m_openFirst m_planHours m_readings m_readCells m_readHours m_readCracked) (some (.long r)) (W_m cI cS a_m a_m_sorts a_m_sheetLong a_m_cells a_m_kind a_m_wet a_m_readKind a_m_readWet a_m_keptWet a_m_readCells a_m_readHours a_m_readCracked m_fault' m_trace m_sorts m_sheetLong m_cells m_sun m_wide m_deep m_hour m_kind m_wet m_at m_readSun m_readWide m_readDeep m_readKind m_readWet m_keptWet m_keptSun m_openFirst m_planHours m_readings m_readCells m_readHours m_readCracked) := by
  refine Ct_of (by decide) (Nat.le_of_ble_eq_true rfl) ?_
  intro p e s m args below meth c A ls Cc hK hA hP hD hS hl
  have hl : lv_has ls 2 [(0, .ref a_m), (1, .int p1)] := hl
  obtain ⟨hx, hb, hr, hml, hown, hts, hlk, hnw⟩ := id Cc
  unfold fX5_lost at hf
  refine lv_aload_n hx hb dX5_lost_0 rfl (lv_at hl 0 rfl) ?_
  refine lv_iload_n hx hb dX5_lost_1 rfl (lv_at hl 1 rfl) ?_
  refine va_put (D := D) (ci := 5) (v := .int p1) (ty := .int) (C := RX5) (T := TX5) (N := 25) hx hb hts inX5 tyX5 tyX5_ok nmX5 hown hK hP hD hS 0 rfl rfl 0 (by decide) (hts _ tw_503) (fun _ h9 => h9) rfl (tyX5_ok 0 (by decide)) rfl rfl (Nat.le_of_ble_eq_true rfl) dX5_lost_2 (fun H locs hP hD hS => ?_)
  have hP : va_P D classes (W_m cI cS a_m a_m_sorts a_m_sheetLong a_m_cells a_m_kind a_m_wet a_m_readKind a_m_readWet a_m_keptWet a_m_readCells a_m_readHours a_m_readCracked p1 m_trace m_sorts m_sheetLong m_cells m_sun m_wide m_deep m_hour m_kind m_wet m_at m_readSun m_readWide m_readDeep m_readKind m_readWet m_keptWet m_keptSun m_openFirst m_planHours m_readings m_readCells m_readHours m_readCracked) H := hP
  have hD : va_D A (W_m cI cS a_m a_m_sorts a_m_sheetLong a_m_cells a_m_kind a_m_wet a_m_readKind a_m_readWet a_m_keptWet a_m_readCells a_m_readHours a_m_readCracked p1 m_trace m_sorts m_sheetLong m_cells m_sun m_wide m_deep m_hour m_kind m_wet m_at m_readSun m_readWide m_readDeep m_readKind m_readWet m_keptWet m_keptSun m_openFirst m_planHours m_readings m_readCells m_readHours m_readCracked) := hD
  refine lv_ldc2 hx hb hown (hts _ tw_773) dX5_lost_5 ?_
  replace hf := Option.some.inj hf
  obtain ⟨er0, er1⟩ := Prod.mk.inj hf
  clear hf 
  subst er0
  subst er1
  exact rt_l Cc hK hP hD hS dX5_lost_8
-- X5_within
def fX5_within (n : Nat)  (p0 : Int32) (p1 : Int32) (p2 : Int32) : Option (Int32) := if p0 < p1 then some ((0 : Int32)) else if p2 < p0 then some ((0 : Int32)) else some ((1 : Int32))
theorem mdX5_within : yX5_within.cls ≠ "java/lang/invoke/MethodHandle" ∧ yX5_within.cls ≠ "java/lang/invoke/VarHandle" ∧ (parseMethodDescriptor yX5_within.desc).map (fun d => d.parameters.length) = some 3 := by decide +kernel
set_option maxHeartbeats 4000000 in
set_option maxRecDepth 100000 in
theorem ctX5_within (l : Launch) (D : va_G) (cI cS : ClassId)  (p0 : Int32) (p1 : Int32) (p2 : Int32) (n : Nat) (r : Int32) (hf : fX5_within n  p0 p1 p2 = some (r)) : Ct l D (tysA cI cS) yX5_within cX5_within 3 (some .boolean) (Rm 0) [.int p0, .int p1, .int p2] (W_0 cI cS) (some (.int r)) (W_0 cI cS) := by
  refine Ct_of (by decide) (Nat.le_of_ble_eq_true rfl) ?_
  intro p e s m args below meth c A ls Cc hK hA hP hD hS hl
  have hl : lv_has ls 3 [(0, .int p0), (1, .int p1), (2, .int p2)] := hl
  obtain ⟨hx, hb, hr, hml, hown, hts, hlk, hnw⟩ := id Cc
  unfold fX5_within at hf
  refine lv_iload_n hx hb dX5_within_0 rfl (lv_at hl 0 rfl) ?_
  refine lv_iload_n hx hb dX5_within_1 rfl (lv_at hl 1 rfl) ?_
  refine lv_icmp_lt (tgt := 14) hx hb dX5_within_2 (by decide) (fun hc1 => ?_) (fun hc1 => ?_)
  · replace hf := (if_pos hc1).symm.trans hf
    refine lv_iconst (v := (0 : Int32)) hx hb dX5_within_14 (by decide) ?_
    obtain rfl := Option.some.inj hf
    exact rt_z Cc (by decide) hK hP hD hS dX5_within_15
  · replace hf := (if_neg hc1).symm.trans hf
    refine lv_iload_n hx hb dX5_within_5 rfl (lv_at hl 0 rfl) ?_
    refine lv_iload_n hx hb dX5_within_6 rfl (lv_at hl 2 rfl) ?_
    refine lv_icmp_gt (tgt := 14) hx hb dX5_within_7 (by decide) (fun hc2 => ?_) (fun hc2 => ?_)
    · replace hf := (if_pos hc2).symm.trans hf
      refine lv_iconst (v := (0 : Int32)) hx hb dX5_within_14 (by decide) ?_
      obtain rfl := Option.some.inj hf
      exact rt_z Cc (by decide) hK hP hD hS dX5_within_15
    · replace hf := (if_neg hc2).symm.trans hf
      refine lv_iconst (v := (1 : Int32)) hx hb dX5_within_10 (by decide) ?_
      refine lv_goto (tgt := 15) hx hb dX5_within_11 (by decide) ?_
      obtain rfl := Option.some.inj hf
      exact rt_z Cc (by decide) hK hP hD hS dX5_within_15
-- X5_isSheet
def fX5_isSheet (n : Nat)  (p0 : Int32) : Option (Int32) := (fX5_within n p0 (0 : Int32) (3 : Int32)).bind fun q3_1 => bz q3_1 (some (q3_1))
theorem mdX5_isSheet : yX5_isSheet.cls ≠ "java/lang/invoke/MethodHandle" ∧ yX5_isSheet.cls ≠ "java/lang/invoke/VarHandle" ∧ (parseMethodDescriptor yX5_isSheet.desc).map (fun d => d.parameters.length) = some 1 := by decide +kernel
set_option maxHeartbeats 4000000 in
set_option maxRecDepth 100000 in
theorem ctX5_isSheet (l : Launch) (D : va_G) (cI cS : ClassId)  (p0 : Int32) (n : Nat) (r : Int32) (hf : fX5_isSheet n  p0 = some (r)) : Ct l D (tysA cI cS) yX5_isSheet cX5_isSheet 1 (some .boolean) (Rm 1) [.int p0] (W_0 cI cS) (some (.int r)) (W_0 cI cS) := by
  refine Ct_of (by decide) (Nat.le_of_ble_eq_true rfl) ?_
  intro p e s m args below meth c A ls Cc hK hA hP hD hS hl
  have hl : lv_has ls 1 [(0, .int p0)] := hl
  obtain ⟨hx, hb, hr, hml, hown, hts, hlk, hnw⟩ := id Cc
  unfold fX5_isSheet at hf
  refine lv_iload_n hx hb dX5_isSheet_0 rfl (lv_at hl 0 rfl) ?_
  refine lv_iconst (v := (0 : Int32)) hx hb dX5_isSheet_1 (by decide) ?_
  refine lv_iconst (v := (3 : Int32)) hx hb dX5_isSheet_2 (by decide) ?_
  obtain ⟨q3_1, hq1, hf⟩ := Option.bind_eq_some_iff.mp hf
  refine cSt (ws' := (W_0 cI cS)) (rest := []) (st1 := [.int q3_1]) Cc hK hA hP hD hS hl.1 (ctX5_within l D cI cS   p0 (0 : Int32) (3 : Int32) n q3_1 hq1) ⟨tw_588, tw_586, tw_587, tw_6⟩ mdX5_within ⟨rfl, rfl, Nat.le_of_ble_eq_true rfl, Nat.le_of_ble_eq_true rfl⟩ rfl dX5_isSheet_3 rfl (Nat.le_of_ble_eq_true rfl) ⟨Nat.zero_le _, Nat.zero_le _⟩ rfl [] [] [] rfl rfl (by decide) rfl (fun H locs hP hD hS => ?_)
  obtain ⟨hz, hf⟩ := bz_some hf
  obtain rfl := Option.some.inj hf
  exact rt_z Cc hz hK hP hD hS dX5_isSheet_6
-- X5_isSort
def fX5_isSort (n : Nat)  (p0 : Int32) : Option (Int32) := (fX5_within n p0 (0 : Int32) (2 : Int32)).bind fun q3_1 => bz q3_1 (some (q3_1))
theorem mdX5_isSort : yX5_isSort.cls ≠ "java/lang/invoke/MethodHandle" ∧ yX5_isSort.cls ≠ "java/lang/invoke/VarHandle" ∧ (parseMethodDescriptor yX5_isSort.desc).map (fun d => d.parameters.length) = some 1 := by decide +kernel
set_option maxHeartbeats 4000000 in
set_option maxRecDepth 100000 in
theorem ctX5_isSort (l : Launch) (D : va_G) (cI cS : ClassId)  (p0 : Int32) (n : Nat) (r : Int32) (hf : fX5_isSort n  p0 = some (r)) : Ct l D (tysA cI cS) yX5_isSort cX5_isSort 1 (some .boolean) (Rm 1) [.int p0] (W_0 cI cS) (some (.int r)) (W_0 cI cS) := by
  refine Ct_of (by decide) (Nat.le_of_ble_eq_true rfl) ?_
  intro p e s m args below meth c A ls Cc hK hA hP hD hS hl
  have hl : lv_has ls 1 [(0, .int p0)] := hl
  obtain ⟨hx, hb, hr, hml, hown, hts, hlk, hnw⟩ := id Cc
  unfold fX5_isSort at hf
  refine lv_iload_n hx hb dX5_isSort_0 rfl (lv_at hl 0 rfl) ?_
  refine lv_iconst (v := (0 : Int32)) hx hb dX5_isSort_1 (by decide) ?_
  refine lv_iconst (v := (2 : Int32)) hx hb dX5_isSort_2 (by decide) ?_
  obtain ⟨q3_1, hq1, hf⟩ := Option.bind_eq_some_iff.mp hf
  refine cSt (ws' := (W_0 cI cS)) (rest := []) (st1 := [.int q3_1]) Cc hK hA hP hD hS hl.1 (ctX5_within l D cI cS   p0 (0 : Int32) (2 : Int32) n q3_1 hq1) ⟨tw_588, tw_586, tw_587, tw_6⟩ mdX5_within ⟨rfl, rfl, Nat.le_of_ble_eq_true rfl, Nat.le_of_ble_eq_true rfl⟩ rfl dX5_isSort_3 rfl (Nat.le_of_ble_eq_true rfl) ⟨Nat.zero_le _, Nat.zero_le _⟩ rfl [] [] [] rfl rfl (by decide) rfl (fun H locs hP hD hS => ?_)
  obtain ⟨hz, hf⟩ := bz_some hf
  obtain rfl := Option.some.inj hf
  exact rt_z Cc hz hK hP hD hS dX5_isSort_6
-- X5_against
def fX5_against_23 (n : Nat) (m_sorts : Nat → Int32) (m_sheetLong : Nat → Int32) (x1 : Int32) (x3 : Int32) (x4 : Int32) : Option (Int32) := gd x1 4 (if (m_sorts x1.toNatClampNeg) = (-9 : Int32) then some ((1 : Int32)) else if 0 ≤ x4 then if x3 < 0 then some ((3 : Int32)) else gd x1 4 (if (m_sheetLong x1.toNatClampNeg) < x3 then some ((3 : Int32)) else gd x1 4 (if x4 ≤ ((m_sheetLong x1.toNatClampNeg) - x3) then some ((0 : Int32)) else some ((3 : Int32)))) else some ((4 : Int32)))
def fX5_against (n : Nat) (m_sorts : Nat → Int32) (m_sheetLong : Nat → Int32) (p1 : Int32) (p2 : Int32) (p3 : Int32) (p4 : Int32) : Option (Int32) := gd p1 4 (if (m_sorts p1.toNatClampNeg) = (-9 : Int32) then fX5_against_23 n m_sorts m_sheetLong p1 p3 p4 else gd p1 4 (if (m_sorts p1.toNatClampNeg) = p2 then fX5_against_23 n m_sorts m_sheetLong p1 p3 p4 else some ((2 : Int32))))
theorem mdX5_against : yX5_against.cls = RX5 ∧ yX5_against.cls ≠ "java/lang/invoke/MethodHandle" ∧ yX5_against.cls ≠ "java/lang/invoke/VarHandle" ∧ (parseMethodDescriptor yX5_against.desc).map (fun d => d.parameters.length) = some 4 := by decide +kernel
set_option maxHeartbeats 4000000 in
set_option maxRecDepth 100000 in
theorem bX5_against_23 {p : Program} {l : Launch} {e : Env} {s : State} {m : MethodId} {args : Array Value} {below : List Frame} {meth : Method} {c : Code} {A : Nat → Prop} {D : va_G} {cI cS : ClassId} (a_m a_m_sorts a_m_sheetLong a_m_cells a_m_kind a_m_wet a_m_readKind a_m_readWet a_m_keptWet a_m_readCells a_m_readHours a_m_readCracked : Nat) (m_fault : Int32) (m_trace : Int32) (m_cells : Nat → Int32) (m_sun : Int32) (m_wide : Int32) (m_deep : Int32) (m_hour : Int32) (m_kind : Nat → Int32) (m_wet : Nat → Int32) (m_at : Int32) (m_readSun : Int32) (m_readWide : Int32) (m_readDeep : Int32) (m_readKind : Nat → Int32) (m_readWet : Nat → Int32) (m_keptWet : Nat → Int32) (m_keptSun : Int32) (m_openFirst : Int32) (m_planHours : Int32) (m_readings : Int32) (m_readCells : Nat → Int32) (m_readHours : Nat → Int32) (m_readCracked : Nat → Int32) (Cc : Cx p s m args meth c RX5 cX5_against 5 (some .int)) (hK : va_K D classes (tysA cI cS) s) (hA : ∀ q, s.heap.size ≤ q → A q) (n : Nat) : ∀ (m_sorts : Nat → Int32) (m_sheetLong : Nat → Int32) (x1 : Int32) (x3 : Int32) (x4 : Int32) (r : Int32), fX5_against_23 n m_sorts m_sheetLong x1 x3 x4 = some (r) → ∀ (H : Heap) (locs : List Loc) (ls : Array Slot), va_P D classes (W_m cI cS a_m a_m_sorts a_m_sheetLong a_m_cells a_m_kind a_m_wet a_m_readKind a_m_readWet a_m_keptWet a_m_readCells a_m_readHours a_m_readCracked m_fault m_trace m_sorts m_sheetLong m_cells m_sun m_wide m_deep m_hour m_kind m_wet m_at m_readSun m_readWide m_readDeep m_readKind m_readWet m_keptWet m_keptSun m_openFirst m_planHours m_readings m_readCells m_readHours m_readCracked) H → va_D A (W_m cI cS a_m a_m_sorts a_m_sheetLong a_m_cells a_m_kind a_m_wet a_m_readKind a_m_readWet a_m_keptWet a_m_readCells a_m_readHours a_m_readCracked m_fault m_trace m_sorts m_sheetLong m_cells m_sun m_wide m_deep m_hour m_kind m_wet m_at m_readSun m_readWide m_readDeep m_readKind m_readWet m_keptWet m_keptSun m_openFirst m_planHours m_readings m_readCells m_readHours m_readCracked) → va_S A s.heap H locs → lv_has ls 5 [(0, .ref a_m), (1, .int x1), (3, .int x3), (4, .int x4)] → W p l e (Rm 0) s m args below meth c H locs 0 0 (MQ below (QW D (tysA cI cS) (some (.int r)) (W_m cI cS a_m a_m_sorts a_m_sheetLong a_m_cells a_m_kind a_m_wet a_m_readKind a_m_readWet a_m_keptWet a_m_readCells a_m_readHours a_m_readCracked m_fault m_trace m_sorts m_sheetLong m_cells m_sun m_wide m_deep m_hour m_kind m_wet m_at m_readSun m_readWide m_readDeep m_readKind m_readWet m_keptWet m_keptSun m_openFirst m_planHours m_readings m_readCells m_readHours m_readCracked) A) args s 0 0 A) (F0 m 23 ls []) := by
  obtain ⟨hx, hb, hr, hml, hown, hts, hlk, hnw⟩ := id Cc
  intro m_sorts m_sheetLong x1 x3 x4 r hf H locs ls hP hD hS hl
  unfold fX5_against_23 at hf
  refine lv_aload_n hx hb dX5_against_23 rfl (lv_at hl 0 rfl) ?_
  refine va_get (D := D) (ci := 5) (v := .ref a_m_sorts) (C := RX5) (T := TX5) (N := 25) hx hb hts inX5 hown hK hP 0 rfl rfl 2 (by decide) (hts _ tw_505) (fun _ h9 => h9) rfl dX5_against_24 ?_
  refine lv_iload_n hx hb dX5_against_27 rfl (lv_at hl 1 rfl) ?_
  obtain ⟨hin, hf⟩ := gd_some hf
  refine va_iald hx hb hK hP 1 0 rfl rfl hin dX5_against_28 ?_
  refine lv_bipush (v := (-9 : Int32)) hx hb dX5_against_29 (by decide) ?_
  refine lv_icmp_ne (tgt := 36) hx hb dX5_against_31 (by decide) (fun hc2 => ?_) (fun hc2 => ?_)
  · replace hf := (if_neg hc2).symm.trans hf
    refine lv_iload hx hb dX5_against_36 (lv_at hl 3 rfl) ?_
    refine lv_if_ge (tgt := 43) hx hb dX5_against_38 (by decide) (fun hc3 => ?_) (fun hc3 => ?_)
    · replace hf := (if_pos hc3).symm.trans hf
      refine lv_iload_n hx hb dX5_against_43 rfl (lv_at hl 2 rfl) ?_
      refine lv_if_lt (tgt := 70) hx hb dX5_against_44 (by decide) (fun hc4 => ?_) (fun hc4 => ?_)
      · replace hf := (if_pos hc4).symm.trans hf
        refine lv_iconst (v := (3 : Int32)) hx hb dX5_against_70 (by decide) ?_
        refine lv_goto (tgt := 75) hx hb dX5_against_71 (by decide) ?_
        obtain rfl := Option.some.inj hf
        exact rt_i Cc hK hP hD hS dX5_against_75
      · replace hf := (if_neg hc4).symm.trans hf
        refine lv_iload_n hx hb dX5_against_47 rfl (lv_at hl 2 rfl) ?_
        refine lv_aload_n hx hb dX5_against_48 rfl (lv_at hl 0 rfl) ?_
        refine va_get (D := D) (ci := 5) (v := .ref a_m_sheetLong) (C := RX5) (T := TX5) (N := 25) hx hb hts inX5 hown hK hP 0 rfl rfl 3 (by decide) (hts _ tw_506) (fun _ h9 => h9) rfl dX5_against_49 ?_
        refine lv_iload_n hx hb dX5_against_52 rfl (lv_at hl 1 rfl) ?_
        obtain ⟨hin, hf⟩ := gd_some hf
        refine va_iald hx hb hK hP 2 0 rfl rfl hin dX5_against_53 ?_
        refine lv_icmp_gt (tgt := 70) hx hb dX5_against_54 (by decide) (fun hc5 => ?_) (fun hc5 => ?_)
        · replace hf := (if_pos hc5).symm.trans hf
          refine lv_iconst (v := (3 : Int32)) hx hb dX5_against_70 (by decide) ?_
          refine lv_goto (tgt := 75) hx hb dX5_against_71 (by decide) ?_
          obtain rfl := Option.some.inj hf
          exact rt_i Cc hK hP hD hS dX5_against_75
        · replace hf := (if_neg hc5).symm.trans hf
          refine lv_iload hx hb dX5_against_57 (lv_at hl 3 rfl) ?_
          refine lv_aload_n hx hb dX5_against_59 rfl (lv_at hl 0 rfl) ?_
          refine va_get (D := D) (ci := 5) (v := .ref a_m_sheetLong) (C := RX5) (T := TX5) (N := 25) hx hb hts inX5 hown hK hP 0 rfl rfl 3 (by decide) (hts _ tw_506) (fun _ h9 => h9) rfl dX5_against_60 ?_
          refine lv_iload_n hx hb dX5_against_63 rfl (lv_at hl 1 rfl) ?_
          obtain ⟨hin, hf⟩ := gd_some hf
          refine va_iald hx hb hK hP 2 0 rfl rfl hin dX5_against_64 ?_
          refine lv_iload_n hx hb dX5_against_65 rfl (lv_at hl 2 rfl) ?_
          refine lv_isub hx hb dX5_against_66 ?_
          refine lv_icmp_le (tgt := 74) hx hb dX5_against_67 (by decide) (fun hc6 => ?_) (fun hc6 => ?_)
          · replace hf := (if_pos hc6).symm.trans hf
            refine lv_iconst (v := (0 : Int32)) hx hb dX5_against_74 (by decide) ?_
            obtain rfl := Option.some.inj hf
            exact rt_i Cc hK hP hD hS dX5_against_75
          · replace hf := (if_neg hc6).symm.trans hf
            refine lv_iconst (v := (3 : Int32)) hx hb dX5_against_70 (by decide) ?_
            refine lv_goto (tgt := 75) hx hb dX5_against_71 (by decide) ?_
            obtain rfl := Option.some.inj hf
            exact rt_i Cc hK hP hD hS dX5_against_75
    · replace hf := (if_neg hc3).symm.trans hf
      refine lv_iconst (v := (4 : Int32)) hx hb dX5_against_41 (by decide) ?_
      obtain rfl := Option.some.inj hf
      exact rt_i Cc hK hP hD hS dX5_against_42
  · replace hf := (if_pos hc2).symm.trans hf
    refine lv_iconst (v := (1 : Int32)) hx hb dX5_against_34 (by decide) ?_
    obtain rfl := Option.some.inj hf
    exact rt_i Cc hK hP hD hS dX5_against_35
set_option maxHeartbeats 4000000 in
set_option maxRecDepth 100000 in
theorem ctX5_against (l : Launch) (D : va_G) (cI cS : ClassId) (a_m a_m_sorts a_m_sheetLong a_m_cells a_m_kind a_m_wet a_m_readKind a_m_readWet a_m_keptWet a_m_readCells a_m_readHours a_m_readCracked : Nat) (m_fault : Int32) (m_trace : Int32) (m_sorts : Nat → Int32) (m_sheetLong : Nat → Int32) (m_cells : Nat → Int32) (m_sun : Int32) (m_wide : Int32) (m_deep : Int32) (m_hour : Int32) (m_kind : Nat → Int32) (m_wet : Nat → Int32) (m_at : Int32) (m_readSun : Int32) (m_readWide : Int32) (m_readDeep : Int32) (m_readKind : Nat → Int32) (m_readWet : Nat → Int32) (m_keptWet : Nat → Int32) (m_keptSun : Int32) (m_openFirst : Int32) (m_planHours : Int32) (m_readings : Int32) (m_readCells : Nat → Int32) (m_readHours : Nat → Int32) (m_readCracked : Nat → Int32) (p1 : Int32) (p2 : Int32) (p3 : Int32) (p4 : Int32) (n : Nat) (r : Int32) (hf : fX5_against n m_sorts m_sheetLong p1 p2 p3 p4 = some (r)) : Ct l D (tysA cI cS) yX5_against cX5_against 5 (some .int) (Rm 0) [.ref a_m, .int p1, .int p2, .int p3, .int p4] (W_m cI cS a_m a_m_sorts a_m_sheetLong a_m_cells a_m_kind a_m_wet a_m_readKind a_m_readWet a_m_keptWet a_m_readCells a_m_readHours a_m_readCracked m_fault m_trace m_sorts m_sheetLong m_cells m_sun m_wide m_deep m_hour m_kind m_wet m_at m_readSun m_readWide m_readDeep m_readKind m_readWet m_keptWet m_keptSun m_openFirst m_planHours m_readings m_readCells m_readHours m_readCracked) (some (.int r)) (W_m cI cS a_m a_m_sorts a_m_sheetLong a_m_cells a_m_kind a_m_wet a_m_readKind a_m_readWet a_m_keptWet a_m_readCells a_m_readHours a_m_readCracked m_fault m_trace m_sorts m_sheetLong m_cells m_sun m_wide m_deep m_hour m_kind m_wet m_at m_readSun m_readWide m_readDeep m_readKind m_readWet m_keptWet m_keptSun m_openFirst m_planHours m_readings m_readCells m_readHours m_readCracked) := by
  refine Ct_of (by decide) (Nat.le_of_ble_eq_true rfl) ?_
  intro p e s m args below meth c A ls Cc hK hA hP hD hS hl
  have hl : lv_has ls 5 [(0, .ref a_m), (1, .int p1), (2, .int p2), (3, .int p3), (4, .int p4)] := hl
  obtain ⟨hx, hb, hr, hml, hown, hts, hlk, hnw⟩ := id Cc
  unfold fX5_against at hf
  refine lv_aload_n hx hb dX5_against_0 rfl (lv_at hl 0 rfl) ?_
  refine va_get (D := D) (ci := 5) (v := .ref a_m_sorts) (C := RX5) (T := TX5) (N := 25) hx hb hts inX5 hown hK hP 0 rfl rfl 2 (by decide) (hts _ tw_505) (fun _ h9 => h9) rfl dX5_against_1 ?_
  refine lv_iload_n hx hb dX5_against_4 rfl (lv_at hl 1 rfl) ?_
  obtain ⟨hin, hf⟩ := gd_some hf
  refine va_iald hx hb hK hP 1 0 rfl rfl hin dX5_against_5 ?_
  refine lv_bipush (v := (-9 : Int32)) hx hb dX5_against_6 (by decide) ?_
  refine lv_icmp_eq (tgt := 23) hx hb dX5_against_8 (by decide) (fun hc1 => ?_) (fun hc1 => ?_)
  · replace hf := (if_pos hc1).symm.trans hf
    exact bX5_against_23 a_m a_m_sorts a_m_sheetLong a_m_cells a_m_kind a_m_wet a_m_readKind a_m_readWet a_m_keptWet a_m_readCells a_m_readHours a_m_readCracked m_fault m_trace m_cells m_sun m_wide m_deep m_hour m_kind m_wet m_at m_readSun m_readWide m_readDeep m_readKind m_readWet m_keptWet m_keptSun m_openFirst m_planHours m_readings m_readCells m_readHours m_readCracked Cc hK hA n _ _ _ _ _ _ hf _ _ _ hP hD hS (lv_sub hl [0, 1, 3, 4] rfl)
  · replace hf := (if_neg hc1).symm.trans hf
    refine lv_aload_n hx hb dX5_against_11 rfl (lv_at hl 0 rfl) ?_
    refine va_get (D := D) (ci := 5) (v := .ref a_m_sorts) (C := RX5) (T := TX5) (N := 25) hx hb hts inX5 hown hK hP 0 rfl rfl 2 (by decide) (hts _ tw_505) (fun _ h9 => h9) rfl dX5_against_12 ?_
    refine lv_iload_n hx hb dX5_against_15 rfl (lv_at hl 1 rfl) ?_
    obtain ⟨hin, hf⟩ := gd_some hf
    refine va_iald hx hb hK hP 1 0 rfl rfl hin dX5_against_16 ?_
    refine lv_iload_n hx hb dX5_against_17 rfl (lv_at hl 2 rfl) ?_
    refine lv_icmp_eq (tgt := 23) hx hb dX5_against_18 (by decide) (fun hc7 => ?_) (fun hc7 => ?_)
    · replace hf := (if_pos hc7).symm.trans hf
      exact bX5_against_23 a_m a_m_sorts a_m_sheetLong a_m_cells a_m_kind a_m_wet a_m_readKind a_m_readWet a_m_keptWet a_m_readCells a_m_readHours a_m_readCracked m_fault m_trace m_cells m_sun m_wide m_deep m_hour m_kind m_wet m_at m_readSun m_readWide m_readDeep m_readKind m_readWet m_keptWet m_keptSun m_openFirst m_planHours m_readings m_readCells m_readHours m_readCracked Cc hK hA n _ _ _ _ _ _ hf _ _ _ hP hD hS (lv_sub hl [0, 1, 3, 4] rfl)
    · replace hf := (if_neg hc7).symm.trans hf
      refine lv_iconst (v := (2 : Int32)) hx hb dX5_against_21 (by decide) ?_
      obtain rfl := Option.some.inj hf
      exact rt_i Cc hK hP hD hS dX5_against_22
-- X5_cellsOf
def fX5_cellsOf (n : Nat) (m_wide : Int32) (m_deep : Int32)  : Option (Int32) := some ((m_wide * m_deep))
theorem mdX5_cellsOf : yX5_cellsOf.cls = RX5 ∧ yX5_cellsOf.cls ≠ "java/lang/invoke/MethodHandle" ∧ yX5_cellsOf.cls ≠ "java/lang/invoke/VarHandle" ∧ (parseMethodDescriptor yX5_cellsOf.desc).map (fun d => d.parameters.length) = some 0 := by decide +kernel
set_option maxHeartbeats 4000000 in
set_option maxRecDepth 100000 in
theorem ctX5_cellsOf (l : Launch) (D : va_G) (cI cS : ClassId) (a_m a_m_sorts a_m_sheetLong a_m_cells a_m_kind a_m_wet a_m_readKind a_m_readWet a_m_keptWet a_m_readCells a_m_readHours a_m_readCracked : Nat) (m_fault : Int32) (m_trace : Int32) (m_sorts : Nat → Int32) (m_sheetLong : Nat → Int32) (m_cells : Nat → Int32) (m_sun : Int32) (m_wide : Int32) (m_deep : Int32) (m_hour : Int32) (m_kind : Nat → Int32) (m_wet : Nat → Int32) (m_at : Int32) (m_readSun : Int32) (m_readWide : Int32) (m_readDeep : Int32) (m_readKind : Nat → Int32) (m_readWet : Nat → Int32) (m_keptWet : Nat → Int32) (m_keptSun : Int32) (m_openFirst : Int32) (m_planHours : Int32) (m_readings : Int32) (m_readCells : Nat → Int32) (m_readHours : Nat → Int32) (m_readCracked : Nat → Int32)  (n : Nat) (r : Int32) (hf : fX5_cellsOf n m_wide m_deep  = some (r)) : Ct l D (tysA cI cS) yX5_cellsOf cX5_cellsOf 1 (some .int) (Rm 0) [.ref a_m] (W_m cI cS a_m a_m_sorts a_m_sheetLong a_m_cells a_m_kind a_m_wet a_m_readKind a_m_readWet a_m_keptWet a_m_readCells a_m_readHours a_m_readCracked m_fault m_trace m_sorts m_sheetLong m_cells m_sun m_wide m_deep m_hour m_kind m_wet m_at m_readSun m_readWide m_readDeep m_readKind m_readWet m_keptWet m_keptSun m_openFirst m_planHours m_readings m_readCells m_readHours m_readCracked) (some (.int r)) (W_m cI cS a_m a_m_sorts a_m_sheetLong a_m_cells a_m_kind a_m_wet a_m_readKind a_m_readWet a_m_keptWet a_m_readCells a_m_readHours a_m_readCracked m_fault m_trace m_sorts m_sheetLong m_cells m_sun m_wide m_deep m_hour m_kind m_wet m_at m_readSun m_readWide m_readDeep m_readKind m_readWet m_keptWet m_keptSun m_openFirst m_planHours m_readings m_readCells m_readHours m_readCracked) := by
  refine Ct_of (by decide) (Nat.le_of_ble_eq_true rfl) ?_
  intro p e s m args below meth c A ls Cc hK hA hP hD hS hl
  have hl : lv_has ls 1 [(0, .ref a_m)] := hl
  obtain ⟨hx, hb, hr, hml, hown, hts, hlk, hnw⟩ := id Cc
  unfold fX5_cellsOf at hf
  refine lv_aload_n hx hb dX5_cellsOf_0 rfl (lv_at hl 0 rfl) ?_
  refine va_get (D := D) (ci := 5) (v := .int m_wide) (C := RX5) (T := TX5) (N := 25) hx hb hts inX5 hown hK hP 0 rfl rfl 6 (by decide) (hts _ tw_509) (fun _ h9 => h9) rfl dX5_cellsOf_1 ?_
  refine lv_aload_n hx hb dX5_cellsOf_4 rfl (lv_at hl 0 rfl) ?_
  refine va_get (D := D) (ci := 5) (v := .int m_deep) (C := RX5) (T := TX5) (N := 25) hx hb hts inX5 hown hK hP 0 rfl rfl 7 (by decide) (hts _ tw_510) (fun _ h9 => h9) rfl dX5_cellsOf_5 ?_
  refine lv_imul hx hb dX5_cellsOf_8 ?_
  obtain rfl := Option.some.inj hf
  exact rt_i Cc hK hP hD hS dX5_cellsOf_9
-- X5_isCell
def fX5_isCell (n : Nat) (m_wide : Int32) (m_deep : Int32) (p1 : Int32) : Option (Int32) := if p1 < 0 then some ((0 : Int32)) else (fX5_cellsOf n m_wide m_deep).bind fun q6_1 => if q6_1 ≤ p1 then some ((0 : Int32)) else some ((1 : Int32))
theorem mdX5_isCell : yX5_isCell.cls = RX5 ∧ yX5_isCell.cls ≠ "java/lang/invoke/MethodHandle" ∧ yX5_isCell.cls ≠ "java/lang/invoke/VarHandle" ∧ (parseMethodDescriptor yX5_isCell.desc).map (fun d => d.parameters.length) = some 1 := by decide +kernel
set_option maxHeartbeats 4000000 in
set_option maxRecDepth 100000 in
theorem ctX5_isCell (l : Launch) (D : va_G) (cI cS : ClassId) (a_m a_m_sorts a_m_sheetLong a_m_cells a_m_kind a_m_wet a_m_readKind a_m_readWet a_m_keptWet a_m_readCells a_m_readHours a_m_readCracked : Nat) (m_fault : Int32) (m_trace : Int32) (m_sorts : Nat → Int32) (m_sheetLong : Nat → Int32) (m_cells : Nat → Int32) (m_sun : Int32) (m_wide : Int32) (m_deep : Int32) (m_hour : Int32) (m_kind : Nat → Int32) (m_wet : Nat → Int32) (m_at : Int32) (m_readSun : Int32) (m_readWide : Int32) (m_readDeep : Int32) (m_readKind : Nat → Int32) (m_readWet : Nat → Int32) (m_keptWet : Nat → Int32) (m_keptSun : Int32) (m_openFirst : Int32) (m_planHours : Int32) (m_readings : Int32) (m_readCells : Nat → Int32) (m_readHours : Nat → Int32) (m_readCracked : Nat → Int32) (p1 : Int32) (n : Nat) (r : Int32) (hf : fX5_isCell n m_wide m_deep p1 = some (r)) : Ct l D (tysA cI cS) yX5_isCell cX5_isCell 2 (some .boolean) (Rm 1) [.ref a_m, .int p1] (W_m cI cS a_m a_m_sorts a_m_sheetLong a_m_cells a_m_kind a_m_wet a_m_readKind a_m_readWet a_m_keptWet a_m_readCells a_m_readHours a_m_readCracked m_fault m_trace m_sorts m_sheetLong m_cells m_sun m_wide m_deep m_hour m_kind m_wet m_at m_readSun m_readWide m_readDeep m_readKind m_readWet m_keptWet m_keptSun m_openFirst m_planHours m_readings m_readCells m_readHours m_readCracked) (some (.int r)) (W_m cI cS a_m a_m_sorts a_m_sheetLong a_m_cells a_m_kind a_m_wet a_m_readKind a_m_readWet a_m_keptWet a_m_readCells a_m_readHours a_m_readCracked m_fault m_trace m_sorts m_sheetLong m_cells m_sun m_wide m_deep m_hour m_kind m_wet m_at m_readSun m_readWide m_readDeep m_readKind m_readWet m_keptWet m_keptSun m_openFirst m_planHours m_readings m_readCells m_readHours m_readCracked) := by
  refine Ct_of (by decide) (Nat.le_of_ble_eq_true rfl) ?_
  intro p e s m args below meth c A ls Cc hK hA hP hD hS hl
  have hl : lv_has ls 2 [(0, .ref a_m), (1, .int p1)] := hl
  obtain ⟨hx, hb, hr, hml, hown, hts, hlk, hnw⟩ := id Cc
  unfold fX5_isCell at hf
  refine lv_iload_n hx hb dX5_isCell_0 rfl (lv_at hl 1 rfl) ?_
  refine lv_if_lt (tgt := 16) hx hb dX5_isCell_1 (by decide) (fun hc1 => ?_) (fun hc1 => ?_)
  · replace hf := (if_pos hc1).symm.trans hf
    refine lv_iconst (v := (0 : Int32)) hx hb dX5_isCell_16 (by decide) ?_
    obtain rfl := Option.some.inj hf
    exact rt_z Cc (by decide) hK hP hD hS dX5_isCell_17
  · replace hf := (if_neg hc1).symm.trans hf
    refine lv_iload_n hx hb dX5_isCell_4 rfl (lv_at hl 1 rfl) ?_
    refine lv_aload_n hx hb dX5_isCell_5 rfl (lv_at hl 0 rfl) ?_
    obtain ⟨q6_1, hq2, hf⟩ := Option.bind_eq_some_iff.mp hf
    refine cV (ws' := (W_m cI cS a_m a_m_sorts a_m_sheetLong a_m_cells a_m_kind a_m_wet a_m_readKind a_m_readWet a_m_keptWet a_m_readCells a_m_readHours a_m_readCracked m_fault m_trace m_sorts m_sheetLong m_cells m_sun m_wide m_deep m_hour m_kind m_wet m_at m_readSun m_readWide m_readDeep m_readKind m_readWet m_keptWet m_keptSun m_openFirst m_planHours m_readings m_readCells m_readHours m_readCracked)) (rest := [.int p1]) (st1 := [.int q6_1, .int p1]) Cc hK hA hP hD hS hl.1 (ctX5_cellsOf l D cI cS a_m a_m_sorts a_m_sheetLong a_m_cells a_m_kind a_m_wet a_m_readKind a_m_readWet a_m_keptWet a_m_readCells a_m_readHours a_m_readCracked m_fault m_trace m_sorts m_sheetLong m_cells m_sun m_wide m_deep m_hour m_kind m_wet m_at m_readSun m_readWide m_readDeep m_readKind m_readWet m_keptWet m_keptSun m_openFirst m_planHours m_readings m_readCells m_readHours m_readCracked  n q6_1 hq2) ⟨tw_619, tw_616, tw_618, tp_17, tw_6⟩ mdX5_cellsOf ⟨rfl, rfl, Nat.le_of_ble_eq_true rfl, Nat.le_of_ble_eq_true rfl⟩ rfl dX5_isCell_6 rfl (Nat.le_of_ble_eq_true rfl) ⟨Nat.zero_le _, Nat.zero_le _⟩ rfl rfl rfl [0, 1, 2, 3, 4, 5, 6, 7, 8, 9, 10, 11] [] [0, 1, 2, 3, 4, 5, 6, 7, 8, 9, 10, 11] rfl rfl (by decide) rfl (fun H locs hP hD hS => ?_)
    refine lv_icmp_ge (tgt := 16) hx hb dX5_isCell_9 (by decide) (fun hc3 => ?_) (fun hc3 => ?_)
    · replace hf := (if_pos hc3).symm.trans hf
      refine lv_iconst (v := (0 : Int32)) hx hb dX5_isCell_16 (by decide) ?_
      obtain rfl := Option.some.inj hf
      exact rt_z Cc (by decide) hK hP hD hS dX5_isCell_17
    · replace hf := (if_neg hc3).symm.trans hf
      refine lv_iconst (v := (1 : Int32)) hx hb dX5_isCell_12 (by decide) ?_
      refine lv_goto (tgt := 17) hx hb dX5_isCell_13 (by decide) ?_
      obtain rfl := Option.some.inj hf
      exact rt_z Cc (by decide) hK hP hD hS dX5_isCell_17
-- X5_isDigit
def fX5_isDigit (n : Nat)  (p0 : Int32) : Option (Int32) := (fX5_within n p0 (0 : Int32) (9 : Int32)).bind fun q4_1 => bz q4_1 (some (q4_1))
theorem mdX5_isDigit : yX5_isDigit.cls ≠ "java/lang/invoke/MethodHandle" ∧ yX5_isDigit.cls ≠ "java/lang/invoke/VarHandle" ∧ (parseMethodDescriptor yX5_isDigit.desc).map (fun d => d.parameters.length) = some 1 := by decide +kernel
set_option maxHeartbeats 4000000 in
set_option maxRecDepth 100000 in
theorem ctX5_isDigit (l : Launch) (D : va_G) (cI cS : ClassId)  (p0 : Int32) (n : Nat) (r : Int32) (hf : fX5_isDigit n  p0 = some (r)) : Ct l D (tysA cI cS) yX5_isDigit cX5_isDigit 1 (some .boolean) (Rm 1) [.int p0] (W_0 cI cS) (some (.int r)) (W_0 cI cS) := by
  refine Ct_of (by decide) (Nat.le_of_ble_eq_true rfl) ?_
  intro p e s m args below meth c A ls Cc hK hA hP hD hS hl
  have hl : lv_has ls 1 [(0, .int p0)] := hl
  obtain ⟨hx, hb, hr, hml, hown, hts, hlk, hnw⟩ := id Cc
  unfold fX5_isDigit at hf
  refine lv_iload_n hx hb dX5_isDigit_0 rfl (lv_at hl 0 rfl) ?_
  refine lv_iconst (v := (0 : Int32)) hx hb dX5_isDigit_1 (by decide) ?_
  refine lv_bipush (v := (9 : Int32)) hx hb dX5_isDigit_2 (by decide) ?_
  obtain ⟨q4_1, hq1, hf⟩ := Option.bind_eq_some_iff.mp hf
  refine cSt (ws' := (W_0 cI cS)) (rest := []) (st1 := [.int q4_1]) Cc hK hA hP hD hS hl.1 (ctX5_within l D cI cS   p0 (0 : Int32) (9 : Int32) n q4_1 hq1) ⟨tw_588, tw_586, tw_587, tw_6⟩ mdX5_within ⟨rfl, rfl, Nat.le_of_ble_eq_true rfl, Nat.le_of_ble_eq_true rfl⟩ rfl dX5_isDigit_4 rfl (Nat.le_of_ble_eq_true rfl) ⟨Nat.zero_le _, Nat.zero_le _⟩ rfl [] [] [] rfl rfl (by decide) rfl (fun H locs hP hD hS => ?_)
  obtain ⟨hz, hf⟩ := bz_some hf
  obtain rfl := Option.some.inj hf
  exact rt_z Cc hz hK hP hD hS dX5_isDigit_7
-- X5_isOf
def fX5_isOf (n : Nat)  (p0 : Int32) (p1 : Int32) : Option (Int32) := if ((p0 >>> (p1 &&& 31)) &&& (1 : Int32)) = (1 : Int32) then some ((1 : Int32)) else some ((0 : Int32))
theorem mdX5_isOf : yX5_isOf.cls ≠ "java/lang/invoke/MethodHandle" ∧ yX5_isOf.cls ≠ "java/lang/invoke/VarHandle" ∧ (parseMethodDescriptor yX5_isOf.desc).map (fun d => d.parameters.length) = some 2 := by decide +kernel
set_option maxHeartbeats 4000000 in
set_option maxRecDepth 100000 in
theorem ctX5_isOf (l : Launch) (D : va_G) (cI cS : ClassId)  (p0 : Int32) (p1 : Int32) (n : Nat) (r : Int32) (hf : fX5_isOf n  p0 p1 = some (r)) : Ct l D (tysA cI cS) yX5_isOf cX5_isOf 2 (some .boolean) (Rm 0) [.int p0, .int p1] (W_0 cI cS) (some (.int r)) (W_0 cI cS) := by
  refine Ct_of (by decide) (Nat.le_of_ble_eq_true rfl) ?_
  intro p e s m args below meth c A ls Cc hK hA hP hD hS hl
  have hl : lv_has ls 2 [(0, .int p0), (1, .int p1)] := hl
  obtain ⟨hx, hb, hr, hml, hown, hts, hlk, hnw⟩ := id Cc
  unfold fX5_isOf at hf
  refine lv_iload_n hx hb dX5_isOf_0 rfl (lv_at hl 0 rfl) ?_
  refine lv_iload_n hx hb dX5_isOf_1 rfl (lv_at hl 1 rfl) ?_
  refine lv_ishr hx hb dX5_isOf_2 ?_
  refine lv_iconst (v := (1 : Int32)) hx hb dX5_isOf_3 (by decide) ?_
  refine lv_iand hx hb dX5_isOf_4 ?_
  refine lv_iconst (v := (1 : Int32)) hx hb dX5_isOf_5 (by decide) ?_
  refine lv_icmp_ne (tgt := 13) hx hb dX5_isOf_6 (by decide) (fun hc1 => ?_) (fun hc1 => ?_)
  · replace hf := (if_neg hc1).symm.trans hf
    refine lv_iconst (v := (0 : Int32)) hx hb dX5_isOf_13 (by decide) ?_
    obtain rfl := Option.some.inj hf
    exact rt_z Cc (by decide) hK hP hD hS dX5_isOf_14
  · replace hf := (if_pos hc1).symm.trans hf
    refine lv_iconst (v := (1 : Int32)) hx hb dX5_isOf_9 (by decide) ?_
    refine lv_goto (tgt := 14) hx hb dX5_isOf_10 (by decide) ?_
    obtain rfl := Option.some.inj hf
    exact rt_z Cc (by decide) hK hP hD hS dX5_isOf_14
-- X5_size
def fX5_size_4 (n : Nat) : Nat → Int32 → Int32 → Option (Int32)
  | 0, _, _ => none
  | k + 1, x1, x2 => if x2 ≤ 0 then some (x1) else fX5_size_4 n k (x1 + (x2 &&& (1 : Int32))) (x2 >>> ((1 : Int32) &&& 31))
def fX5_size (n : Nat)  (p0 : Int32) : Option (Int32) := fX5_size_4 n n (0 : Int32) p0
theorem mdX5_size : yX5_size.cls ≠ "java/lang/invoke/MethodHandle" ∧ yX5_size.cls ≠ "java/lang/invoke/VarHandle" ∧ (parseMethodDescriptor yX5_size.desc).map (fun d => d.parameters.length) = some 1 := by decide +kernel
set_option maxHeartbeats 4000000 in
set_option maxRecDepth 100000 in
theorem bX5_size_4 {p : Program} {l : Launch} {e : Env} {s : State} {m : MethodId} {args : Array Value} {below : List Frame} {meth : Method} {c : Code} {A : Nat → Prop} {D : va_G} {cI cS : ClassId} (Cc : Cx p s m args meth c RX5 cX5_size 3 (some .int)) (hK : va_K D classes (tysA cI cS) s) (hA : ∀ q, s.heap.size ≤ q → A q) (n : Nat) : ∀ (k : Nat) (x1 : Int32) (x2 : Int32) (r : Int32), fX5_size_4 n k x1 x2 = some (r) → ∀ (H : Heap) (locs : List Loc) (ls : Array Slot), va_P D classes (W_0 cI cS) H → va_D A (W_0 cI cS) → va_S A s.heap H locs → lv_has ls 3 [(1, .int x1), (2, .int x2)] → W p l e (Rm 0) s m args below meth c H locs 0 0 (MQ below (QW D (tysA cI cS) (some (.int r)) (W_0 cI cS) A) args s 0 0 A) (F0 m 4 ls []) := by
  obtain ⟨hx, hb, hr, hml, hown, hts, hlk, hnw⟩ := id Cc
  intro k
  induction k with
  | zero =>
    intro x1 x2 r hf
    rw [fX5_size_4] at hf
    cases hf
  | succ k ih =>
    intro x1 x2 r hf H locs ls hP hD hS hl
    rw [fX5_size_4] at hf
    refine lv_iload_n hx hb dX5_size_4 rfl (lv_at hl 1 rfl) ?_
    refine lv_if_le (tgt := 21) hx hb dX5_size_5 (by decide) (fun hc1 => ?_) (fun hc1 => ?_)
    · replace hf := (if_pos hc1).symm.trans hf
      refine lv_iload_n hx hb dX5_size_21 rfl (lv_at hl 0 rfl) ?_
      obtain rfl := Option.some.inj hf
      exact rt_i Cc hK hP hD hS dX5_size_22
    · replace hf := (if_neg hc1).symm.trans hf
      refine lv_iload_n hx hb dX5_size_8 rfl (lv_at hl 0 rfl) ?_
      refine lv_iload_n hx hb dX5_size_9 rfl (lv_at hl 1 rfl) ?_
      refine lv_iconst (v := (1 : Int32)) hx hb dX5_size_10 (by decide) ?_
      refine lv_iand hx hb dX5_size_11 ?_
      refine lv_iadd hx hb dX5_size_12 ?_
      refine lv_istore_n (lv' := [(1, .int (x1 + (x2 &&& (1 : Int32)))), (2, .int x2)]) hx hb dX5_size_13 rfl hl (by decide) rfl (fun ls hl => ?_)
      refine lv_iload_n hx hb dX5_size_14 rfl (lv_at hl 1 rfl) ?_
      refine lv_iconst (v := (1 : Int32)) hx hb dX5_size_15 (by decide) ?_
      refine lv_ishr hx hb dX5_size_16 ?_
      refine lv_istore_n (lv' := [(2, .int (x2 >>> ((1 : Int32) &&& 31))), (1, .int (x1 + (x2 &&& (1 : Int32))))]) hx hb dX5_size_17 rfl hl (by decide) rfl (fun ls hl => ?_)
      refine lv_goto (tgt := 4) hx hb dX5_size_18 (by decide) ?_
      exact ih _ _ _ hf _ _ _ hP hD hS (lv_sub hl [1, 0] rfl)
set_option maxHeartbeats 4000000 in
set_option maxRecDepth 100000 in
theorem ctX5_size (l : Launch) (D : va_G) (cI cS : ClassId)  (p0 : Int32) (n : Nat) (r : Int32) (hf : fX5_size n  p0 = some (r)) : Ct l D (tysA cI cS) yX5_size cX5_size 3 (some .int) (Rm 0) [.int p0] (W_0 cI cS) (some (.int r)) (W_0 cI cS) := by
  refine Ct_of (by decide) (Nat.le_of_ble_eq_true rfl) ?_
  intro p e s m args below meth c A ls Cc hK hA hP hD hS hl
  have hl : lv_has ls 3 [(0, .int p0)] := hl
  obtain ⟨hx, hb, hr, hml, hown, hts, hlk, hnw⟩ := id Cc
  unfold fX5_size at hf
  refine lv_iconst (v := (0 : Int32)) hx hb dX5_size_0 (by decide) ?_
  refine lv_istore_n (lv' := [(1, .int (0 : Int32)), (0, .int p0)]) hx hb dX5_size_1 rfl hl (by decide) rfl (fun ls hl => ?_)
  refine lv_iload_n hx hb dX5_size_2 rfl (lv_at hl 1 rfl) ?_
  refine lv_istore_n (lv' := [(2, .int p0), (1, .int (0 : Int32)), (0, .int p0)]) hx hb dX5_size_3 rfl hl (by decide) rfl (fun ls hl => ?_)
  exact bX5_size_4  Cc hK hA n n _ _ _ hf _ _ _ hP hD hS (lv_sub hl [1, 0] rfl)
-- X5_digit
def fX5_digit (n : Nat) (m_cells : Nat → Int32) (m_at : Int32) (p1 : Int32) (p2 : Int32) (p3 : Int32) : Option (Int32 × Int32) := if p1 ≤ m_at then some ((-9 : Int32), m_at) else gd m_at 240 ((fX5_within n (m_cells m_at.toNatClampNeg) ((48 : Int32) + p2) ((48 : Int32) + p3)).bind fun q25_1 => if q25_1 = 0 then some ((-9 : Int32), m_at) else gd ((m_at + (1 : Int32)) - (1 : Int32)) 240 (some (((m_cells ((m_at + (1 : Int32)) - (1 : Int32)).toNatClampNeg) - (48 : Int32)), (m_at + (1 : Int32)))))
theorem mdX5_digit : yX5_digit.cls = RX5 ∧ yX5_digit.cls ≠ "java/lang/invoke/MethodHandle" ∧ yX5_digit.cls ≠ "java/lang/invoke/VarHandle" ∧ (parseMethodDescriptor yX5_digit.desc).map (fun d => d.parameters.length) = some 3 := by decide +kernel
set_option maxHeartbeats 4000000 in
set_option maxRecDepth 100000 in
theorem ctX5_digit (l : Launch) (D : va_G) (cI cS : ClassId) (a_m a_m_sorts a_m_sheetLong a_m_cells a_m_kind a_m_wet a_m_readKind a_m_readWet a_m_keptWet a_m_readCells a_m_readHours a_m_readCracked : Nat) (m_fault : Int32) (m_trace : Int32) (m_sorts : Nat → Int32) (m_sheetLong : Nat → Int32) (m_cells : Nat → Int32) (m_sun : Int32) (m_wide : Int32) (m_deep : Int32) (m_hour : Int32) (m_kind : Nat → Int32) (m_wet : Nat → Int32) (m_at : Int32) (m_readSun : Int32) (m_readWide : Int32) (m_readDeep : Int32) (m_readKind : Nat → Int32) (m_readWet : Nat → Int32) (m_keptWet : Nat → Int32) (m_keptSun : Int32) (m_openFirst : Int32) (m_planHours : Int32) (m_readings : Int32) (m_readCells : Nat → Int32) (m_readHours : Nat → Int32) (m_readCracked : Nat → Int32) (p1 : Int32) (p2 : Int32) (p3 : Int32) (n : Nat) (r : Int32) (m_at' : Int32) (hf : fX5_digit n m_cells m_at p1 p2 p3 = some (r, m_at')) : Ct l D (tysA cI cS) yX5_digit cX5_digit 4 (some .int) (Rm 1) [.ref a_m, .int p1, .int p2, .int p3] (W_m cI cS a_m a_m_sorts a_m_sheetLong a_m_cells a_m_kind a_m_wet a_m_readKind a_m_readWet a_m_keptWet a_m_readCells a_m_readHours a_m_readCracked m_fault m_trace m_sorts m_sheetLong m_cells m_sun m_wide m_deep m_hour m_kind m_wet m_at m_readSun m_readWide m_readDeep m_readKind m_readWet m_keptWet m_keptSun m_openFirst m_planHours m_readings m_readCells m_readHours m_readCracked) (some (.int r)) (W_m cI cS a_m a_m_sorts a_m_sheetLong a_m_cells a_m_kind a_m_wet a_m_readKind a_m_readWet a_m_keptWet a_m_readCells a_m_readHours a_m_readCracked m_fault m_trace m_sorts m_sheetLong m_cells m_sun m_wide m_deep m_hour m_kind m_wet m_at' m_readSun m_readWide m_readDeep m_readKind m_readWet m_keptWet m_keptSun m_openFirst m_planHours m_readings m_readCells m_readHours m_readCracked) := by
  refine Ct_of (by decide) (Nat.le_of_ble_eq_true rfl) ?_
  intro p e s m args below meth c A ls Cc hK hA hP hD hS hl
  have hl : lv_has ls 4 [(0, .ref a_m), (1, .int p1), (2, .int p2), (3, .int p3)] := hl
  obtain ⟨hx, hb, hr, hml, hown, hts, hlk, hnw⟩ := id Cc
  unfold fX5_digit at hf
  refine lv_aload_n hx hb dX5_digit_0 rfl (lv_at hl 0 rfl) ?_
  refine va_get (D := D) (ci := 5) (v := .int m_at) (C := RX5) (T := TX5) (N := 25) hx hb hts inX5 hown hK hP 0 rfl rfl 11 (by decide) (hts _ tw_514) (fun _ h9 => h9) rfl dX5_digit_1 ?_
  refine lv_iload_n hx hb dX5_digit_4 rfl (lv_at hl 1 rfl) ?_
  refine lv_icmp_ge (tgt := 31) hx hb dX5_digit_5 (by decide) (fun hc1 => ?_) (fun hc1 => ?_)
  · replace hf := (if_pos hc1).symm.trans hf
    refine lv_bipush (v := (-9 : Int32)) hx hb dX5_digit_31 (by decide) ?_
    replace hf := Option.some.inj hf
    obtain ⟨er0, er1⟩ := Prod.mk.inj hf
    clear hf 
    subst er0
    subst er1
    exact rt_i Cc hK hP hD hS dX5_digit_33
  · replace hf := (if_neg hc1).symm.trans hf
    refine lv_aload_n hx hb dX5_digit_8 rfl (lv_at hl 0 rfl) ?_
    refine va_get (D := D) (ci := 5) (v := .ref a_m_cells) (C := RX5) (T := TX5) (N := 25) hx hb hts inX5 hown hK hP 0 rfl rfl 4 (by decide) (hts _ tw_507) (fun _ h9 => h9) rfl dX5_digit_9 ?_
    refine lv_aload_n hx hb dX5_digit_12 rfl (lv_at hl 0 rfl) ?_
    refine va_get (D := D) (ci := 5) (v := .int m_at) (C := RX5) (T := TX5) (N := 25) hx hb hts inX5 hown hK hP 0 rfl rfl 11 (by decide) (hts _ tw_514) (fun _ h9 => h9) rfl dX5_digit_13 ?_
    obtain ⟨hin, hf⟩ := gd_some hf
    refine va_iald hx hb hK hP 3 0 rfl rfl hin dX5_digit_16 ?_
    refine lv_bipush (v := (48 : Int32)) hx hb dX5_digit_17 (by decide) ?_
    refine lv_iload_n hx hb dX5_digit_19 rfl (lv_at hl 2 rfl) ?_
    refine lv_iadd hx hb dX5_digit_20 ?_
    refine lv_bipush (v := (48 : Int32)) hx hb dX5_digit_21 (by decide) ?_
    refine lv_iload_n hx hb dX5_digit_23 rfl (lv_at hl 3 rfl) ?_
    refine lv_iadd hx hb dX5_digit_24 ?_
    obtain ⟨q25_1, hq2, hf⟩ := Option.bind_eq_some_iff.mp hf
    refine cSt (ws' := (W_m cI cS a_m a_m_sorts a_m_sheetLong a_m_cells a_m_kind a_m_wet a_m_readKind a_m_readWet a_m_keptWet a_m_readCells a_m_readHours a_m_readCracked m_fault m_trace m_sorts m_sheetLong m_cells m_sun m_wide m_deep m_hour m_kind m_wet m_at m_readSun m_readWide m_readDeep m_readKind m_readWet m_keptWet m_keptSun m_openFirst m_planHours m_readings m_readCells m_readHours m_readCracked)) (rest := []) (st1 := [.int q25_1]) Cc hK hA hP hD hS hl.1 (ctX5_within l D cI cS   (m_cells m_at.toNatClampNeg) ((48 : Int32) + p2) ((48 : Int32) + p3) n q25_1 hq2) ⟨tw_588, tw_586, tw_587, tw_6⟩ mdX5_within ⟨rfl, rfl, Nat.le_of_ble_eq_true rfl, Nat.le_of_ble_eq_true rfl⟩ rfl dX5_digit_25 rfl (Nat.le_of_ble_eq_true rfl) ⟨Nat.zero_le _, Nat.zero_le _⟩ rfl [] [0, 1, 2, 3, 4, 5, 6, 7, 8, 9, 10, 11] [0, 1, 2, 3, 4, 5, 6, 7, 8, 9, 10, 11] rfl rfl (by decide) rfl (fun H locs hP hD hS => ?_)
    refine lv_if_ne (tgt := 34) hx hb dX5_digit_28 (by decide) (fun hc3 => ?_) (fun hc3 => ?_)
    · replace hf := (if_neg hc3).symm.trans hf
      refine lv_aload_n hx hb dX5_digit_34 rfl (lv_at hl 0 rfl) ?_
      refine lv_dup hx hb dX5_digit_35 rfl ?_
      refine va_get (D := D) (ci := 5) (v := .int m_at) (C := RX5) (T := TX5) (N := 25) hx hb hts inX5 hown hK hP 0 rfl rfl 11 (by decide) (hts _ tw_514) (fun _ h9 => h9) rfl dX5_digit_36 ?_
      refine lv_iconst (v := (1 : Int32)) hx hb dX5_digit_39 (by decide) ?_
      refine lv_iadd hx hb dX5_digit_40 ?_
      refine va_put (D := D) (ci := 5) (v := .int (m_at + (1 : Int32))) (ty := .int) (C := RX5) (T := TX5) (N := 25) hx hb hts inX5 tyX5 tyX5_ok nmX5 hown hK hP hD hS 0 rfl rfl 11 (by decide) (hts _ tw_514) (fun _ h9 => h9) rfl (tyX5_ok 11 (by decide)) rfl rfl (Nat.le_of_ble_eq_true rfl) dX5_digit_41 (fun H locs hP hD hS => ?_)
      have hP : va_P D classes (W_m cI cS a_m a_m_sorts a_m_sheetLong a_m_cells a_m_kind a_m_wet a_m_readKind a_m_readWet a_m_keptWet a_m_readCells a_m_readHours a_m_readCracked m_fault m_trace m_sorts m_sheetLong m_cells m_sun m_wide m_deep m_hour m_kind m_wet (m_at + (1 : Int32)) m_readSun m_readWide m_readDeep m_readKind m_readWet m_keptWet m_keptSun m_openFirst m_planHours m_readings m_readCells m_readHours m_readCracked) H := hP
      have hD : va_D A (W_m cI cS a_m a_m_sorts a_m_sheetLong a_m_cells a_m_kind a_m_wet a_m_readKind a_m_readWet a_m_keptWet a_m_readCells a_m_readHours a_m_readCracked m_fault m_trace m_sorts m_sheetLong m_cells m_sun m_wide m_deep m_hour m_kind m_wet (m_at + (1 : Int32)) m_readSun m_readWide m_readDeep m_readKind m_readWet m_keptWet m_keptSun m_openFirst m_planHours m_readings m_readCells m_readHours m_readCracked) := hD
      refine lv_aload_n hx hb dX5_digit_44 rfl (lv_at hl 0 rfl) ?_
      refine va_get (D := D) (ci := 5) (v := .ref a_m_cells) (C := RX5) (T := TX5) (N := 25) hx hb hts inX5 hown hK hP 0 rfl rfl 4 (by decide) (hts _ tw_507) (fun _ h9 => h9) rfl dX5_digit_45 ?_
      refine lv_aload_n hx hb dX5_digit_48 rfl (lv_at hl 0 rfl) ?_
      refine va_get (D := D) (ci := 5) (v := .int (m_at + (1 : Int32))) (C := RX5) (T := TX5) (N := 25) hx hb hts inX5 hown hK hP 0 rfl rfl 11 (by decide) (hts _ tw_514) (fun _ h9 => h9) rfl dX5_digit_49 ?_
      refine lv_iconst (v := (1 : Int32)) hx hb dX5_digit_52 (by decide) ?_
      refine lv_isub hx hb dX5_digit_53 ?_
      obtain ⟨hin, hf⟩ := gd_some hf
      refine va_iald hx hb hK hP 3 0 rfl rfl hin dX5_digit_54 ?_
      refine lv_bipush (v := (48 : Int32)) hx hb dX5_digit_55 (by decide) ?_
      refine lv_isub hx hb dX5_digit_57 ?_
      replace hf := Option.some.inj hf
      obtain ⟨er0, er1⟩ := Prod.mk.inj hf
      clear hf 
      subst er0
      subst er1
      exact rt_i Cc hK hP hD hS dX5_digit_58
    · replace hf := (if_pos hc3).symm.trans hf
      refine lv_bipush (v := (-9 : Int32)) hx hb dX5_digit_31 (by decide) ?_
      replace hf := Option.some.inj hf
      obtain ⟨er0, er1⟩ := Prod.mk.inj hf
      clear hf 
      subst er0
      subst er1
      exact rt_i Cc hK hP hD hS dX5_digit_33
-- X5_readCell
def fX5_readCell_59 (n : Nat) (m_cells : Nat → Int32) (m_at : Int32) (m_readKind : Nat → Int32) (m_readWet : Nat → Int32) (x1 : Int32) (x2 : Int32) (y0 : Int32) (y1 : Int32) : Option (Int32 × Int32 × (Nat → Int32) × (Nat → Int32)) := gd y1 12 (gd x2 12 (if ((upd m_readKind y1.toNatClampNeg y0) x2.toNatClampNeg) = (-9 : Int32) then some ((0 : Int32), m_at, (upd m_readKind y1.toNatClampNeg y0), m_readWet) else (fX5_digit n m_cells (m_at + (1 : Int32)) x1 (0 : Int32) (9 : Int32)).bind fun q93_1 => gd x2 12 (gd x2 12 (if ((upd m_readWet x2.toNatClampNeg q93_1.1) x2.toNatClampNeg) = (-9 : Int32) then some ((0 : Int32), q93_1.2, (upd m_readKind y1.toNatClampNeg y0), (upd m_readWet x2.toNatClampNeg q93_1.1)) else some ((1 : Int32), q93_1.2, (upd m_readKind y1.toNatClampNeg y0), (upd m_readWet x2.toNatClampNeg q93_1.1))))))
def fX5_readCell_21 (n : Nat) (m_cells : Nat → Int32) (m_at : Int32) (m_readKind : Nat → Int32) (m_readWet : Nat → Int32) (x1 : Int32) (x2 : Int32) (y0 : Int32) : Option (Int32 × Int32 × (Nat → Int32) × (Nat → Int32)) := if y0 = (109 : Int32) then fX5_readCell_59 n m_cells m_at m_readKind m_readWet x1 x2 (0 : Int32) x2 else if y0 = (115 : Int32) then fX5_readCell_59 n m_cells m_at m_readKind m_readWet x1 x2 (1 : Int32) x2 else if y0 = (99 : Int32) then fX5_readCell_59 n m_cells m_at m_readKind m_readWet x1 x2 (2 : Int32) x2 else fX5_readCell_59 n m_cells m_at m_readKind m_readWet x1 x2 (-9 : Int32) x2
def fX5_readCell (n : Nat) (m_cells : Nat → Int32) (m_at : Int32) (m_readKind : Nat → Int32) (m_readWet : Nat → Int32) (p1 : Int32) (p2 : Int32) : Option (Int32 × Int32 × (Nat → Int32) × (Nat → Int32)) := if p1 ≤ m_at then fX5_readCell_21 n m_cells m_at m_readKind m_readWet p1 p2 (0 : Int32) else gd m_at 240 (fX5_readCell_21 n m_cells m_at m_readKind m_readWet p1 p2 (m_cells m_at.toNatClampNeg))
theorem mdX5_readCell : yX5_readCell.cls = RX5 ∧ yX5_readCell.cls ≠ "java/lang/invoke/MethodHandle" ∧ yX5_readCell.cls ≠ "java/lang/invoke/VarHandle" ∧ (parseMethodDescriptor yX5_readCell.desc).map (fun d => d.parameters.length) = some 2 := by decide +kernel
set_option maxHeartbeats 4000000 in
set_option maxRecDepth 100000 in
theorem bX5_readCell_59 {p : Program} {l : Launch} {e : Env} {s : State} {m : MethodId} {args : Array Value} {below : List Frame} {meth : Method} {c : Code} {A : Nat → Prop} {D : va_G} {cI cS : ClassId} (a_m a_m_sorts a_m_sheetLong a_m_cells a_m_kind a_m_wet a_m_readKind a_m_readWet a_m_keptWet a_m_readCells a_m_readHours a_m_readCracked : Nat) (m_fault : Int32) (m_trace : Int32) (m_sorts : Nat → Int32) (m_sheetLong : Nat → Int32) (m_sun : Int32) (m_wide : Int32) (m_deep : Int32) (m_hour : Int32) (m_kind : Nat → Int32) (m_wet : Nat → Int32) (m_readSun : Int32) (m_readWide : Int32) (m_readDeep : Int32) (m_keptWet : Nat → Int32) (m_keptSun : Int32) (m_openFirst : Int32) (m_planHours : Int32) (m_readings : Int32) (m_readCells : Nat → Int32) (m_readHours : Nat → Int32) (m_readCracked : Nat → Int32) (Cc : Cx p s m args meth c RX5 cX5_readCell 4 (some .boolean)) (hK : va_K D classes (tysA cI cS) s) (hA : ∀ q, s.heap.size ≤ q → A q) (n : Nat) : ∀ (m_cells : Nat → Int32) (m_at : Int32) (m_readKind : Nat → Int32) (m_readWet : Nat → Int32) (x1 : Int32) (x2 : Int32) (y0 : Int32) (y1 : Int32) (r : Int32) (m_at' : Int32) (m_readKind' : Nat → Int32) (m_readWet' : Nat → Int32), fX5_readCell_59 n m_cells m_at m_readKind m_readWet x1 x2 y0 y1 = some (r, m_at', m_readKind', m_readWet') → ∀ (H : Heap) (locs : List Loc) (ls : Array Slot), va_P D classes (W_m cI cS a_m a_m_sorts a_m_sheetLong a_m_cells a_m_kind a_m_wet a_m_readKind a_m_readWet a_m_keptWet a_m_readCells a_m_readHours a_m_readCracked m_fault m_trace m_sorts m_sheetLong m_cells m_sun m_wide m_deep m_hour m_kind m_wet m_at m_readSun m_readWide m_readDeep m_readKind m_readWet m_keptWet m_keptSun m_openFirst m_planHours m_readings m_readCells m_readHours m_readCracked) H → va_D A (W_m cI cS a_m a_m_sorts a_m_sheetLong a_m_cells a_m_kind a_m_wet a_m_readKind a_m_readWet a_m_keptWet a_m_readCells a_m_readHours a_m_readCracked m_fault m_trace m_sorts m_sheetLong m_cells m_sun m_wide m_deep m_hour m_kind m_wet m_at m_readSun m_readWide m_readDeep m_readKind m_readWet m_keptWet m_keptSun m_openFirst m_planHours m_readings m_readCells m_readHours m_readCracked) → va_S A s.heap H locs → lv_has ls 4 [(0, .ref a_m), (1, .int x1), (2, .int x2)] → W p l e (Rm 2) s m args below meth c H locs 0 0 (MQ below (QW D (tysA cI cS) (some (.int r)) (W_m cI cS a_m a_m_sorts a_m_sheetLong a_m_cells a_m_kind a_m_wet a_m_readKind a_m_readWet a_m_keptWet a_m_readCells a_m_readHours a_m_readCracked m_fault m_trace m_sorts m_sheetLong m_cells m_sun m_wide m_deep m_hour m_kind m_wet m_at' m_readSun m_readWide m_readDeep m_readKind' m_readWet' m_keptWet m_keptSun m_openFirst m_planHours m_readings m_readCells m_readHours m_readCracked) A) args s 0 0 A) (F0 m 59 ls [.int y0, .int y1, .ref a_m_readKind]) := by
  obtain ⟨hx, hb, hr, hml, hown, hts, hlk, hnw⟩ := id Cc
  intro m_cells m_at m_readKind m_readWet x1 x2 y0 y1 r m_at' m_readKind' m_readWet' hf H locs ls hP hD hS hl
  unfold fX5_readCell_59 at hf
  obtain ⟨hin, hf⟩ := gd_some hf
  refine va_iast hx hb hK hP hD hS 6 0 rfl rfl hin dX5_readCell_59 (fun H locs hP hD hS => ?_)
  have hP : va_P D classes (W_m cI cS a_m a_m_sorts a_m_sheetLong a_m_cells a_m_kind a_m_wet a_m_readKind a_m_readWet a_m_keptWet a_m_readCells a_m_readHours a_m_readCracked m_fault m_trace m_sorts m_sheetLong m_cells m_sun m_wide m_deep m_hour m_kind m_wet m_at m_readSun m_readWide m_readDeep (upd m_readKind y1.toNatClampNeg y0) m_readWet m_keptWet m_keptSun m_openFirst m_planHours m_readings m_readCells m_readHours m_readCracked) H := hP
  have hD : va_D A (W_m cI cS a_m a_m_sorts a_m_sheetLong a_m_cells a_m_kind a_m_wet a_m_readKind a_m_readWet a_m_keptWet a_m_readCells a_m_readHours a_m_readCracked m_fault m_trace m_sorts m_sheetLong m_cells m_sun m_wide m_deep m_hour m_kind m_wet m_at m_readSun m_readWide m_readDeep (upd m_readKind y1.toNatClampNeg y0) m_readWet m_keptWet m_keptSun m_openFirst m_planHours m_readings m_readCells m_readHours m_readCracked) := hD
  refine lv_aload_n hx hb dX5_readCell_60 rfl (lv_at hl 0 rfl) ?_
  refine va_get (D := D) (ci := 5) (v := .ref a_m_readKind) (C := RX5) (T := TX5) (N := 25) hx hb hts inX5 hown hK hP 0 rfl rfl 15 (by decide) (hts _ tw_518) (fun _ h9 => h9) rfl dX5_readCell_61 ?_
  refine lv_iload_n hx hb dX5_readCell_64 rfl (lv_at hl 2 rfl) ?_
  obtain ⟨hin, hf⟩ := gd_some hf
  refine va_iald hx hb hK hP 6 0 rfl rfl hin dX5_readCell_65 ?_
  refine lv_bipush (v := (-9 : Int32)) hx hb dX5_readCell_66 (by decide) ?_
  refine lv_icmp_ne (tgt := 73) hx hb dX5_readCell_68 (by decide) (fun hc5 => ?_) (fun hc5 => ?_)
  · replace hf := (if_neg hc5).symm.trans hf
    refine lv_aload_n hx hb dX5_readCell_73 rfl (lv_at hl 0 rfl) ?_
    refine lv_dup hx hb dX5_readCell_74 rfl ?_
    refine va_get (D := D) (ci := 5) (v := .int m_at) (C := RX5) (T := TX5) (N := 25) hx hb hts inX5 hown hK hP 0 rfl rfl 11 (by decide) (hts _ tw_514) (fun _ h9 => h9) rfl dX5_readCell_75 ?_
    refine lv_iconst (v := (1 : Int32)) hx hb dX5_readCell_78 (by decide) ?_
    refine lv_iadd hx hb dX5_readCell_79 ?_
    refine va_put (D := D) (ci := 5) (v := .int (m_at + (1 : Int32))) (ty := .int) (C := RX5) (T := TX5) (N := 25) hx hb hts inX5 tyX5 tyX5_ok nmX5 hown hK hP hD hS 0 rfl rfl 11 (by decide) (hts _ tw_514) (fun _ h9 => h9) rfl (tyX5_ok 11 (by decide)) rfl rfl (Nat.le_of_ble_eq_true rfl) dX5_readCell_80 (fun H locs hP hD hS => ?_)
    have hP : va_P D classes (W_m cI cS a_m a_m_sorts a_m_sheetLong a_m_cells a_m_kind a_m_wet a_m_readKind a_m_readWet a_m_keptWet a_m_readCells a_m_readHours a_m_readCracked m_fault m_trace m_sorts m_sheetLong m_cells m_sun m_wide m_deep m_hour m_kind m_wet (m_at + (1 : Int32)) m_readSun m_readWide m_readDeep (upd m_readKind y1.toNatClampNeg y0) m_readWet m_keptWet m_keptSun m_openFirst m_planHours m_readings m_readCells m_readHours m_readCracked) H := hP
    have hD : va_D A (W_m cI cS a_m a_m_sorts a_m_sheetLong a_m_cells a_m_kind a_m_wet a_m_readKind a_m_readWet a_m_keptWet a_m_readCells a_m_readHours a_m_readCracked m_fault m_trace m_sorts m_sheetLong m_cells m_sun m_wide m_deep m_hour m_kind m_wet (m_at + (1 : Int32)) m_readSun m_readWide m_readDeep (upd m_readKind y1.toNatClampNeg y0) m_readWet m_keptWet m_keptSun m_openFirst m_planHours m_readings m_readCells m_readHours m_readCracked) := hD
    refine lv_aload_n hx hb dX5_readCell_83 rfl (lv_at hl 0 rfl) ?_
    refine va_get (D := D) (ci := 5) (v := .ref a_m_readWet) (C := RX5) (T := TX5) (N := 25) hx hb hts inX5 hown hK hP 0 rfl rfl 16 (by decide) (hts _ tw_519) (fun _ h9 => h9) rfl dX5_readCell_84 ?_
    refine lv_iload_n hx hb dX5_readCell_87 rfl (lv_at hl 2 rfl) ?_
    refine lv_aload_n hx hb dX5_readCell_88 rfl (lv_at hl 0 rfl) ?_
    refine lv_iload_n hx hb dX5_readCell_89 rfl (lv_at hl 1 rfl) ?_
    refine lv_iconst (v := (0 : Int32)) hx hb dX5_readCell_90 (by decide) ?_
    refine lv_bipush (v := (9 : Int32)) hx hb dX5_readCell_91 (by decide) ?_
    obtain ⟨q93_1, hq6, hf⟩ := Option.bind_eq_some_iff.mp hf
    refine cV (ws' := (W_m cI cS a_m a_m_sorts a_m_sheetLong a_m_cells a_m_kind a_m_wet a_m_readKind a_m_readWet a_m_keptWet a_m_readCells a_m_readHours a_m_readCracked m_fault m_trace m_sorts m_sheetLong m_cells m_sun m_wide m_deep m_hour m_kind m_wet q93_1.2 m_readSun m_readWide m_readDeep (upd m_readKind y1.toNatClampNeg y0) m_readWet m_keptWet m_keptSun m_openFirst m_planHours m_readings m_readCells m_readHours m_readCracked)) (rest := [.int x2, .ref a_m_readWet]) (st1 := [.int q93_1.1, .int x2, .ref a_m_readWet]) Cc hK hA hP hD hS hl.1 (ctX5_digit l D cI cS a_m a_m_sorts a_m_sheetLong a_m_cells a_m_kind a_m_wet a_m_readKind a_m_readWet a_m_keptWet a_m_readCells a_m_readHours a_m_readCracked m_fault m_trace m_sorts m_sheetLong m_cells m_sun m_wide m_deep m_hour m_kind m_wet (m_at + (1 : Int32)) m_readSun m_readWide m_readDeep (upd m_readKind y1.toNatClampNeg y0) m_readWet m_keptWet m_keptSun m_openFirst m_planHours m_readings m_readCells m_readHours m_readCracked x1 (0 : Int32) (9 : Int32) n q93_1.1 q93_1.2 hq6) ⟨tw_607, tw_604, tw_606, tp_14, tw_6⟩ mdX5_digit ⟨rfl, rfl, Nat.le_of_ble_eq_true rfl, Nat.le_of_ble_eq_true rfl⟩ rfl dX5_readCell_93 rfl (Nat.le_of_ble_eq_true rfl) ⟨Nat.zero_le _, Nat.zero_le _⟩ rfl rfl rfl [0, 1, 2, 3, 4, 5, 6, 7, 8, 9, 10, 11] [] [0, 1, 2, 3, 4, 5, 6, 7, 8, 9, 10, 11] rfl rfl (by decide) rfl (fun H locs hP hD hS => ?_)
    obtain ⟨hin, hf⟩ := gd_some hf
    refine va_iast hx hb hK hP hD hS 7 0 rfl rfl hin dX5_readCell_96 (fun H locs hP hD hS => ?_)
    have hP : va_P D classes (W_m cI cS a_m a_m_sorts a_m_sheetLong a_m_cells a_m_kind a_m_wet a_m_readKind a_m_readWet a_m_keptWet a_m_readCells a_m_readHours a_m_readCracked m_fault m_trace m_sorts m_sheetLong m_cells m_sun m_wide m_deep m_hour m_kind m_wet q93_1.2 m_readSun m_readWide m_readDeep (upd m_readKind y1.toNatClampNeg y0) (upd m_readWet x2.toNatClampNeg q93_1.1) m_keptWet m_keptSun m_openFirst m_planHours m_readings m_readCells m_readHours m_readCracked) H := hP
    have hD : va_D A (W_m cI cS a_m a_m_sorts a_m_sheetLong a_m_cells a_m_kind a_m_wet a_m_readKind a_m_readWet a_m_keptWet a_m_readCells a_m_readHours a_m_readCracked m_fault m_trace m_sorts m_sheetLong m_cells m_sun m_wide m_deep m_hour m_kind m_wet q93_1.2 m_readSun m_readWide m_readDeep (upd m_readKind y1.toNatClampNeg y0) (upd m_readWet x2.toNatClampNeg q93_1.1) m_keptWet m_keptSun m_openFirst m_planHours m_readings m_readCells m_readHours m_readCracked) := hD
    refine lv_aload_n hx hb dX5_readCell_97 rfl (lv_at hl 0 rfl) ?_
    refine va_get (D := D) (ci := 5) (v := .ref a_m_readWet) (C := RX5) (T := TX5) (N := 25) hx hb hts inX5 hown hK hP 0 rfl rfl 16 (by decide) (hts _ tw_519) (fun _ h9 => h9) rfl dX5_readCell_98 ?_
    refine lv_iload_n hx hb dX5_readCell_101 rfl (lv_at hl 2 rfl) ?_
    obtain ⟨hin, hf⟩ := gd_some hf
    refine va_iald hx hb hK hP 7 0 rfl rfl hin dX5_readCell_102 ?_
    refine lv_bipush (v := (-9 : Int32)) hx hb dX5_readCell_103 (by decide) ?_
    refine lv_icmp_eq (tgt := 112) hx hb dX5_readCell_105 (by decide) (fun hc7 => ?_) (fun hc7 => ?_)
    · replace hf := (if_pos hc7).symm.trans hf
      refine lv_iconst (v := (0 : Int32)) hx hb dX5_readCell_112 (by decide) ?_
      replace hf := Option.some.inj hf
      obtain ⟨er0, er1⟩ := Prod.mk.inj hf
      obtain ⟨er2, er3⟩ := Prod.mk.inj er1
      obtain ⟨er4, er5⟩ := Prod.mk.inj er3
      clear hf er1 er3
      subst er0
      subst er2
      subst er4
      subst er5
      exact rt_z Cc (by decide) hK hP hD hS dX5_readCell_113
    · replace hf := (if_neg hc7).symm.trans hf
      refine lv_iconst (v := (1 : Int32)) hx hb dX5_readCell_108 (by decide) ?_
      refine lv_goto (tgt := 113) hx hb dX5_readCell_109 (by decide) ?_
      replace hf := Option.some.inj hf
      obtain ⟨er0, er1⟩ := Prod.mk.inj hf
      obtain ⟨er2, er3⟩ := Prod.mk.inj er1
      obtain ⟨er4, er5⟩ := Prod.mk.inj er3
      clear hf er1 er3
      subst er0
      subst er2
      subst er4
      subst er5
      exact rt_z Cc (by decide) hK hP hD hS dX5_readCell_113
  · replace hf := (if_pos hc5).symm.trans hf
    refine lv_iconst (v := (0 : Int32)) hx hb dX5_readCell_71 (by decide) ?_
    replace hf := Option.some.inj hf
    obtain ⟨er0, er1⟩ := Prod.mk.inj hf
    obtain ⟨er2, er3⟩ := Prod.mk.inj er1
    obtain ⟨er4, er5⟩ := Prod.mk.inj er3
    clear hf er1 er3
    subst er0
    subst er2
    subst er4
    subst er5
    exact rt_z Cc (by decide) hK hP hD hS dX5_readCell_72
set_option maxHeartbeats 4000000 in
set_option maxRecDepth 100000 in
theorem bX5_readCell_21 {p : Program} {l : Launch} {e : Env} {s : State} {m : MethodId} {args : Array Value} {below : List Frame} {meth : Method} {c : Code} {A : Nat → Prop} {D : va_G} {cI cS : ClassId} (a_m a_m_sorts a_m_sheetLong a_m_cells a_m_kind a_m_wet a_m_readKind a_m_readWet a_m_keptWet a_m_readCells a_m_readHours a_m_readCracked : Nat) (m_fault : Int32) (m_trace : Int32) (m_sorts : Nat → Int32) (m_sheetLong : Nat → Int32) (m_sun : Int32) (m_wide : Int32) (m_deep : Int32) (m_hour : Int32) (m_kind : Nat → Int32) (m_wet : Nat → Int32) (m_readSun : Int32) (m_readWide : Int32) (m_readDeep : Int32) (m_keptWet : Nat → Int32) (m_keptSun : Int32) (m_openFirst : Int32) (m_planHours : Int32) (m_readings : Int32) (m_readCells : Nat → Int32) (m_readHours : Nat → Int32) (m_readCracked : Nat → Int32) (Cc : Cx p s m args meth c RX5 cX5_readCell 4 (some .boolean)) (hK : va_K D classes (tysA cI cS) s) (hA : ∀ q, s.heap.size ≤ q → A q) (n : Nat) : ∀ (m_cells : Nat → Int32) (m_at : Int32) (m_readKind : Nat → Int32) (m_readWet : Nat → Int32) (x1 : Int32) (x2 : Int32) (y0 : Int32) (r : Int32) (m_at' : Int32) (m_readKind' : Nat → Int32) (m_readWet' : Nat → Int32), fX5_readCell_21 n m_cells m_at m_readKind m_readWet x1 x2 y0 = some (r, m_at', m_readKind', m_readWet') → ∀ (H : Heap) (locs : List Loc) (ls : Array Slot), va_P D classes (W_m cI cS a_m a_m_sorts a_m_sheetLong a_m_cells a_m_kind a_m_wet a_m_readKind a_m_readWet a_m_keptWet a_m_readCells a_m_readHours a_m_readCracked m_fault m_trace m_sorts m_sheetLong m_cells m_sun m_wide m_deep m_hour m_kind m_wet m_at m_readSun m_readWide m_readDeep m_readKind m_readWet m_keptWet m_keptSun m_openFirst m_planHours m_readings m_readCells m_readHours m_readCracked) H → va_D A (W_m cI cS a_m a_m_sorts a_m_sheetLong a_m_cells a_m_kind a_m_wet a_m_readKind a_m_readWet a_m_keptWet a_m_readCells a_m_readHours a_m_readCracked m_fault m_trace m_sorts m_sheetLong m_cells m_sun m_wide m_deep m_hour m_kind m_wet m_at m_readSun m_readWide m_readDeep m_readKind m_readWet m_keptWet m_keptSun m_openFirst m_planHours m_readings m_readCells m_readHours m_readCracked) → va_S A s.heap H locs → lv_has ls 4 [(0, .ref a_m), (1, .int x1), (2, .int x2)] → W p l e (Rm 2) s m args below meth c H locs 0 0 (MQ below (QW D (tysA cI cS) (some (.int r)) (W_m cI cS a_m a_m_sorts a_m_sheetLong a_m_cells a_m_kind a_m_wet a_m_readKind a_m_readWet a_m_keptWet a_m_readCells a_m_readHours a_m_readCracked m_fault m_trace m_sorts m_sheetLong m_cells m_sun m_wide m_deep m_hour m_kind m_wet m_at' m_readSun m_readWide m_readDeep m_readKind' m_readWet' m_keptWet m_keptSun m_openFirst m_planHours m_readings m_readCells m_readHours m_readCracked) A) args s 0 0 A) (F0 m 21 ls [.int y0]) := by
  obtain ⟨hx, hb, hr, hml, hown, hts, hlk, hnw⟩ := id Cc
  intro m_cells m_at m_readKind m_readWet x1 x2 y0 r m_at' m_readKind' m_readWet' hf H locs ls hP hD hS hl
  unfold fX5_readCell_21 at hf
  refine lv_istore_n (lv' := [(3, .int y0), (0, .ref a_m), (1, .int x1), (2, .int x2)]) hx hb dX5_readCell_21 rfl hl (by decide) rfl (fun ls hl => ?_)
  refine lv_aload_n hx hb dX5_readCell_22 rfl (lv_at hl 1 rfl) ?_
  refine va_get (D := D) (ci := 5) (v := .ref a_m_readKind) (C := RX5) (T := TX5) (N := 25) hx hb hts inX5 hown hK hP 0 rfl rfl 15 (by decide) (hts _ tw_518) (fun _ h9 => h9) rfl dX5_readCell_23 ?_
  refine lv_iload_n hx hb dX5_readCell_26 rfl (lv_at hl 3 rfl) ?_
  refine lv_iload_n hx hb dX5_readCell_27 rfl (lv_at hl 0 rfl) ?_
  refine lv_bipush (v := (109 : Int32)) hx hb dX5_readCell_28 (by decide) ?_
  refine lv_icmp_ne (tgt := 37) hx hb dX5_readCell_30 (by decide) (fun hc2 => ?_) (fun hc2 => ?_)
  · replace hf := (if_neg hc2).symm.trans hf
    refine lv_iload_n hx hb dX5_readCell_37 rfl (lv_at hl 0 rfl) ?_
    refine lv_bipush (v := (115 : Int32)) hx hb dX5_readCell_38 (by decide) ?_
    refine lv_icmp_ne (tgt := 47) hx hb dX5_readCell_40 (by decide) (fun hc3 => ?_) (fun hc3 => ?_)
    · replace hf := (if_neg hc3).symm.trans hf
      refine lv_iload_n hx hb dX5_readCell_47 rfl (lv_at hl 0 rfl) ?_
      refine lv_bipush (v := (99 : Int32)) hx hb dX5_readCell_48 (by decide) ?_
      refine lv_icmp_ne (tgt := 57) hx hb dX5_readCell_50 (by decide) (fun hc4 => ?_) (fun hc4 => ?_)
      · replace hf := (if_neg hc4).symm.trans hf
        refine lv_bipush (v := (-9 : Int32)) hx hb dX5_readCell_57 (by decide) ?_
        exact bX5_readCell_59 a_m a_m_sorts a_m_sheetLong a_m_cells a_m_kind a_m_wet a_m_readKind a_m_readWet a_m_keptWet a_m_readCells a_m_readHours a_m_readCracked m_fault m_trace m_sorts m_sheetLong m_sun m_wide m_deep m_hour m_kind m_wet m_readSun m_readWide m_readDeep m_keptWet m_keptSun m_openFirst m_planHours m_readings m_readCells m_readHours m_readCracked Cc hK hA n _ _ _ _ _ _ _ _ _ _ _ _ hf _ _ _ hP hD hS (lv_sub hl [1, 2, 3] rfl)
      · replace hf := (if_pos hc4).symm.trans hf
        refine lv_iconst (v := (2 : Int32)) hx hb dX5_readCell_53 (by decide) ?_
        refine lv_goto (tgt := 59) hx hb dX5_readCell_54 (by decide) ?_
        exact bX5_readCell_59 a_m a_m_sorts a_m_sheetLong a_m_cells a_m_kind a_m_wet a_m_readKind a_m_readWet a_m_keptWet a_m_readCells a_m_readHours a_m_readCracked m_fault m_trace m_sorts m_sheetLong m_sun m_wide m_deep m_hour m_kind m_wet m_readSun m_readWide m_readDeep m_keptWet m_keptSun m_openFirst m_planHours m_readings m_readCells m_readHours m_readCracked Cc hK hA n _ _ _ _ _ _ _ _ _ _ _ _ hf _ _ _ hP hD hS (lv_sub hl [1, 2, 3] rfl)
    · replace hf := (if_pos hc3).symm.trans hf
      refine lv_iconst (v := (1 : Int32)) hx hb dX5_readCell_43 (by decide) ?_
      refine lv_goto (tgt := 59) hx hb dX5_readCell_44 (by decide) ?_
      exact bX5_readCell_59 a_m a_m_sorts a_m_sheetLong a_m_cells a_m_kind a_m_wet a_m_readKind a_m_readWet a_m_keptWet a_m_readCells a_m_readHours a_m_readCracked m_fault m_trace m_sorts m_sheetLong m_sun m_wide m_deep m_hour m_kind m_wet m_readSun m_readWide m_readDeep m_keptWet m_keptSun m_openFirst m_planHours m_readings m_readCells m_readHours m_readCracked Cc hK hA n _ _ _ _ _ _ _ _ _ _ _ _ hf _ _ _ hP hD hS (lv_sub hl [1, 2, 3] rfl)
  · replace hf := (if_pos hc2).symm.trans hf
    refine lv_iconst (v := (0 : Int32)) hx hb dX5_readCell_33 (by decide) ?_
    refine lv_goto (tgt := 59) hx hb dX5_readCell_34 (by decide) ?_
    exact bX5_readCell_59 a_m a_m_sorts a_m_sheetLong a_m_cells a_m_kind a_m_wet a_m_readKind a_m_readWet a_m_keptWet a_m_readCells a_m_readHours a_m_readCracked m_fault m_trace m_sorts m_sheetLong m_sun m_wide m_deep m_hour m_kind m_wet m_readSun m_readWide m_readDeep m_keptWet m_keptSun m_openFirst m_planHours m_readings m_readCells m_readHours m_readCracked Cc hK hA n _ _ _ _ _ _ _ _ _ _ _ _ hf _ _ _ hP hD hS (lv_sub hl [1, 2, 3] rfl)
set_option maxHeartbeats 4000000 in
set_option maxRecDepth 100000 in
theorem ctX5_readCell (l : Launch) (D : va_G) (cI cS : ClassId) (a_m a_m_sorts a_m_sheetLong a_m_cells a_m_kind a_m_wet a_m_readKind a_m_readWet a_m_keptWet a_m_readCells a_m_readHours a_m_readCracked : Nat) (m_fault : Int32) (m_trace : Int32) (m_sorts : Nat → Int32) (m_sheetLong : Nat → Int32) (m_cells : Nat → Int32) (m_sun : Int32) (m_wide : Int32) (m_deep : Int32) (m_hour : Int32) (m_kind : Nat → Int32) (m_wet : Nat → Int32) (m_at : Int32) (m_readSun : Int32) (m_readWide : Int32) (m_readDeep : Int32) (m_readKind : Nat → Int32) (m_readWet : Nat → Int32) (m_keptWet : Nat → Int32) (m_keptSun : Int32) (m_openFirst : Int32) (m_planHours : Int32) (m_readings : Int32) (m_readCells : Nat → Int32) (m_readHours : Nat → Int32) (m_readCracked : Nat → Int32) (p1 : Int32) (p2 : Int32) (n : Nat) (r : Int32) (m_at' : Int32) (m_readKind' : Nat → Int32) (m_readWet' : Nat → Int32) (hf : fX5_readCell n m_cells m_at m_readKind m_readWet p1 p2 = some (r, m_at', m_readKind', m_readWet')) : Ct l D (tysA cI cS) yX5_readCell cX5_readCell 4 (some .boolean) (Rm 2) [.ref a_m, .int p1, .int p2] (W_m cI cS a_m a_m_sorts a_m_sheetLong a_m_cells a_m_kind a_m_wet a_m_readKind a_m_readWet a_m_keptWet a_m_readCells a_m_readHours a_m_readCracked m_fault m_trace m_sorts m_sheetLong m_cells m_sun m_wide m_deep m_hour m_kind m_wet m_at m_readSun m_readWide m_readDeep m_readKind m_readWet m_keptWet m_keptSun m_openFirst m_planHours m_readings m_readCells m_readHours m_readCracked) (some (.int r)) (W_m cI cS a_m a_m_sorts a_m_sheetLong a_m_cells a_m_kind a_m_wet a_m_readKind a_m_readWet a_m_keptWet a_m_readCells a_m_readHours a_m_readCracked m_fault m_trace m_sorts m_sheetLong m_cells m_sun m_wide m_deep m_hour m_kind m_wet m_at' m_readSun m_readWide m_readDeep m_readKind' m_readWet' m_keptWet m_keptSun m_openFirst m_planHours m_readings m_readCells m_readHours m_readCracked) := by
  refine Ct_of (by decide) (Nat.le_of_ble_eq_true rfl) ?_
  intro p e s m args below meth c A ls Cc hK hA hP hD hS hl
  have hl : lv_has ls 4 [(0, .ref a_m), (1, .int p1), (2, .int p2)] := hl
  obtain ⟨hx, hb, hr, hml, hown, hts, hlk, hnw⟩ := id Cc
  unfold fX5_readCell at hf
  refine lv_aload_n hx hb dX5_readCell_0 rfl (lv_at hl 0 rfl) ?_
  refine va_get (D := D) (ci := 5) (v := .int m_at) (C := RX5) (T := TX5) (N := 25) hx hb hts inX5 hown hK hP 0 rfl rfl 11 (by decide) (hts _ tw_514) (fun _ h9 => h9) rfl dX5_readCell_1 ?_
  refine lv_iload_n hx hb dX5_readCell_4 rfl (lv_at hl 1 rfl) ?_
  refine lv_icmp_ge (tgt := 20) hx hb dX5_readCell_5 (by decide) (fun hc1 => ?_) (fun hc1 => ?_)
  · replace hf := (if_pos hc1).symm.trans hf
    refine lv_iconst (v := (0 : Int32)) hx hb dX5_readCell_20 (by decide) ?_
    exact bX5_readCell_21 a_m a_m_sorts a_m_sheetLong a_m_cells a_m_kind a_m_wet a_m_readKind a_m_readWet a_m_keptWet a_m_readCells a_m_readHours a_m_readCracked m_fault m_trace m_sorts m_sheetLong m_sun m_wide m_deep m_hour m_kind m_wet m_readSun m_readWide m_readDeep m_keptWet m_keptSun m_openFirst m_planHours m_readings m_readCells m_readHours m_readCracked Cc hK hA n _ _ _ _ _ _ _ _ _ _ _ hf _ _ _ hP hD hS (lv_sub hl [0, 1, 2] rfl)
  · replace hf := (if_neg hc1).symm.trans hf
    refine lv_aload_n hx hb dX5_readCell_8 rfl (lv_at hl 0 rfl) ?_
    refine va_get (D := D) (ci := 5) (v := .ref a_m_cells) (C := RX5) (T := TX5) (N := 25) hx hb hts inX5 hown hK hP 0 rfl rfl 4 (by decide) (hts _ tw_507) (fun _ h9 => h9) rfl dX5_readCell_9 ?_
    refine lv_aload_n hx hb dX5_readCell_12 rfl (lv_at hl 0 rfl) ?_
    refine va_get (D := D) (ci := 5) (v := .int m_at) (C := RX5) (T := TX5) (N := 25) hx hb hts inX5 hown hK hP 0 rfl rfl 11 (by decide) (hts _ tw_514) (fun _ h9 => h9) rfl dX5_readCell_13 ?_
    obtain ⟨hin, hf⟩ := gd_some hf
    refine va_iald hx hb hK hP 3 0 rfl rfl hin dX5_readCell_16 ?_
    refine lv_goto (tgt := 21) hx hb dX5_readCell_17 (by decide) ?_
    exact bX5_readCell_21 a_m a_m_sorts a_m_sheetLong a_m_cells a_m_kind a_m_wet a_m_readKind a_m_readWet a_m_keptWet a_m_readCells a_m_readHours a_m_readCracked m_fault m_trace m_sorts m_sheetLong m_sun m_wide m_deep m_hour m_kind m_wet m_readSun m_readWide m_readDeep m_keptWet m_keptSun m_openFirst m_planHours m_readings m_readCells m_readHours m_readCracked Cc hK hA n _ _ _ _ _ _ _ _ _ _ _ hf _ _ _ hP hD hS (lv_sub hl [0, 1, 2] rfl)
-- X5_readBay
def fX5_readBay_103 (n : Nat) : Nat → (Nat → Int32) → Int32 → Int32 → Int32 → Int32 → (Nat → Int32) → (Nat → Int32) → Int32 → Int32 → Option (Int32 × Int32 × Int32 × Int32 × Int32 × (Nat → Int32) × (Nat → Int32))
  | 0, _, _, _, _, _, _, _, _, _ => none
  | k + 1, m_cells, m_at, m_readSun, m_readWide, m_readDeep, m_readKind, m_readWet, x1, x2 => if (m_readWide * m_readDeep) ≤ x2 then if m_at = x1 then some ((1 : Int32), m_at, m_readSun, m_readWide, m_readDeep, m_readKind, m_readWet) else some ((0 : Int32), m_at, m_readSun, m_readWide, m_readDeep, m_readKind, m_readWet) else (fX5_readCell n m_cells m_at m_readKind m_readWet x1 x2).bind fun q119_1 => if q119_1.1 = 0 then some ((0 : Int32), q119_1.2.1, m_readSun, m_readWide, m_readDeep, q119_1.2.2.1, q119_1.2.2.2) else fX5_readBay_103 n k m_cells q119_1.2.1 m_readSun m_readWide m_readDeep q119_1.2.2.1 q119_1.2.2.2 x1 (x2 + 1)
def fX5_readBay (n : Nat) (m_cells : Nat → Int32) (m_at : Int32) (m_readSun : Int32) (m_readWide : Int32) (m_readDeep : Int32) (m_readKind : Nat → Int32) (m_readWet : Nat → Int32) (p1 : Int32) : Option (Int32 × Int32 × Int32 × Int32 × Int32 × (Nat → Int32) × (Nat → Int32)) := if p1 ≤ m_at then some ((0 : Int32), m_at, m_readSun, m_readWide, m_readDeep, m_readKind, m_readWet) else gd m_at 240 (if (m_cells m_at.toNatClampNeg) = (98 : Int32) then (fX5_digit n m_cells (m_at + (1 : Int32)) p1 (0 : Int32) (9 : Int32)).bind fun q40_1 => if q40_1.1 = (-9 : Int32) then some ((0 : Int32), q40_1.2, q40_1.1, m_readWide, m_readDeep, m_readKind, m_readWet) else (fX5_digit n m_cells q40_1.2 p1 (2 : Int32) (4 : Int32)).bind fun q62_1 => if q62_1.1 = (-9 : Int32) then some ((0 : Int32), q62_1.2, q40_1.1, q62_1.1, m_readDeep, m_readKind, m_readWet) else (fX5_digit n m_cells q62_1.2 p1 (2 : Int32) (3 : Int32)).bind fun q84_1 => if q84_1.1 = (-9 : Int32) then some ((0 : Int32), q84_1.2, q40_1.1, q62_1.1, q84_1.1, m_readKind, m_readWet) else fX5_readBay_103 n n m_cells q84_1.2 q40_1.1 q62_1.1 q84_1.1 m_readKind m_readWet p1 (0 : Int32) else some ((0 : Int32), m_at, m_readSun, m_readWide, m_readDeep, m_readKind, m_readWet))
theorem mdX5_readBay : yX5_readBay.cls = RX5 ∧ yX5_readBay.cls ≠ "java/lang/invoke/MethodHandle" ∧ yX5_readBay.cls ≠ "java/lang/invoke/VarHandle" ∧ (parseMethodDescriptor yX5_readBay.desc).map (fun d => d.parameters.length) = some 1 := by decide +kernel
set_option maxHeartbeats 4000000 in
set_option maxRecDepth 100000 in
theorem bX5_readBay_103 {p : Program} {l : Launch} {e : Env} {s : State} {m : MethodId} {args : Array Value} {below : List Frame} {meth : Method} {c : Code} {A : Nat → Prop} {D : va_G} {cI cS : ClassId} (a_m a_m_sorts a_m_sheetLong a_m_cells a_m_kind a_m_wet a_m_readKind a_m_readWet a_m_keptWet a_m_readCells a_m_readHours a_m_readCracked : Nat) (m_fault : Int32) (m_trace : Int32) (m_sorts : Nat → Int32) (m_sheetLong : Nat → Int32) (m_sun : Int32) (m_wide : Int32) (m_deep : Int32) (m_hour : Int32) (m_kind : Nat → Int32) (m_wet : Nat → Int32) (m_keptWet : Nat → Int32) (m_keptSun : Int32) (m_openFirst : Int32) (m_planHours : Int32) (m_readings : Int32) (m_readCells : Nat → Int32) (m_readHours : Nat → Int32) (m_readCracked : Nat → Int32) (Cc : Cx p s m args meth c RX5 cX5_readBay 3 (some .boolean)) (hK : va_K D classes (tysA cI cS) s) (hA : ∀ q, s.heap.size ≤ q → A q) (n : Nat) : ∀ (k : Nat) (m_cells : Nat → Int32) (m_at : Int32) (m_readSun : Int32) (m_readWide : Int32) (m_readDeep : Int32) (m_readKind : Nat → Int32) (m_readWet : Nat → Int32) (x1 : Int32) (x2 : Int32) (r : Int32) (m_at' : Int32) (m_readSun' : Int32) (m_readWide' : Int32) (m_readDeep' : Int32) (m_readKind' : Nat → Int32) (m_readWet' : Nat → Int32), fX5_readBay_103 n k m_cells m_at m_readSun m_readWide m_readDeep m_readKind m_readWet x1 x2 = some (r, m_at', m_readSun', m_readWide', m_readDeep', m_readKind', m_readWet') → ∀ (H : Heap) (locs : List Loc) (ls : Array Slot), va_P D classes (W_m cI cS a_m a_m_sorts a_m_sheetLong a_m_cells a_m_kind a_m_wet a_m_readKind a_m_readWet a_m_keptWet a_m_readCells a_m_readHours a_m_readCracked m_fault m_trace m_sorts m_sheetLong m_cells m_sun m_wide m_deep m_hour m_kind m_wet m_at m_readSun m_readWide m_readDeep m_readKind m_readWet m_keptWet m_keptSun m_openFirst m_planHours m_readings m_readCells m_readHours m_readCracked) H → va_D A (W_m cI cS a_m a_m_sorts a_m_sheetLong a_m_cells a_m_kind a_m_wet a_m_readKind a_m_readWet a_m_keptWet a_m_readCells a_m_readHours a_m_readCracked m_fault m_trace m_sorts m_sheetLong m_cells m_sun m_wide m_deep m_hour m_kind m_wet m_at m_readSun m_readWide m_readDeep m_readKind m_readWet m_keptWet m_keptSun m_openFirst m_planHours m_readings m_readCells m_readHours m_readCracked) → va_S A s.heap H locs → lv_has ls 3 [(0, .ref a_m), (1, .int x1), (2, .int x2)] → W p l e (Rm 3) s m args below meth c H locs 0 0 (MQ below (QW D (tysA cI cS) (some (.int r)) (W_m cI cS a_m a_m_sorts a_m_sheetLong a_m_cells a_m_kind a_m_wet a_m_readKind a_m_readWet a_m_keptWet a_m_readCells a_m_readHours a_m_readCracked m_fault m_trace m_sorts m_sheetLong m_cells m_sun m_wide m_deep m_hour m_kind m_wet m_at' m_readSun' m_readWide' m_readDeep' m_readKind' m_readWet' m_keptWet m_keptSun m_openFirst m_planHours m_readings m_readCells m_readHours m_readCracked) A) args s 0 0 A) (F0 m 103 ls []) := by
  obtain ⟨hx, hb, hr, hml, hown, hts, hlk, hnw⟩ := id Cc
  intro k
  induction k with
  | zero =>
    intro m_cells m_at m_readSun m_readWide m_readDeep m_readKind m_readWet x1 x2 r m_at' m_readSun' m_readWide' m_readDeep' m_readKind' m_readWet' hf
    rw [fX5_readBay_103] at hf
    cases hf
  | succ k ih =>
    intro m_cells m_at m_readSun m_readWide m_readDeep m_readKind m_readWet x1 x2 r m_at' m_readSun' m_readWide' m_readDeep' m_readKind' m_readWet' hf H locs ls hP hD hS hl
    rw [fX5_readBay_103] at hf
    refine lv_iload_n hx hb dX5_readBay_103 rfl (lv_at hl 2 rfl) ?_
    refine lv_aload_n hx hb dX5_readBay_104 rfl (lv_at hl 0 rfl) ?_
    refine va_get (D := D) (ci := 5) (v := .int m_readWide) (C := RX5) (T := TX5) (N := 25) hx hb hts inX5 hown hK hP 0 rfl rfl 13 (by decide) (hts _ tw_516) (fun _ h9 => h9) rfl dX5_readBay_105 ?_
    refine lv_aload_n hx hb dX5_readBay_108 rfl (lv_at hl 0 rfl) ?_
    refine va_get (D := D) (ci := 5) (v := .int m_readDeep) (C := RX5) (T := TX5) (N := 25) hx hb hts inX5 hown hK hP 0 rfl rfl 14 (by decide) (hts _ tw_517) (fun _ h9 => h9) rfl dX5_readBay_109 ?_
    refine lv_imul hx hb dX5_readBay_112 ?_
    refine lv_icmp_ge (tgt := 133) hx hb dX5_readBay_113 (by decide) (fun hc9 => ?_) (fun hc9 => ?_)
    · replace hf := (if_pos hc9).symm.trans hf
      refine lv_aload_n hx hb dX5_readBay_133 rfl (lv_at hl 0 rfl) ?_
      refine va_get (D := D) (ci := 5) (v := .int m_at) (C := RX5) (T := TX5) (N := 25) hx hb hts inX5 hown hK hP 0 rfl rfl 11 (by decide) (hts _ tw_514) (fun _ h9 => h9) rfl dX5_readBay_134 ?_
      refine lv_iload_n hx hb dX5_readBay_137 rfl (lv_at hl 1 rfl) ?_
      refine lv_icmp_ne (tgt := 145) hx hb dX5_readBay_138 (by decide) (fun hc10 => ?_) (fun hc10 => ?_)
      · replace hf := (if_neg hc10).symm.trans hf
        refine lv_iconst (v := (0 : Int32)) hx hb dX5_readBay_145 (by decide) ?_
        replace hf := Option.some.inj hf
        obtain ⟨er0, er1⟩ := Prod.mk.inj hf
        obtain ⟨er2, er3⟩ := Prod.mk.inj er1
        obtain ⟨er4, er5⟩ := Prod.mk.inj er3
        obtain ⟨er6, er7⟩ := Prod.mk.inj er5
        obtain ⟨er8, er9⟩ := Prod.mk.inj er7
        obtain ⟨er10, er11⟩ := Prod.mk.inj er9
        clear hf er1 er3 er5 er7 er9
        subst er0
        subst er2
        subst er4
        subst er6
        subst er8
        subst er10
        subst er11
        exact rt_z Cc (by decide) hK hP hD hS dX5_readBay_146
      · replace hf := (if_pos hc10).symm.trans hf
        refine lv_iconst (v := (1 : Int32)) hx hb dX5_readBay_141 (by decide) ?_
        refine lv_goto (tgt := 146) hx hb dX5_readBay_142 (by decide) ?_
        replace hf := Option.some.inj hf
        obtain ⟨er0, er1⟩ := Prod.mk.inj hf
        obtain ⟨er2, er3⟩ := Prod.mk.inj er1
        obtain ⟨er4, er5⟩ := Prod.mk.inj er3
        obtain ⟨er6, er7⟩ := Prod.mk.inj er5
        obtain ⟨er8, er9⟩ := Prod.mk.inj er7
        obtain ⟨er10, er11⟩ := Prod.mk.inj er9
        clear hf er1 er3 er5 er7 er9
        subst er0
        subst er2
        subst er4
        subst er6
        subst er8
        subst er10
        subst er11
        exact rt_z Cc (by decide) hK hP hD hS dX5_readBay_146
    · replace hf := (if_neg hc9).symm.trans hf
      refine lv_aload_n hx hb dX5_readBay_116 rfl (lv_at hl 0 rfl) ?_
      refine lv_iload_n hx hb dX5_readBay_117 rfl (lv_at hl 1 rfl) ?_
      refine lv_iload_n hx hb dX5_readBay_118 rfl (lv_at hl 2 rfl) ?_
      obtain ⟨q119_1, hq11, hf⟩ := Option.bind_eq_some_iff.mp hf
      refine cV (ws' := (W_m cI cS a_m a_m_sorts a_m_sheetLong a_m_cells a_m_kind a_m_wet a_m_readKind a_m_readWet a_m_keptWet a_m_readCells a_m_readHours a_m_readCracked m_fault m_trace m_sorts m_sheetLong m_cells m_sun m_wide m_deep m_hour m_kind m_wet q119_1.2.1 m_readSun m_readWide m_readDeep q119_1.2.2.1 q119_1.2.2.2 m_keptWet m_keptSun m_openFirst m_planHours m_readings m_readCells m_readHours m_readCracked)) (rest := []) (st1 := [.int q119_1.1]) Cc hK hA hP hD hS hl.1 (ctX5_readCell l D cI cS a_m a_m_sorts a_m_sheetLong a_m_cells a_m_kind a_m_wet a_m_readKind a_m_readWet a_m_keptWet a_m_readCells a_m_readHours a_m_readCracked m_fault m_trace m_sorts m_sheetLong m_cells m_sun m_wide m_deep m_hour m_kind m_wet m_at m_readSun m_readWide m_readDeep m_readKind m_readWet m_keptWet m_keptSun m_openFirst m_planHours m_readings m_readCells m_readHours m_readCracked x1 x2 n q119_1.1 q119_1.2.1 q119_1.2.2.1 q119_1.2.2.2 hq11) ⟨tw_611, tw_608, tw_610, tp_15, tw_6⟩ mdX5_readCell ⟨rfl, rfl, Nat.le_of_ble_eq_true rfl, Nat.le_of_ble_eq_true rfl⟩ rfl dX5_readBay_119 rfl (Nat.le_of_ble_eq_true rfl) ⟨Nat.zero_le _, Nat.zero_le _⟩ rfl rfl rfl [0, 1, 2, 3, 4, 5, 6, 7, 8, 9, 10, 11] [] [0, 1, 2, 3, 4, 5, 6, 7, 8, 9, 10, 11] rfl rfl (by decide) rfl (fun H locs hP hD hS => ?_)
      refine lv_if_ne (tgt := 127) hx hb dX5_readBay_122 (by decide) (fun hc12 => ?_) (fun hc12 => ?_)
      · replace hf := (if_neg hc12).symm.trans hf
        refine lv_iinc (v := (x2 + 1)) (lv' := [(2, .int (x2 + 1)), (0, .ref a_m), (1, .int x1)]) hx hb dX5_readBay_127 hl (k := 2) rfl rfl (by decide) rfl (fun ls hl => ?_)
        refine lv_goto (tgt := 103) hx hb dX5_readBay_130 (by decide) ?_
        exact ih _ _ _ _ _ _ _ _ _ _ _ _ _ _ _ _ hf _ _ _ hP hD hS (lv_sub hl [1, 2, 0] rfl)
      · replace hf := (if_pos hc12).symm.trans hf
        refine lv_iconst (v := (0 : Int32)) hx hb dX5_readBay_125 (by decide) ?_
        replace hf := Option.some.inj hf
        obtain ⟨er0, er1⟩ := Prod.mk.inj hf
        obtain ⟨er2, er3⟩ := Prod.mk.inj er1
        obtain ⟨er4, er5⟩ := Prod.mk.inj er3
        obtain ⟨er6, er7⟩ := Prod.mk.inj er5
        obtain ⟨er8, er9⟩ := Prod.mk.inj er7
        obtain ⟨er10, er11⟩ := Prod.mk.inj er9
        clear hf er1 er3 er5 er7 er9
        subst er0
        subst er2
        subst er4
        subst er6
        subst er8
        subst er10
        subst er11
        exact rt_z Cc (by decide) hK hP hD hS dX5_readBay_126
set_option maxHeartbeats 4000000 in
set_option maxRecDepth 100000 in
theorem ctX5_readBay (l : Launch) (D : va_G) (cI cS : ClassId) (a_m a_m_sorts a_m_sheetLong a_m_cells a_m_kind a_m_wet a_m_readKind a_m_readWet a_m_keptWet a_m_readCells a_m_readHours a_m_readCracked : Nat) (m_fault : Int32) (m_trace : Int32) (m_sorts : Nat → Int32) (m_sheetLong : Nat → Int32) (m_cells : Nat → Int32) (m_sun : Int32) (m_wide : Int32) (m_deep : Int32) (m_hour : Int32) (m_kind : Nat → Int32) (m_wet : Nat → Int32) (m_at : Int32) (m_readSun : Int32) (m_readWide : Int32) (m_readDeep : Int32) (m_readKind : Nat → Int32) (m_readWet : Nat → Int32) (m_keptWet : Nat → Int32) (m_keptSun : Int32) (m_openFirst : Int32) (m_planHours : Int32) (m_readings : Int32) (m_readCells : Nat → Int32) (m_readHours : Nat → Int32) (m_readCracked : Nat → Int32) (p1 : Int32) (n : Nat) (r : Int32) (m_at' : Int32) (m_readSun' : Int32) (m_readWide' : Int32) (m_readDeep' : Int32) (m_readKind' : Nat → Int32) (m_readWet' : Nat → Int32) (hf : fX5_readBay n m_cells m_at m_readSun m_readWide m_readDeep m_readKind m_readWet p1 = some (r, m_at', m_readSun', m_readWide', m_readDeep', m_readKind', m_readWet')) : Ct l D (tysA cI cS) yX5_readBay cX5_readBay 3 (some .boolean) (Rm 3) [.ref a_m, .int p1] (W_m cI cS a_m a_m_sorts a_m_sheetLong a_m_cells a_m_kind a_m_wet a_m_readKind a_m_readWet a_m_keptWet a_m_readCells a_m_readHours a_m_readCracked m_fault m_trace m_sorts m_sheetLong m_cells m_sun m_wide m_deep m_hour m_kind m_wet m_at m_readSun m_readWide m_readDeep m_readKind m_readWet m_keptWet m_keptSun m_openFirst m_planHours m_readings m_readCells m_readHours m_readCracked) (some (.int r)) (W_m cI cS a_m a_m_sorts a_m_sheetLong a_m_cells a_m_kind a_m_wet a_m_readKind a_m_readWet a_m_keptWet a_m_readCells a_m_readHours a_m_readCracked m_fault m_trace m_sorts m_sheetLong m_cells m_sun m_wide m_deep m_hour m_kind m_wet m_at' m_readSun' m_readWide' m_readDeep' m_readKind' m_readWet' m_keptWet m_keptSun m_openFirst m_planHours m_readings m_readCells m_readHours m_readCracked) := by
  refine Ct_of (by decide) (Nat.le_of_ble_eq_true rfl) ?_
  intro p e s m args below meth c A ls Cc hK hA hP hD hS hl
  have hl : lv_has ls 3 [(0, .ref a_m), (1, .int p1)] := hl
  obtain ⟨hx, hb, hr, hml, hown, hts, hlk, hnw⟩ := id Cc
  unfold fX5_readBay at hf
  refine lv_aload_n hx hb dX5_readBay_0 rfl (lv_at hl 0 rfl) ?_
  refine va_get (D := D) (ci := 5) (v := .int m_at) (C := RX5) (T := TX5) (N := 25) hx hb hts inX5 hown hK hP 0 rfl rfl 11 (by decide) (hts _ tw_514) (fun _ h9 => h9) rfl dX5_readBay_1 ?_
  refine lv_iload_n hx hb dX5_readBay_4 rfl (lv_at hl 1 rfl) ?_
  refine lv_icmp_ge (tgt := 22) hx hb dX5_readBay_5 (by decide) (fun hc1 => ?_) (fun hc1 => ?_)
  · replace hf := (if_pos hc1).symm.trans hf
    refine lv_iconst (v := (0 : Int32)) hx hb dX5_readBay_22 (by decide) ?_
    replace hf := Option.some.inj hf
    obtain ⟨er0, er1⟩ := Prod.mk.inj hf
    obtain ⟨er2, er3⟩ := Prod.mk.inj er1
    obtain ⟨er4, er5⟩ := Prod.mk.inj er3
    obtain ⟨er6, er7⟩ := Prod.mk.inj er5
    obtain ⟨er8, er9⟩ := Prod.mk.inj er7
    obtain ⟨er10, er11⟩ := Prod.mk.inj er9
    clear hf er1 er3 er5 er7 er9
    subst er0
    subst er2
    subst er4
    subst er6
    subst er8
    subst er10
    subst er11
    exact rt_z Cc (by decide) hK hP hD hS dX5_readBay_23
  · replace hf := (if_neg hc1).symm.trans hf
    refine lv_aload_n hx hb dX5_readBay_8 rfl (lv_at hl 0 rfl) ?_
    refine va_get (D := D) (ci := 5) (v := .ref a_m_cells) (C := RX5) (T := TX5) (N := 25) hx hb hts inX5 hown hK hP 0 rfl rfl 4 (by decide) (hts _ tw_507) (fun _ h9 => h9) rfl dX5_readBay_9 ?_
    refine lv_aload_n hx hb dX5_readBay_12 rfl (lv_at hl 0 rfl) ?_
    refine va_get (D := D) (ci := 5) (v := .int m_at) (C := RX5) (T := TX5) (N := 25) hx hb hts inX5 hown hK hP 0 rfl rfl 11 (by decide) (hts _ tw_514) (fun _ h9 => h9) rfl dX5_readBay_13 ?_
    obtain ⟨hin, hf⟩ := gd_some hf
    refine va_iald hx hb hK hP 3 0 rfl rfl hin dX5_readBay_16 ?_
    refine lv_bipush (v := (98 : Int32)) hx hb dX5_readBay_17 (by decide) ?_
    refine lv_icmp_eq (tgt := 24) hx hb dX5_readBay_19 (by decide) (fun hc2 => ?_) (fun hc2 => ?_)
    · replace hf := (if_pos hc2).symm.trans hf
      refine lv_aload_n hx hb dX5_readBay_24 rfl (lv_at hl 0 rfl) ?_
      refine lv_dup hx hb dX5_readBay_25 rfl ?_
      refine va_get (D := D) (ci := 5) (v := .int m_at) (C := RX5) (T := TX5) (N := 25) hx hb hts inX5 hown hK hP 0 rfl rfl 11 (by decide) (hts _ tw_514) (fun _ h9 => h9) rfl dX5_readBay_26 ?_
      refine lv_iconst (v := (1 : Int32)) hx hb dX5_readBay_29 (by decide) ?_
      refine lv_iadd hx hb dX5_readBay_30 ?_
      refine va_put (D := D) (ci := 5) (v := .int (m_at + (1 : Int32))) (ty := .int) (C := RX5) (T := TX5) (N := 25) hx hb hts inX5 tyX5 tyX5_ok nmX5 hown hK hP hD hS 0 rfl rfl 11 (by decide) (hts _ tw_514) (fun _ h9 => h9) rfl (tyX5_ok 11 (by decide)) rfl rfl (Nat.le_of_ble_eq_true rfl) dX5_readBay_31 (fun H locs hP hD hS => ?_)
      have hP : va_P D classes (W_m cI cS a_m a_m_sorts a_m_sheetLong a_m_cells a_m_kind a_m_wet a_m_readKind a_m_readWet a_m_keptWet a_m_readCells a_m_readHours a_m_readCracked m_fault m_trace m_sorts m_sheetLong m_cells m_sun m_wide m_deep m_hour m_kind m_wet (m_at + (1 : Int32)) m_readSun m_readWide m_readDeep m_readKind m_readWet m_keptWet m_keptSun m_openFirst m_planHours m_readings m_readCells m_readHours m_readCracked) H := hP
      have hD : va_D A (W_m cI cS a_m a_m_sorts a_m_sheetLong a_m_cells a_m_kind a_m_wet a_m_readKind a_m_readWet a_m_keptWet a_m_readCells a_m_readHours a_m_readCracked m_fault m_trace m_sorts m_sheetLong m_cells m_sun m_wide m_deep m_hour m_kind m_wet (m_at + (1 : Int32)) m_readSun m_readWide m_readDeep m_readKind m_readWet m_keptWet m_keptSun m_openFirst m_planHours m_readings m_readCells m_readHours m_readCracked) := hD
      refine lv_aload_n hx hb dX5_readBay_34 rfl (lv_at hl 0 rfl) ?_
      refine lv_aload_n hx hb dX5_readBay_35 rfl (lv_at hl 0 rfl) ?_
      refine lv_iload_n hx hb dX5_readBay_36 rfl (lv_at hl 1 rfl) ?_
      refine lv_iconst (v := (0 : Int32)) hx hb dX5_readBay_37 (by decide) ?_
      refine lv_bipush (v := (9 : Int32)) hx hb dX5_readBay_38 (by decide) ?_
      obtain ⟨q40_1, hq3, hf⟩ := Option.bind_eq_some_iff.mp hf
      refine cV (ws' := (W_m cI cS a_m a_m_sorts a_m_sheetLong a_m_cells a_m_kind a_m_wet a_m_readKind a_m_readWet a_m_keptWet a_m_readCells a_m_readHours a_m_readCracked m_fault m_trace m_sorts m_sheetLong m_cells m_sun m_wide m_deep m_hour m_kind m_wet q40_1.2 m_readSun m_readWide m_readDeep m_readKind m_readWet m_keptWet m_keptSun m_openFirst m_planHours m_readings m_readCells m_readHours m_readCracked)) (rest := [.ref a_m]) (st1 := [.int q40_1.1, .ref a_m]) Cc hK hA hP hD hS hl.1 (ctX5_digit l D cI cS a_m a_m_sorts a_m_sheetLong a_m_cells a_m_kind a_m_wet a_m_readKind a_m_readWet a_m_keptWet a_m_readCells a_m_readHours a_m_readCracked m_fault m_trace m_sorts m_sheetLong m_cells m_sun m_wide m_deep m_hour m_kind m_wet (m_at + (1 : Int32)) m_readSun m_readWide m_readDeep m_readKind m_readWet m_keptWet m_keptSun m_openFirst m_planHours m_readings m_readCells m_readHours m_readCracked p1 (0 : Int32) (9 : Int32) n q40_1.1 q40_1.2 hq3) ⟨tw_607, tw_604, tw_606, tp_14, tw_6⟩ mdX5_digit ⟨rfl, rfl, Nat.le_of_ble_eq_true rfl, Nat.le_of_ble_eq_true rfl⟩ rfl dX5_readBay_40 rfl (Nat.le_of_ble_eq_true rfl) ⟨Nat.zero_le _, Nat.zero_le _⟩ rfl rfl rfl [0, 1, 2, 3, 4, 5, 6, 7, 8, 9, 10, 11] [] [0, 1, 2, 3, 4, 5, 6, 7, 8, 9, 10, 11] rfl rfl (by decide) rfl (fun H locs hP hD hS => ?_)
      refine va_put (D := D) (ci := 5) (v := .int q40_1.1) (ty := .int) (C := RX5) (T := TX5) (N := 25) hx hb hts inX5 tyX5 tyX5_ok nmX5 hown hK hP hD hS 0 rfl rfl 12 (by decide) (hts _ tw_515) (fun _ h9 => h9) rfl (tyX5_ok 12 (by decide)) rfl rfl (Nat.le_of_ble_eq_true rfl) dX5_readBay_43 (fun H locs hP hD hS => ?_)
      have hP : va_P D classes (W_m cI cS a_m a_m_sorts a_m_sheetLong a_m_cells a_m_kind a_m_wet a_m_readKind a_m_readWet a_m_keptWet a_m_readCells a_m_readHours a_m_readCracked m_fault m_trace m_sorts m_sheetLong m_cells m_sun m_wide m_deep m_hour m_kind m_wet q40_1.2 q40_1.1 m_readWide m_readDeep m_readKind m_readWet m_keptWet m_keptSun m_openFirst m_planHours m_readings m_readCells m_readHours m_readCracked) H := hP
      have hD : va_D A (W_m cI cS a_m a_m_sorts a_m_sheetLong a_m_cells a_m_kind a_m_wet a_m_readKind a_m_readWet a_m_keptWet a_m_readCells a_m_readHours a_m_readCracked m_fault m_trace m_sorts m_sheetLong m_cells m_sun m_wide m_deep m_hour m_kind m_wet q40_1.2 q40_1.1 m_readWide m_readDeep m_readKind m_readWet m_keptWet m_keptSun m_openFirst m_planHours m_readings m_readCells m_readHours m_readCracked) := hD
      refine lv_aload_n hx hb dX5_readBay_46 rfl (lv_at hl 0 rfl) ?_
      refine va_get (D := D) (ci := 5) (v := .int q40_1.1) (C := RX5) (T := TX5) (N := 25) hx hb hts inX5 hown hK hP 0 rfl rfl 12 (by decide) (hts _ tw_515) (fun _ h9 => h9) rfl dX5_readBay_47 ?_
      refine lv_bipush (v := (-9 : Int32)) hx hb dX5_readBay_50 (by decide) ?_
      refine lv_icmp_ne (tgt := 57) hx hb dX5_readBay_52 (by decide) (fun hc4 => ?_) (fun hc4 => ?_)
      · replace hf := (if_neg hc4).symm.trans hf
        refine lv_aload_n hx hb dX5_readBay_57 rfl (lv_at hl 0 rfl) ?_
        refine lv_aload_n hx hb dX5_readBay_58 rfl (lv_at hl 0 rfl) ?_
        refine lv_iload_n hx hb dX5_readBay_59 rfl (lv_at hl 1 rfl) ?_
        refine lv_iconst (v := (2 : Int32)) hx hb dX5_readBay_60 (by decide) ?_
        refine lv_iconst (v := (4 : Int32)) hx hb dX5_readBay_61 (by decide) ?_
        obtain ⟨q62_1, hq5, hf⟩ := Option.bind_eq_some_iff.mp hf
        refine cV (ws' := (W_m cI cS a_m a_m_sorts a_m_sheetLong a_m_cells a_m_kind a_m_wet a_m_readKind a_m_readWet a_m_keptWet a_m_readCells a_m_readHours a_m_readCracked m_fault m_trace m_sorts m_sheetLong m_cells m_sun m_wide m_deep m_hour m_kind m_wet q62_1.2 q40_1.1 m_readWide m_readDeep m_readKind m_readWet m_keptWet m_keptSun m_openFirst m_planHours m_readings m_readCells m_readHours m_readCracked)) (rest := [.ref a_m]) (st1 := [.int q62_1.1, .ref a_m]) Cc hK hA hP hD hS hl.1 (ctX5_digit l D cI cS a_m a_m_sorts a_m_sheetLong a_m_cells a_m_kind a_m_wet a_m_readKind a_m_readWet a_m_keptWet a_m_readCells a_m_readHours a_m_readCracked m_fault m_trace m_sorts m_sheetLong m_cells m_sun m_wide m_deep m_hour m_kind m_wet q40_1.2 q40_1.1 m_readWide m_readDeep m_readKind m_readWet m_keptWet m_keptSun m_openFirst m_planHours m_readings m_readCells m_readHours m_readCracked p1 (2 : Int32) (4 : Int32) n q62_1.1 q62_1.2 hq5) ⟨tw_607, tw_604, tw_606, tp_14, tw_6⟩ mdX5_digit ⟨rfl, rfl, Nat.le_of_ble_eq_true rfl, Nat.le_of_ble_eq_true rfl⟩ rfl dX5_readBay_62 rfl (Nat.le_of_ble_eq_true rfl) ⟨Nat.zero_le _, Nat.zero_le _⟩ rfl rfl rfl [0, 1, 2, 3, 4, 5, 6, 7, 8, 9, 10, 11] [] [0, 1, 2, 3, 4, 5, 6, 7, 8, 9, 10, 11] rfl rfl (by decide) rfl (fun H locs hP hD hS => ?_)
        refine va_put (D := D) (ci := 5) (v := .int q62_1.1) (ty := .int) (C := RX5) (T := TX5) (N := 25) hx hb hts inX5 tyX5 tyX5_ok nmX5 hown hK hP hD hS 0 rfl rfl 13 (by decide) (hts _ tw_516) (fun _ h9 => h9) rfl (tyX5_ok 13 (by decide)) rfl rfl (Nat.le_of_ble_eq_true rfl) dX5_readBay_65 (fun H locs hP hD hS => ?_)
        have hP : va_P D classes (W_m cI cS a_m a_m_sorts a_m_sheetLong a_m_cells a_m_kind a_m_wet a_m_readKind a_m_readWet a_m_keptWet a_m_readCells a_m_readHours a_m_readCracked m_fault m_trace m_sorts m_sheetLong m_cells m_sun m_wide m_deep m_hour m_kind m_wet q62_1.2 q40_1.1 q62_1.1 m_readDeep m_readKind m_readWet m_keptWet m_keptSun m_openFirst m_planHours m_readings m_readCells m_readHours m_readCracked) H := hP
        have hD : va_D A (W_m cI cS a_m a_m_sorts a_m_sheetLong a_m_cells a_m_kind a_m_wet a_m_readKind a_m_readWet a_m_keptWet a_m_readCells a_m_readHours a_m_readCracked m_fault m_trace m_sorts m_sheetLong m_cells m_sun m_wide m_deep m_hour m_kind m_wet q62_1.2 q40_1.1 q62_1.1 m_readDeep m_readKind m_readWet m_keptWet m_keptSun m_openFirst m_planHours m_readings m_readCells m_readHours m_readCracked) := hD
        refine lv_aload_n hx hb dX5_readBay_68 rfl (lv_at hl 0 rfl) ?_
        refine va_get (D := D) (ci := 5) (v := .int q62_1.1) (C := RX5) (T := TX5) (N := 25) hx hb hts inX5 hown hK hP 0 rfl rfl 13 (by decide) (hts _ tw_516) (fun _ h9 => h9) rfl dX5_readBay_69 ?_
        refine lv_bipush (v := (-9 : Int32)) hx hb dX5_readBay_72 (by decide) ?_
        refine lv_icmp_ne (tgt := 79) hx hb dX5_readBay_74 (by decide) (fun hc6 => ?_) (fun hc6 => ?_)
        · replace hf := (if_neg hc6).symm.trans hf
          refine lv_aload_n hx hb dX5_readBay_79 rfl (lv_at hl 0 rfl) ?_
          refine lv_aload_n hx hb dX5_readBay_80 rfl (lv_at hl 0 rfl) ?_
          refine lv_iload_n hx hb dX5_readBay_81 rfl (lv_at hl 1 rfl) ?_
          refine lv_iconst (v := (2 : Int32)) hx hb dX5_readBay_82 (by decide) ?_
          refine lv_iconst (v := (3 : Int32)) hx hb dX5_readBay_83 (by decide) ?_
          obtain ⟨q84_1, hq7, hf⟩ := Option.bind_eq_some_iff.mp hf
          refine cV (ws' := (W_m cI cS a_m a_m_sorts a_m_sheetLong a_m_cells a_m_kind a_m_wet a_m_readKind a_m_readWet a_m_keptWet a_m_readCells a_m_readHours a_m_readCracked m_fault m_trace m_sorts m_sheetLong m_cells m_sun m_wide m_deep m_hour m_kind m_wet q84_1.2 q40_1.1 q62_1.1 m_readDeep m_readKind m_readWet m_keptWet m_keptSun m_openFirst m_planHours m_readings m_readCells m_readHours m_readCracked)) (rest := [.ref a_m]) (st1 := [.int q84_1.1, .ref a_m]) Cc hK hA hP hD hS hl.1 (ctX5_digit l D cI cS a_m a_m_sorts a_m_sheetLong a_m_cells a_m_kind a_m_wet a_m_readKind a_m_readWet a_m_keptWet a_m_readCells a_m_readHours a_m_readCracked m_fault m_trace m_sorts m_sheetLong m_cells m_sun m_wide m_deep m_hour m_kind m_wet q62_1.2 q40_1.1 q62_1.1 m_readDeep m_readKind m_readWet m_keptWet m_keptSun m_openFirst m_planHours m_readings m_readCells m_readHours m_readCracked p1 (2 : Int32) (3 : Int32) n q84_1.1 q84_1.2 hq7) ⟨tw_607, tw_604, tw_606, tp_14, tw_6⟩ mdX5_digit ⟨rfl, rfl, Nat.le_of_ble_eq_true rfl, Nat.le_of_ble_eq_true rfl⟩ rfl dX5_readBay_84 rfl (Nat.le_of_ble_eq_true rfl) ⟨Nat.zero_le _, Nat.zero_le _⟩ rfl rfl rfl [0, 1, 2, 3, 4, 5, 6, 7, 8, 9, 10, 11] [] [0, 1, 2, 3, 4, 5, 6, 7, 8, 9, 10, 11] rfl rfl (by decide) rfl (fun H locs hP hD hS => ?_)
          refine va_put (D := D) (ci := 5) (v := .int q84_1.1) (ty := .int) (C := RX5) (T := TX5) (N := 25) hx hb hts inX5 tyX5 tyX5_ok nmX5 hown hK hP hD hS 0 rfl rfl 14 (by decide) (hts _ tw_517) (fun _ h9 => h9) rfl (tyX5_ok 14 (by decide)) rfl rfl (Nat.le_of_ble_eq_true rfl) dX5_readBay_87 (fun H locs hP hD hS => ?_)
          have hP : va_P D classes (W_m cI cS a_m a_m_sorts a_m_sheetLong a_m_cells a_m_kind a_m_wet a_m_readKind a_m_readWet a_m_keptWet a_m_readCells a_m_readHours a_m_readCracked m_fault m_trace m_sorts m_sheetLong m_cells m_sun m_wide m_deep m_hour m_kind m_wet q84_1.2 q40_1.1 q62_1.1 q84_1.1 m_readKind m_readWet m_keptWet m_keptSun m_openFirst m_planHours m_readings m_readCells m_readHours m_readCracked) H := hP
          have hD : va_D A (W_m cI cS a_m a_m_sorts a_m_sheetLong a_m_cells a_m_kind a_m_wet a_m_readKind a_m_readWet a_m_keptWet a_m_readCells a_m_readHours a_m_readCracked m_fault m_trace m_sorts m_sheetLong m_cells m_sun m_wide m_deep m_hour m_kind m_wet q84_1.2 q40_1.1 q62_1.1 q84_1.1 m_readKind m_readWet m_keptWet m_keptSun m_openFirst m_planHours m_readings m_readCells m_readHours m_readCracked) := hD
          refine lv_aload_n hx hb dX5_readBay_90 rfl (lv_at hl 0 rfl) ?_
          refine va_get (D := D) (ci := 5) (v := .int q84_1.1) (C := RX5) (T := TX5) (N := 25) hx hb hts inX5 hown hK hP 0 rfl rfl 14 (by decide) (hts _ tw_517) (fun _ h9 => h9) rfl dX5_readBay_91 ?_
          refine lv_bipush (v := (-9 : Int32)) hx hb dX5_readBay_94 (by decide) ?_
          refine lv_icmp_ne (tgt := 101) hx hb dX5_readBay_96 (by decide) (fun hc8 => ?_) (fun hc8 => ?_)
          · replace hf := (if_neg hc8).symm.trans hf
            refine lv_iconst (v := (0 : Int32)) hx hb dX5_readBay_101 (by decide) ?_
            refine lv_istore_n (lv' := [(2, .int (0 : Int32)), (0, .ref a_m), (1, .int p1)]) hx hb dX5_readBay_102 rfl hl (by decide) rfl (fun ls hl => ?_)
            exact bX5_readBay_103 a_m a_m_sorts a_m_sheetLong a_m_cells a_m_kind a_m_wet a_m_readKind a_m_readWet a_m_keptWet a_m_readCells a_m_readHours a_m_readCracked m_fault m_trace m_sorts m_sheetLong m_sun m_wide m_deep m_hour m_kind m_wet m_keptWet m_keptSun m_openFirst m_planHours m_readings m_readCells m_readHours m_readCracked Cc hK hA n n _ _ _ _ _ _ _ _ _ _ _ _ _ _ _ _ hf _ _ _ hP hD hS (lv_sub hl [1, 2, 0] rfl)
          · replace hf := (if_pos hc8).symm.trans hf
            refine lv_iconst (v := (0 : Int32)) hx hb dX5_readBay_99 (by decide) ?_
            replace hf := Option.some.inj hf
            obtain ⟨er0, er1⟩ := Prod.mk.inj hf
            obtain ⟨er2, er3⟩ := Prod.mk.inj er1
            obtain ⟨er4, er5⟩ := Prod.mk.inj er3
            obtain ⟨er6, er7⟩ := Prod.mk.inj er5
            obtain ⟨er8, er9⟩ := Prod.mk.inj er7
            obtain ⟨er10, er11⟩ := Prod.mk.inj er9
            clear hf er1 er3 er5 er7 er9
            subst er0
            subst er2
            subst er4
            subst er6
            subst er8
            subst er10
            subst er11
            exact rt_z Cc (by decide) hK hP hD hS dX5_readBay_100
        · replace hf := (if_pos hc6).symm.trans hf
          refine lv_iconst (v := (0 : Int32)) hx hb dX5_readBay_77 (by decide) ?_
          replace hf := Option.some.inj hf
          obtain ⟨er0, er1⟩ := Prod.mk.inj hf
          obtain ⟨er2, er3⟩ := Prod.mk.inj er1
          obtain ⟨er4, er5⟩ := Prod.mk.inj er3
          obtain ⟨er6, er7⟩ := Prod.mk.inj er5
          obtain ⟨er8, er9⟩ := Prod.mk.inj er7
          obtain ⟨er10, er11⟩ := Prod.mk.inj er9
          clear hf er1 er3 er5 er7 er9
          subst er0
          subst er2
          subst er4
          subst er6
          subst er8
          subst er10
          subst er11
          exact rt_z Cc (by decide) hK hP hD hS dX5_readBay_78
      · replace hf := (if_pos hc4).symm.trans hf
        refine lv_iconst (v := (0 : Int32)) hx hb dX5_readBay_55 (by decide) ?_
        replace hf := Option.some.inj hf
        obtain ⟨er0, er1⟩ := Prod.mk.inj hf
        obtain ⟨er2, er3⟩ := Prod.mk.inj er1
        obtain ⟨er4, er5⟩ := Prod.mk.inj er3
        obtain ⟨er6, er7⟩ := Prod.mk.inj er5
        obtain ⟨er8, er9⟩ := Prod.mk.inj er7
        obtain ⟨er10, er11⟩ := Prod.mk.inj er9
        clear hf er1 er3 er5 er7 er9
        subst er0
        subst er2
        subst er4
        subst er6
        subst er8
        subst er10
        subst er11
        exact rt_z Cc (by decide) hK hP hD hS dX5_readBay_56
    · replace hf := (if_neg hc2).symm.trans hf
      refine lv_iconst (v := (0 : Int32)) hx hb dX5_readBay_22 (by decide) ?_
      replace hf := Option.some.inj hf
      obtain ⟨er0, er1⟩ := Prod.mk.inj hf
      obtain ⟨er2, er3⟩ := Prod.mk.inj er1
      obtain ⟨er4, er5⟩ := Prod.mk.inj er3
      obtain ⟨er6, er7⟩ := Prod.mk.inj er5
      obtain ⟨er8, er9⟩ := Prod.mk.inj er7
      obtain ⟨er10, er11⟩ := Prod.mk.inj er9
      clear hf er1 er3 er5 er7 er9
      subst er0
      subst er2
      subst er4
      subst er6
      subst er8
      subst er10
      subst er11
      exact rt_z Cc (by decide) hK hP hD hS dX5_readBay_23
-- X5_takeBay
def fX5_takeBay_31 (n : Nat) : Nat → Int32 → Int32 → Int32 → Int32 → (Nat → Int32) → (Nat → Int32) → Int32 → Int32 → Int32 → (Nat → Int32) → (Nat → Int32) → Int32 → Int32 → Option (Int32 × Int32 × Int32 × Int32 × (Nat → Int32) × (Nat → Int32) × Int32)
  | 0, _, _, _, _, _, _, _, _, _, _, _, _, _ => none
  | k + 1, m_sun, m_wide, m_deep, m_hour, m_kind, m_wet, m_readSun, m_readWide, m_readDeep, m_readKind, m_readWet, m_readings, x1 => (fX5_cellsOf n m_wide m_deep).bind fun q33_1 => if q33_1 ≤ x1 then some (m_sun, m_wide, m_deep, m_hour, m_kind, m_wet, (0 : Int32)) else gd x1 12 (gd x1 12 (gd x1 12 (gd x1 12 (fX5_takeBay_31 n k m_sun m_wide m_deep m_hour (upd m_kind x1.toNatClampNeg (m_readKind x1.toNatClampNeg)) (upd m_wet x1.toNatClampNeg (m_readWet x1.toNatClampNeg)) m_readSun m_readWide m_readDeep m_readKind m_readWet m_readings (x1 + 1)))))
def fX5_takeBay (n : Nat) (m_sun : Int32) (m_wide : Int32) (m_deep : Int32) (m_hour : Int32) (m_kind : Nat → Int32) (m_wet : Nat → Int32) (m_readSun : Int32) (m_readWide : Int32) (m_readDeep : Int32) (m_readKind : Nat → Int32) (m_readWet : Nat → Int32) (m_readings : Int32)  : Option (Int32 × Int32 × Int32 × Int32 × (Nat → Int32) × (Nat → Int32) × Int32) := fX5_takeBay_31 n n m_readSun m_readWide m_readDeep (0 : Int32) m_kind m_wet m_readSun m_readWide m_readDeep m_readKind m_readWet m_readings (0 : Int32)
theorem mdX5_takeBay : yX5_takeBay.cls = RX5 ∧ yX5_takeBay.cls ≠ "java/lang/invoke/MethodHandle" ∧ yX5_takeBay.cls ≠ "java/lang/invoke/VarHandle" ∧ (parseMethodDescriptor yX5_takeBay.desc).map (fun d => d.parameters.length) = some 0 := by decide +kernel
set_option maxHeartbeats 4000000 in
set_option maxRecDepth 100000 in
theorem bX5_takeBay_31 {p : Program} {l : Launch} {e : Env} {s : State} {m : MethodId} {args : Array Value} {below : List Frame} {meth : Method} {c : Code} {A : Nat → Prop} {D : va_G} {cI cS : ClassId} (a_m a_m_sorts a_m_sheetLong a_m_cells a_m_kind a_m_wet a_m_readKind a_m_readWet a_m_keptWet a_m_readCells a_m_readHours a_m_readCracked : Nat) (m_fault : Int32) (m_trace : Int32) (m_sorts : Nat → Int32) (m_sheetLong : Nat → Int32) (m_cells : Nat → Int32) (m_at : Int32) (m_keptWet : Nat → Int32) (m_keptSun : Int32) (m_openFirst : Int32) (m_planHours : Int32) (m_readCells : Nat → Int32) (m_readHours : Nat → Int32) (m_readCracked : Nat → Int32) (Cc : Cx p s m args meth c RX5 cX5_takeBay 2 none) (hK : va_K D classes (tysA cI cS) s) (hA : ∀ q, s.heap.size ≤ q → A q) (n : Nat) : ∀ (k : Nat) (m_sun : Int32) (m_wide : Int32) (m_deep : Int32) (m_hour : Int32) (m_kind : Nat → Int32) (m_wet : Nat → Int32) (m_readSun : Int32) (m_readWide : Int32) (m_readDeep : Int32) (m_readKind : Nat → Int32) (m_readWet : Nat → Int32) (m_readings : Int32) (x1 : Int32) (m_sun' : Int32) (m_wide' : Int32) (m_deep' : Int32) (m_hour' : Int32) (m_kind' : Nat → Int32) (m_wet' : Nat → Int32) (m_readings' : Int32), fX5_takeBay_31 n k m_sun m_wide m_deep m_hour m_kind m_wet m_readSun m_readWide m_readDeep m_readKind m_readWet m_readings x1 = some (m_sun', m_wide', m_deep', m_hour', m_kind', m_wet', m_readings') → ∀ (H : Heap) (locs : List Loc) (ls : Array Slot), va_P D classes (W_m cI cS a_m a_m_sorts a_m_sheetLong a_m_cells a_m_kind a_m_wet a_m_readKind a_m_readWet a_m_keptWet a_m_readCells a_m_readHours a_m_readCracked m_fault m_trace m_sorts m_sheetLong m_cells m_sun m_wide m_deep m_hour m_kind m_wet m_at m_readSun m_readWide m_readDeep m_readKind m_readWet m_keptWet m_keptSun m_openFirst m_planHours m_readings m_readCells m_readHours m_readCracked) H → va_D A (W_m cI cS a_m a_m_sorts a_m_sheetLong a_m_cells a_m_kind a_m_wet a_m_readKind a_m_readWet a_m_keptWet a_m_readCells a_m_readHours a_m_readCracked m_fault m_trace m_sorts m_sheetLong m_cells m_sun m_wide m_deep m_hour m_kind m_wet m_at m_readSun m_readWide m_readDeep m_readKind m_readWet m_keptWet m_keptSun m_openFirst m_planHours m_readings m_readCells m_readHours m_readCracked) → va_S A s.heap H locs → lv_has ls 2 [(0, .ref a_m), (1, .int x1)] → W p l e (Rm 1) s m args below meth c H locs 0 0 (MQ below (QW D (tysA cI cS) none (W_m cI cS a_m a_m_sorts a_m_sheetLong a_m_cells a_m_kind a_m_wet a_m_readKind a_m_readWet a_m_keptWet a_m_readCells a_m_readHours a_m_readCracked m_fault m_trace m_sorts m_sheetLong m_cells m_sun' m_wide' m_deep' m_hour' m_kind' m_wet' m_at m_readSun m_readWide m_readDeep m_readKind m_readWet m_keptWet m_keptSun m_openFirst m_planHours m_readings' m_readCells m_readHours m_readCracked) A) args s 0 0 A) (F0 m 31 ls []) := by
  obtain ⟨hx, hb, hr, hml, hown, hts, hlk, hnw⟩ := id Cc
  intro k
  induction k with
  | zero =>
    intro m_sun m_wide m_deep m_hour m_kind m_wet m_readSun m_readWide m_readDeep m_readKind m_readWet m_readings x1 m_sun' m_wide' m_deep' m_hour' m_kind' m_wet' m_readings' hf
    rw [fX5_takeBay_31] at hf
    cases hf
  | succ k ih =>
    intro m_sun m_wide m_deep m_hour m_kind m_wet m_readSun m_readWide m_readDeep m_readKind m_readWet m_readings x1 m_sun' m_wide' m_deep' m_hour' m_kind' m_wet' m_readings' hf H locs ls hP hD hS hl
    rw [fX5_takeBay_31] at hf
    refine lv_iload_n hx hb dX5_takeBay_31 rfl (lv_at hl 1 rfl) ?_
    refine lv_aload_n hx hb dX5_takeBay_32 rfl (lv_at hl 0 rfl) ?_
    obtain ⟨q33_1, hq1, hf⟩ := Option.bind_eq_some_iff.mp hf
    refine cV (ws' := (W_m cI cS a_m a_m_sorts a_m_sheetLong a_m_cells a_m_kind a_m_wet a_m_readKind a_m_readWet a_m_keptWet a_m_readCells a_m_readHours a_m_readCracked m_fault m_trace m_sorts m_sheetLong m_cells m_sun m_wide m_deep m_hour m_kind m_wet m_at m_readSun m_readWide m_readDeep m_readKind m_readWet m_keptWet m_keptSun m_openFirst m_planHours m_readings m_readCells m_readHours m_readCracked)) (rest := [.int x1]) (st1 := [.int q33_1, .int x1]) Cc hK hA hP hD hS hl.1 (ctX5_cellsOf l D cI cS a_m a_m_sorts a_m_sheetLong a_m_cells a_m_kind a_m_wet a_m_readKind a_m_readWet a_m_keptWet a_m_readCells a_m_readHours a_m_readCracked m_fault m_trace m_sorts m_sheetLong m_cells m_sun m_wide m_deep m_hour m_kind m_wet m_at m_readSun m_readWide m_readDeep m_readKind m_readWet m_keptWet m_keptSun m_openFirst m_planHours m_readings m_readCells m_readHours m_readCracked  n q33_1 hq1) ⟨tw_619, tw_616, tw_618, tp_17, tw_6⟩ mdX5_cellsOf ⟨rfl, rfl, Nat.le_of_ble_eq_true rfl, Nat.le_of_ble_eq_true rfl⟩ rfl dX5_takeBay_33 rfl (Nat.le_of_ble_eq_true rfl) ⟨Nat.zero_le _, Nat.zero_le _⟩ rfl rfl rfl [0, 1, 2, 3, 4, 5, 6, 7, 8, 9, 10, 11] [] [0, 1, 2, 3, 4, 5, 6, 7, 8, 9, 10, 11] rfl rfl (by decide) rfl (fun H locs hP hD hS => ?_)
    refine lv_icmp_ge (tgt := 69) hx hb dX5_takeBay_36 (by decide) (fun hc2 => ?_) (fun hc2 => ?_)
    · replace hf := (if_pos hc2).symm.trans hf
      refine lv_aload_n hx hb dX5_takeBay_69 rfl (lv_at hl 0 rfl) ?_
      refine lv_iconst (v := (0 : Int32)) hx hb dX5_takeBay_70 (by decide) ?_
      refine va_put (D := D) (ci := 5) (v := .int (0 : Int32)) (ty := .int) (C := RX5) (T := TX5) (N := 25) hx hb hts inX5 tyX5 tyX5_ok nmX5 hown hK hP hD hS 0 rfl rfl 21 (by decide) (hts _ tw_524) (fun _ h9 => h9) rfl (tyX5_ok 21 (by decide)) rfl rfl (Nat.le_of_ble_eq_true rfl) dX5_takeBay_71 (fun H locs hP hD hS => ?_)
      have hP : va_P D classes (W_m cI cS a_m a_m_sorts a_m_sheetLong a_m_cells a_m_kind a_m_wet a_m_readKind a_m_readWet a_m_keptWet a_m_readCells a_m_readHours a_m_readCracked m_fault m_trace m_sorts m_sheetLong m_cells m_sun m_wide m_deep m_hour m_kind m_wet m_at m_readSun m_readWide m_readDeep m_readKind m_readWet m_keptWet m_keptSun m_openFirst m_planHours (0 : Int32) m_readCells m_readHours m_readCracked) H := hP
      have hD : va_D A (W_m cI cS a_m a_m_sorts a_m_sheetLong a_m_cells a_m_kind a_m_wet a_m_readKind a_m_readWet a_m_keptWet a_m_readCells a_m_readHours a_m_readCracked m_fault m_trace m_sorts m_sheetLong m_cells m_sun m_wide m_deep m_hour m_kind m_wet m_at m_readSun m_readWide m_readDeep m_readKind m_readWet m_keptWet m_keptSun m_openFirst m_planHours (0 : Int32) m_readCells m_readHours m_readCracked) := hD
      replace hf := Option.some.inj hf
      obtain ⟨er0, er1⟩ := Prod.mk.inj hf
      obtain ⟨er2, er3⟩ := Prod.mk.inj er1
      obtain ⟨er4, er5⟩ := Prod.mk.inj er3
      obtain ⟨er6, er7⟩ := Prod.mk.inj er5
      obtain ⟨er8, er9⟩ := Prod.mk.inj er7
      obtain ⟨er10, er11⟩ := Prod.mk.inj er9
      clear hf er1 er3 er5 er7 er9
      subst er0
      subst er2
      subst er4
      subst er6
      subst er8
      subst er10
      subst er11
      exact rt_v Cc hK hP hD hS dX5_takeBay_74
    · replace hf := (if_neg hc2).symm.trans hf
      refine lv_aload_n hx hb dX5_takeBay_39 rfl (lv_at hl 0 rfl) ?_
      refine va_get (D := D) (ci := 5) (v := .ref a_m_kind) (C := RX5) (T := TX5) (N := 25) hx hb hts inX5 hown hK hP 0 rfl rfl 9 (by decide) (hts _ tw_512) (fun _ h9 => h9) rfl dX5_takeBay_40 ?_
      refine lv_iload_n hx hb dX5_takeBay_43 rfl (lv_at hl 1 rfl) ?_
      refine lv_aload_n hx hb dX5_takeBay_44 rfl (lv_at hl 0 rfl) ?_
      refine va_get (D := D) (ci := 5) (v := .ref a_m_readKind) (C := RX5) (T := TX5) (N := 25) hx hb hts inX5 hown hK hP 0 rfl rfl 15 (by decide) (hts _ tw_518) (fun _ h9 => h9) rfl dX5_takeBay_45 ?_
      refine lv_iload_n hx hb dX5_takeBay_48 rfl (lv_at hl 1 rfl) ?_
      obtain ⟨hin, hf⟩ := gd_some hf
      refine va_iald hx hb hK hP 6 0 rfl rfl hin dX5_takeBay_49 ?_
      obtain ⟨hin, hf⟩ := gd_some hf
      refine va_iast hx hb hK hP hD hS 4 0 rfl rfl hin dX5_takeBay_50 (fun H locs hP hD hS => ?_)
      have hP : va_P D classes (W_m cI cS a_m a_m_sorts a_m_sheetLong a_m_cells a_m_kind a_m_wet a_m_readKind a_m_readWet a_m_keptWet a_m_readCells a_m_readHours a_m_readCracked m_fault m_trace m_sorts m_sheetLong m_cells m_sun m_wide m_deep m_hour (upd m_kind x1.toNatClampNeg (m_readKind x1.toNatClampNeg)) m_wet m_at m_readSun m_readWide m_readDeep m_readKind m_readWet m_keptWet m_keptSun m_openFirst m_planHours m_readings m_readCells m_readHours m_readCracked) H := hP
      have hD : va_D A (W_m cI cS a_m a_m_sorts a_m_sheetLong a_m_cells a_m_kind a_m_wet a_m_readKind a_m_readWet a_m_keptWet a_m_readCells a_m_readHours a_m_readCracked m_fault m_trace m_sorts m_sheetLong m_cells m_sun m_wide m_deep m_hour (upd m_kind x1.toNatClampNeg (m_readKind x1.toNatClampNeg)) m_wet m_at m_readSun m_readWide m_readDeep m_readKind m_readWet m_keptWet m_keptSun m_openFirst m_planHours m_readings m_readCells m_readHours m_readCracked) := hD
      refine lv_aload_n hx hb dX5_takeBay_51 rfl (lv_at hl 0 rfl) ?_
      refine va_get (D := D) (ci := 5) (v := .ref a_m_wet) (C := RX5) (T := TX5) (N := 25) hx hb hts inX5 hown hK hP 0 rfl rfl 10 (by decide) (hts _ tw_513) (fun _ h9 => h9) rfl dX5_takeBay_52 ?_
      refine lv_iload_n hx hb dX5_takeBay_55 rfl (lv_at hl 1 rfl) ?_
      refine lv_aload_n hx hb dX5_takeBay_56 rfl (lv_at hl 0 rfl) ?_
      refine va_get (D := D) (ci := 5) (v := .ref a_m_readWet) (C := RX5) (T := TX5) (N := 25) hx hb hts inX5 hown hK hP 0 rfl rfl 16 (by decide) (hts _ tw_519) (fun _ h9 => h9) rfl dX5_takeBay_57 ?_
      refine lv_iload_n hx hb dX5_takeBay_60 rfl (lv_at hl 1 rfl) ?_
      obtain ⟨hin, hf⟩ := gd_some hf
      refine va_iald hx hb hK hP 7 0 rfl rfl hin dX5_takeBay_61 ?_
      obtain ⟨hin, hf⟩ := gd_some hf
      refine va_iast hx hb hK hP hD hS 5 0 rfl rfl hin dX5_takeBay_62 (fun H locs hP hD hS => ?_)
      have hP : va_P D classes (W_m cI cS a_m a_m_sorts a_m_sheetLong a_m_cells a_m_kind a_m_wet a_m_readKind a_m_readWet a_m_keptWet a_m_readCells a_m_readHours a_m_readCracked m_fault m_trace m_sorts m_sheetLong m_cells m_sun m_wide m_deep m_hour (upd m_kind x1.toNatClampNeg (m_readKind x1.toNatClampNeg)) (upd m_wet x1.toNatClampNeg (m_readWet x1.toNatClampNeg)) m_at m_readSun m_readWide m_readDeep m_readKind m_readWet m_keptWet m_keptSun m_openFirst m_planHours m_readings m_readCells m_readHours m_readCracked) H := hP
      have hD : va_D A (W_m cI cS a_m a_m_sorts a_m_sheetLong a_m_cells a_m_kind a_m_wet a_m_readKind a_m_readWet a_m_keptWet a_m_readCells a_m_readHours a_m_readCracked m_fault m_trace m_sorts m_sheetLong m_cells m_sun m_wide m_deep m_hour (upd m_kind x1.toNatClampNeg (m_readKind x1.toNatClampNeg)) (upd m_wet x1.toNatClampNeg (m_readWet x1.toNatClampNeg)) m_at m_readSun m_readWide m_readDeep m_readKind m_readWet m_keptWet m_keptSun m_openFirst m_planHours m_readings m_readCells m_readHours m_readCracked) := hD
      refine lv_iinc (v := (x1 + 1)) (lv' := [(1, .int (x1 + 1)), (0, .ref a_m)]) hx hb dX5_takeBay_63 hl (k := 1) rfl rfl (by decide) rfl (fun ls hl => ?_)
      refine lv_goto (tgt := 31) hx hb dX5_takeBay_66 (by decide) ?_
      exact ih _ _ _ _ _ _ _ _ _ _ _ _ _ _ _ _ _ _ _ _ hf _ _ _ hP hD hS (lv_sub hl [1, 0] rfl)
set_option maxHeartbeats 4000000 in
set_option maxRecDepth 100000 in
theorem ctX5_takeBay (l : Launch) (D : va_G) (cI cS : ClassId) (a_m a_m_sorts a_m_sheetLong a_m_cells a_m_kind a_m_wet a_m_readKind a_m_readWet a_m_keptWet a_m_readCells a_m_readHours a_m_readCracked : Nat) (m_fault : Int32) (m_trace : Int32) (m_sorts : Nat → Int32) (m_sheetLong : Nat → Int32) (m_cells : Nat → Int32) (m_sun : Int32) (m_wide : Int32) (m_deep : Int32) (m_hour : Int32) (m_kind : Nat → Int32) (m_wet : Nat → Int32) (m_at : Int32) (m_readSun : Int32) (m_readWide : Int32) (m_readDeep : Int32) (m_readKind : Nat → Int32) (m_readWet : Nat → Int32) (m_keptWet : Nat → Int32) (m_keptSun : Int32) (m_openFirst : Int32) (m_planHours : Int32) (m_readings : Int32) (m_readCells : Nat → Int32) (m_readHours : Nat → Int32) (m_readCracked : Nat → Int32)  (n : Nat) (m_sun' : Int32) (m_wide' : Int32) (m_deep' : Int32) (m_hour' : Int32) (m_kind' : Nat → Int32) (m_wet' : Nat → Int32) (m_readings' : Int32) (hf : fX5_takeBay n m_sun m_wide m_deep m_hour m_kind m_wet m_readSun m_readWide m_readDeep m_readKind m_readWet m_readings  = some (m_sun', m_wide', m_deep', m_hour', m_kind', m_wet', m_readings')) : Ct l D (tysA cI cS) yX5_takeBay cX5_takeBay 2 none (Rm 1) [.ref a_m] (W_m cI cS a_m a_m_sorts a_m_sheetLong a_m_cells a_m_kind a_m_wet a_m_readKind a_m_readWet a_m_keptWet a_m_readCells a_m_readHours a_m_readCracked m_fault m_trace m_sorts m_sheetLong m_cells m_sun m_wide m_deep m_hour m_kind m_wet m_at m_readSun m_readWide m_readDeep m_readKind m_readWet m_keptWet m_keptSun m_openFirst m_planHours m_readings m_readCells m_readHours m_readCracked) none (W_m cI cS a_m a_m_sorts a_m_sheetLong a_m_cells a_m_kind a_m_wet a_m_readKind a_m_readWet a_m_keptWet a_m_readCells a_m_readHours a_m_readCracked m_fault m_trace m_sorts m_sheetLong m_cells m_sun' m_wide' m_deep' m_hour' m_kind' m_wet' m_at m_readSun m_readWide m_readDeep m_readKind m_readWet m_keptWet m_keptSun m_openFirst m_planHours m_readings' m_readCells m_readHours m_readCracked) := by
  refine Ct_of (by decide) (Nat.le_of_ble_eq_true rfl) ?_
  intro p e s m args below meth c A ls Cc hK hA hP hD hS hl
  have hl : lv_has ls 2 [(0, .ref a_m)] := hl
  obtain ⟨hx, hb, hr, hml, hown, hts, hlk, hnw⟩ := id Cc
  unfold fX5_takeBay at hf
  refine lv_aload_n hx hb dX5_takeBay_0 rfl (lv_at hl 0 rfl) ?_
  refine lv_aload_n hx hb dX5_takeBay_1 rfl (lv_at hl 0 rfl) ?_
  refine va_get (D := D) (ci := 5) (v := .int m_readSun) (C := RX5) (T := TX5) (N := 25) hx hb hts inX5 hown hK hP 0 rfl rfl 12 (by decide) (hts _ tw_515) (fun _ h9 => h9) rfl dX5_takeBay_2 ?_
  refine va_put (D := D) (ci := 5) (v := .int m_readSun) (ty := .int) (C := RX5) (T := TX5) (N := 25) hx hb hts inX5 tyX5 tyX5_ok nmX5 hown hK hP hD hS 0 rfl rfl 5 (by decide) (hts _ tw_508) (fun _ h9 => h9) rfl (tyX5_ok 5 (by decide)) rfl rfl (Nat.le_of_ble_eq_true rfl) dX5_takeBay_5 (fun H locs hP hD hS => ?_)
  have hP : va_P D classes (W_m cI cS a_m a_m_sorts a_m_sheetLong a_m_cells a_m_kind a_m_wet a_m_readKind a_m_readWet a_m_keptWet a_m_readCells a_m_readHours a_m_readCracked m_fault m_trace m_sorts m_sheetLong m_cells m_readSun m_wide m_deep m_hour m_kind m_wet m_at m_readSun m_readWide m_readDeep m_readKind m_readWet m_keptWet m_keptSun m_openFirst m_planHours m_readings m_readCells m_readHours m_readCracked) H := hP
  have hD : va_D A (W_m cI cS a_m a_m_sorts a_m_sheetLong a_m_cells a_m_kind a_m_wet a_m_readKind a_m_readWet a_m_keptWet a_m_readCells a_m_readHours a_m_readCracked m_fault m_trace m_sorts m_sheetLong m_cells m_readSun m_wide m_deep m_hour m_kind m_wet m_at m_readSun m_readWide m_readDeep m_readKind m_readWet m_keptWet m_keptSun m_openFirst m_planHours m_readings m_readCells m_readHours m_readCracked) := hD
  refine lv_aload_n hx hb dX5_takeBay_8 rfl (lv_at hl 0 rfl) ?_
  refine lv_aload_n hx hb dX5_takeBay_9 rfl (lv_at hl 0 rfl) ?_
  refine va_get (D := D) (ci := 5) (v := .int m_readWide) (C := RX5) (T := TX5) (N := 25) hx hb hts inX5 hown hK hP 0 rfl rfl 13 (by decide) (hts _ tw_516) (fun _ h9 => h9) rfl dX5_takeBay_10 ?_
  refine va_put (D := D) (ci := 5) (v := .int m_readWide) (ty := .int) (C := RX5) (T := TX5) (N := 25) hx hb hts inX5 tyX5 tyX5_ok nmX5 hown hK hP hD hS 0 rfl rfl 6 (by decide) (hts _ tw_509) (fun _ h9 => h9) rfl (tyX5_ok 6 (by decide)) rfl rfl (Nat.le_of_ble_eq_true rfl) dX5_takeBay_13 (fun H locs hP hD hS => ?_)
  have hP : va_P D classes (W_m cI cS a_m a_m_sorts a_m_sheetLong a_m_cells a_m_kind a_m_wet a_m_readKind a_m_readWet a_m_keptWet a_m_readCells a_m_readHours a_m_readCracked m_fault m_trace m_sorts m_sheetLong m_cells m_readSun m_readWide m_deep m_hour m_kind m_wet m_at m_readSun m_readWide m_readDeep m_readKind m_readWet m_keptWet m_keptSun m_openFirst m_planHours m_readings m_readCells m_readHours m_readCracked) H := hP
  have hD : va_D A (W_m cI cS a_m a_m_sorts a_m_sheetLong a_m_cells a_m_kind a_m_wet a_m_readKind a_m_readWet a_m_keptWet a_m_readCells a_m_readHours a_m_readCracked m_fault m_trace m_sorts m_sheetLong m_cells m_readSun m_readWide m_deep m_hour m_kind m_wet m_at m_readSun m_readWide m_readDeep m_readKind m_readWet m_keptWet m_keptSun m_openFirst m_planHours m_readings m_readCells m_readHours m_readCracked) := hD
  refine lv_aload_n hx hb dX5_takeBay_16 rfl (lv_at hl 0 rfl) ?_
  refine lv_aload_n hx hb dX5_takeBay_17 rfl (lv_at hl 0 rfl) ?_
  refine va_get (D := D) (ci := 5) (v := .int m_readDeep) (C := RX5) (T := TX5) (N := 25) hx hb hts inX5 hown hK hP 0 rfl rfl 14 (by decide) (hts _ tw_517) (fun _ h9 => h9) rfl dX5_takeBay_18 ?_
  refine va_put (D := D) (ci := 5) (v := .int m_readDeep) (ty := .int) (C := RX5) (T := TX5) (N := 25) hx hb hts inX5 tyX5 tyX5_ok nmX5 hown hK hP hD hS 0 rfl rfl 7 (by decide) (hts _ tw_510) (fun _ h9 => h9) rfl (tyX5_ok 7 (by decide)) rfl rfl (Nat.le_of_ble_eq_true rfl) dX5_takeBay_21 (fun H locs hP hD hS => ?_)
  have hP : va_P D classes (W_m cI cS a_m a_m_sorts a_m_sheetLong a_m_cells a_m_kind a_m_wet a_m_readKind a_m_readWet a_m_keptWet a_m_readCells a_m_readHours a_m_readCracked m_fault m_trace m_sorts m_sheetLong m_cells m_readSun m_readWide m_readDeep m_hour m_kind m_wet m_at m_readSun m_readWide m_readDeep m_readKind m_readWet m_keptWet m_keptSun m_openFirst m_planHours m_readings m_readCells m_readHours m_readCracked) H := hP
  have hD : va_D A (W_m cI cS a_m a_m_sorts a_m_sheetLong a_m_cells a_m_kind a_m_wet a_m_readKind a_m_readWet a_m_keptWet a_m_readCells a_m_readHours a_m_readCracked m_fault m_trace m_sorts m_sheetLong m_cells m_readSun m_readWide m_readDeep m_hour m_kind m_wet m_at m_readSun m_readWide m_readDeep m_readKind m_readWet m_keptWet m_keptSun m_openFirst m_planHours m_readings m_readCells m_readHours m_readCracked) := hD
  refine lv_aload_n hx hb dX5_takeBay_24 rfl (lv_at hl 0 rfl) ?_
  refine lv_iconst (v := (0 : Int32)) hx hb dX5_takeBay_25 (by decide) ?_
  refine va_put (D := D) (ci := 5) (v := .int (0 : Int32)) (ty := .int) (C := RX5) (T := TX5) (N := 25) hx hb hts inX5 tyX5 tyX5_ok nmX5 hown hK hP hD hS 0 rfl rfl 8 (by decide) (hts _ tw_511) (fun _ h9 => h9) rfl (tyX5_ok 8 (by decide)) rfl rfl (Nat.le_of_ble_eq_true rfl) dX5_takeBay_26 (fun H locs hP hD hS => ?_)
  have hP : va_P D classes (W_m cI cS a_m a_m_sorts a_m_sheetLong a_m_cells a_m_kind a_m_wet a_m_readKind a_m_readWet a_m_keptWet a_m_readCells a_m_readHours a_m_readCracked m_fault m_trace m_sorts m_sheetLong m_cells m_readSun m_readWide m_readDeep (0 : Int32) m_kind m_wet m_at m_readSun m_readWide m_readDeep m_readKind m_readWet m_keptWet m_keptSun m_openFirst m_planHours m_readings m_readCells m_readHours m_readCracked) H := hP
  have hD : va_D A (W_m cI cS a_m a_m_sorts a_m_sheetLong a_m_cells a_m_kind a_m_wet a_m_readKind a_m_readWet a_m_keptWet a_m_readCells a_m_readHours a_m_readCracked m_fault m_trace m_sorts m_sheetLong m_cells m_readSun m_readWide m_readDeep (0 : Int32) m_kind m_wet m_at m_readSun m_readWide m_readDeep m_readKind m_readWet m_keptWet m_keptSun m_openFirst m_planHours m_readings m_readCells m_readHours m_readCracked) := hD
  refine lv_iconst (v := (0 : Int32)) hx hb dX5_takeBay_29 (by decide) ?_
  refine lv_istore_n (lv' := [(1, .int (0 : Int32)), (0, .ref a_m)]) hx hb dX5_takeBay_30 rfl hl (by decide) rfl (fun ls hl => ?_)
  exact bX5_takeBay_31 a_m a_m_sorts a_m_sheetLong a_m_cells a_m_kind a_m_wet a_m_readKind a_m_readWet a_m_keptWet a_m_readCells a_m_readHours a_m_readCracked m_fault m_trace m_sorts m_sheetLong m_cells m_at m_keptWet m_keptSun m_openFirst m_planHours m_readCells m_readHours m_readCracked Cc hK hA n n _ _ _ _ _ _ _ _ _ _ _ _ _ _ _ _ _ _ _ _ hf _ _ _ hP hD hS (lv_sub hl [1, 0] rfl)
-- X5_bay
def fX5_bay (n : Nat) (m_fault : Int32) (m_sorts : Nat → Int32) (m_sheetLong : Nat → Int32) (m_cells : Nat → Int32) (m_sun : Int32) (m_wide : Int32) (m_deep : Int32) (m_hour : Int32) (m_kind : Nat → Int32) (m_wet : Nat → Int32) (m_at : Int32) (m_readSun : Int32) (m_readWide : Int32) (m_readDeep : Int32) (m_readKind : Nat → Int32) (m_readWet : Nat → Int32) (m_readings : Int32) (p1 : Int32) (p2 : Int32) (p3 : Int32) (p4 : Int32) : Option (Int32 × Int32 × Int32 × Int32 × Int32 × Int32 × (Nat → Int32) × (Nat → Int32) × Int32 × Int32 × Int32 × Int32 × (Nat → Int32) × (Nat → Int32) × Int32) := (fX5_isSheet n p1).bind fun q6_1 => if q6_1 = 0 then some ((-1 : Int32), (0 : Int32), m_sun, m_wide, m_deep, m_hour, m_kind, m_wet, m_at, m_readSun, m_readWide, m_readDeep, m_readKind, m_readWet, m_readings) else (fX5_isSort n p2).bind fun q15_1 => if q15_1 = 0 then some ((-2 : Int32), (0 : Int32), m_sun, m_wide, m_deep, m_hour, m_kind, m_wet, m_at, m_readSun, m_readWide, m_readDeep, m_readKind, m_readWet, m_readings) else (fX5_against n m_sorts m_sheetLong p1 p2 p3 p4).bind fun q30_1 => if q30_1 = 0 then (fX5_readBay n m_cells (((60 : Int32) * p1) + p3) m_readSun m_readWide m_readDeep m_readKind m_readWet ((((60 : Int32) * p1) + p3) + p4)).bind fun q67_1 => if q67_1.1 = 0 then some (((-100 : Int32) - (q67_1.2.1 - (((60 : Int32) * p1) + p3))), (0 : Int32), m_sun, m_wide, m_deep, m_hour, m_kind, m_wet, q67_1.2.1, q67_1.2.2.1, q67_1.2.2.2.1, q67_1.2.2.2.2.1, q67_1.2.2.2.2.2.1, q67_1.2.2.2.2.2.2, m_readings) else (fX5_takeBay n m_sun m_wide m_deep m_hour m_kind m_wet q67_1.2.2.1 q67_1.2.2.2.1 q67_1.2.2.2.2.1 q67_1.2.2.2.2.2.1 q67_1.2.2.2.2.2.2 m_readings).bind fun q85_1 => (fX5_cellsOf n q85_1.2.1 q85_1.2.2.1).bind fun q89_2 => some (q89_2, (0 : Int32), q85_1.1, q85_1.2.1, q85_1.2.2.1, q85_1.2.2.2.1, q85_1.2.2.2.2.1, q85_1.2.2.2.2.2.1, q67_1.2.1, q67_1.2.2.1, q67_1.2.2.2.1, q67_1.2.2.2.2.1, q67_1.2.2.2.2.2.1, q67_1.2.2.2.2.2.2, q85_1.2.2.2.2.2.2) else (fX5_fails n (0 : Int32) q30_1).bind fun q43_1 => some (q43_1.1, q43_1.2, m_sun, m_wide, m_deep, m_hour, m_kind, m_wet, m_at, m_readSun, m_readWide, m_readDeep, m_readKind, m_readWet, m_readings)
theorem mdX5_bay : yX5_bay.cls = RX5 ∧ yX5_bay.cls ≠ "java/lang/invoke/MethodHandle" ∧ yX5_bay.cls ≠ "java/lang/invoke/VarHandle" ∧ (parseMethodDescriptor yX5_bay.desc).map (fun d => d.parameters.length) = some 4 := by decide +kernel
set_option maxHeartbeats 4000000 in
set_option maxRecDepth 100000 in
theorem ctX5_bay (l : Launch) (D : va_G) (cI cS : ClassId) (a_m a_m_sorts a_m_sheetLong a_m_cells a_m_kind a_m_wet a_m_readKind a_m_readWet a_m_keptWet a_m_readCells a_m_readHours a_m_readCracked : Nat) (m_fault : Int32) (m_trace : Int32) (m_sorts : Nat → Int32) (m_sheetLong : Nat → Int32) (m_cells : Nat → Int32) (m_sun : Int32) (m_wide : Int32) (m_deep : Int32) (m_hour : Int32) (m_kind : Nat → Int32) (m_wet : Nat → Int32) (m_at : Int32) (m_readSun : Int32) (m_readWide : Int32) (m_readDeep : Int32) (m_readKind : Nat → Int32) (m_readWet : Nat → Int32) (m_keptWet : Nat → Int32) (m_keptSun : Int32) (m_openFirst : Int32) (m_planHours : Int32) (m_readings : Int32) (m_readCells : Nat → Int32) (m_readHours : Nat → Int32) (m_readCracked : Nat → Int32) (p1 : Int32) (p2 : Int32) (p3 : Int32) (p4 : Int32) (n : Nat) (r : Int32) (m_fault' : Int32) (m_sun' : Int32) (m_wide' : Int32) (m_deep' : Int32) (m_hour' : Int32) (m_kind' : Nat → Int32) (m_wet' : Nat → Int32) (m_at' : Int32) (m_readSun' : Int32) (m_readWide' : Int32) (m_readDeep' : Int32) (m_readKind' : Nat → Int32) (m_readWet' : Nat → Int32) (m_readings' : Int32) (hf : fX5_bay n m_fault m_sorts m_sheetLong m_cells m_sun m_wide m_deep m_hour m_kind m_wet m_at m_readSun m_readWide m_readDeep m_readKind m_readWet m_readings p1 p2 p3 p4 = some (r, m_fault', m_sun', m_wide', m_deep', m_hour', m_kind', m_wet', m_at', m_readSun', m_readWide', m_readDeep', m_readKind', m_readWet', m_readings')) : Ct l D (tysA cI cS) yX5_bay cX5_bay 7 (some .int) (Rm 4) [.ref a_m, .int p1, .int p2, .int p3, .int p4] (W_m cI cS a_m a_m_sorts a_m_sheetLong a_m_cells a_m_kind a_m_wet a_m_readKind a_m_readWet a_m_keptWet a_m_readCells a_m_readHours a_m_readCracked m_fault m_trace m_sorts m_sheetLong m_cells m_sun m_wide m_deep m_hour m_kind m_wet m_at m_readSun m_readWide m_readDeep m_readKind m_readWet m_keptWet m_keptSun m_openFirst m_planHours m_readings m_readCells m_readHours m_readCracked) (some (.int r)) (W_m cI cS a_m a_m_sorts a_m_sheetLong a_m_cells a_m_kind a_m_wet a_m_readKind a_m_readWet a_m_keptWet a_m_readCells a_m_readHours a_m_readCracked m_fault' m_trace m_sorts m_sheetLong m_cells m_sun' m_wide' m_deep' m_hour' m_kind' m_wet' m_at' m_readSun' m_readWide' m_readDeep' m_readKind' m_readWet' m_keptWet m_keptSun m_openFirst m_planHours m_readings' m_readCells m_readHours m_readCracked) := by
  refine Ct_of (by decide) (Nat.le_of_ble_eq_true rfl) ?_
  intro p e s m args below meth c A ls Cc hK hA hP hD hS hl
  have hl : lv_has ls 7 [(0, .ref a_m), (1, .int p1), (2, .int p2), (3, .int p3), (4, .int p4)] := hl
  obtain ⟨hx, hb, hr, hml, hown, hts, hlk, hnw⟩ := id Cc
  unfold fX5_bay at hf
  refine lv_aload_n hx hb dX5_bay_0 rfl (lv_at hl 0 rfl) ?_
  refine lv_iconst (v := (0 : Int32)) hx hb dX5_bay_1 (by decide) ?_
  refine va_put (D := D) (ci := 5) (v := .int (0 : Int32)) (ty := .int) (C := RX5) (T := TX5) (N := 25) hx hb hts inX5 tyX5 tyX5_ok nmX5 hown hK hP hD hS 0 rfl rfl 0 (by decide) (hts _ tw_503) (fun _ h9 => h9) rfl (tyX5_ok 0 (by decide)) rfl rfl (Nat.le_of_ble_eq_true rfl) dX5_bay_2 (fun H locs hP hD hS => ?_)
  have hP : va_P D classes (W_m cI cS a_m a_m_sorts a_m_sheetLong a_m_cells a_m_kind a_m_wet a_m_readKind a_m_readWet a_m_keptWet a_m_readCells a_m_readHours a_m_readCracked (0 : Int32) m_trace m_sorts m_sheetLong m_cells m_sun m_wide m_deep m_hour m_kind m_wet m_at m_readSun m_readWide m_readDeep m_readKind m_readWet m_keptWet m_keptSun m_openFirst m_planHours m_readings m_readCells m_readHours m_readCracked) H := hP
  have hD : va_D A (W_m cI cS a_m a_m_sorts a_m_sheetLong a_m_cells a_m_kind a_m_wet a_m_readKind a_m_readWet a_m_keptWet a_m_readCells a_m_readHours a_m_readCracked (0 : Int32) m_trace m_sorts m_sheetLong m_cells m_sun m_wide m_deep m_hour m_kind m_wet m_at m_readSun m_readWide m_readDeep m_readKind m_readWet m_keptWet m_keptSun m_openFirst m_planHours m_readings m_readCells m_readHours m_readCracked) := hD
  refine lv_iload_n hx hb dX5_bay_5 rfl (lv_at hl 1 rfl) ?_
  obtain ⟨q6_1, hq1, hf⟩ := Option.bind_eq_some_iff.mp hf
  refine cSt (ws' := (W_m cI cS a_m a_m_sorts a_m_sheetLong a_m_cells a_m_kind a_m_wet a_m_readKind a_m_readWet a_m_keptWet a_m_readCells a_m_readHours a_m_readCracked (0 : Int32) m_trace m_sorts m_sheetLong m_cells m_sun m_wide m_deep m_hour m_kind m_wet m_at m_readSun m_readWide m_readDeep m_readKind m_readWet m_keptWet m_keptSun m_openFirst m_planHours m_readings m_readCells m_readHours m_readCracked)) (rest := []) (st1 := [.int q6_1]) Cc hK hA hP hD hS hl.1 (ctX5_isSheet l D cI cS   p1 n q6_1 hq1) ⟨tw_585, tw_583, tw_584, tw_6⟩ mdX5_isSheet ⟨rfl, rfl, Nat.le_of_ble_eq_true rfl, Nat.le_of_ble_eq_true rfl⟩ rfl dX5_bay_6 rfl (Nat.le_of_ble_eq_true rfl) ⟨Nat.zero_le _, Nat.zero_le _⟩ rfl [] [0, 1, 2, 3, 4, 5, 6, 7, 8, 9, 10, 11] [0, 1, 2, 3, 4, 5, 6, 7, 8, 9, 10, 11] rfl rfl (by decide) rfl (fun H locs hP hD hS => ?_)
  refine lv_if_ne (tgt := 14) hx hb dX5_bay_9 (by decide) (fun hc2 => ?_) (fun hc2 => ?_)
  · replace hf := (if_neg hc2).symm.trans hf
    refine lv_iload_n hx hb dX5_bay_14 rfl (lv_at hl 2 rfl) ?_
    obtain ⟨q15_1, hq3, hf⟩ := Option.bind_eq_some_iff.mp hf
    refine cSt (ws' := (W_m cI cS a_m a_m_sorts a_m_sheetLong a_m_cells a_m_kind a_m_wet a_m_readKind a_m_readWet a_m_keptWet a_m_readCells a_m_readHours a_m_readCracked (0 : Int32) m_trace m_sorts m_sheetLong m_cells m_sun m_wide m_deep m_hour m_kind m_wet m_at m_readSun m_readWide m_readDeep m_readKind m_readWet m_keptWet m_keptSun m_openFirst m_planHours m_readings m_readCells m_readHours m_readCracked)) (rest := []) (st1 := [.int q15_1]) Cc hK hA hP hD hS hl.1 (ctX5_isSort l D cI cS   p2 n q15_1 hq3) ⟨tw_591, tw_589, tw_590, tw_6⟩ mdX5_isSort ⟨rfl, rfl, Nat.le_of_ble_eq_true rfl, Nat.le_of_ble_eq_true rfl⟩ rfl dX5_bay_15 rfl (Nat.le_of_ble_eq_true rfl) ⟨Nat.zero_le _, Nat.zero_le _⟩ rfl [] [0, 1, 2, 3, 4, 5, 6, 7, 8, 9, 10, 11] [0, 1, 2, 3, 4, 5, 6, 7, 8, 9, 10, 11] rfl rfl (by decide) rfl (fun H locs hP hD hS => ?_)
    refine lv_if_ne (tgt := 24) hx hb dX5_bay_18 (by decide) (fun hc4 => ?_) (fun hc4 => ?_)
    · replace hf := (if_neg hc4).symm.trans hf
      refine lv_aload_n hx hb dX5_bay_24 rfl (lv_at hl 0 rfl) ?_
      refine lv_iload_n hx hb dX5_bay_25 rfl (lv_at hl 1 rfl) ?_
      refine lv_iload_n hx hb dX5_bay_26 rfl (lv_at hl 2 rfl) ?_
      refine lv_iload_n hx hb dX5_bay_27 rfl (lv_at hl 3 rfl) ?_
      refine lv_iload hx hb dX5_bay_28 (lv_at hl 4 rfl) ?_
      obtain ⟨q30_1, hq5, hf⟩ := Option.bind_eq_some_iff.mp hf
      refine cV (ws' := (W_m cI cS a_m a_m_sorts a_m_sheetLong a_m_cells a_m_kind a_m_wet a_m_readKind a_m_readWet a_m_keptWet a_m_readCells a_m_readHours a_m_readCracked (0 : Int32) m_trace m_sorts m_sheetLong m_cells m_sun m_wide m_deep m_hour m_kind m_wet m_at m_readSun m_readWide m_readDeep m_readKind m_readWet m_keptWet m_keptSun m_openFirst m_planHours m_readings m_readCells m_readHours m_readCracked)) (rest := []) (st1 := [.int q30_1]) Cc hK hA hP hD hS hl.1 (ctX5_against l D cI cS a_m a_m_sorts a_m_sheetLong a_m_cells a_m_kind a_m_wet a_m_readKind a_m_readWet a_m_keptWet a_m_readCells a_m_readHours a_m_readCracked (0 : Int32) m_trace m_sorts m_sheetLong m_cells m_sun m_wide m_deep m_hour m_kind m_wet m_at m_readSun m_readWide m_readDeep m_readKind m_readWet m_keptWet m_keptSun m_openFirst m_planHours m_readings m_readCells m_readHours m_readCracked p1 p2 p3 p4 n q30_1 hq5) ⟨tw_595, tw_592, tw_594, tp_11, tw_6⟩ mdX5_against ⟨rfl, rfl, Nat.le_of_ble_eq_true rfl, Nat.le_of_ble_eq_true rfl⟩ rfl dX5_bay_30 rfl (Nat.le_of_ble_eq_true rfl) ⟨Nat.zero_le _, Nat.zero_le _⟩ rfl rfl rfl [0, 1, 2, 3, 4, 5, 6, 7, 8, 9, 10, 11] [] [0, 1, 2, 3, 4, 5, 6, 7, 8, 9, 10, 11] rfl rfl (by decide) rfl (fun H locs hP hD hS => ?_)
      refine lv_istore (lv' := [(5, .int q30_1), (0, .ref a_m), (1, .int p1), (2, .int p2), (3, .int p3), (4, .int p4)]) hx hb dX5_bay_33 hl (by decide) rfl (fun ls hl => ?_)
      refine lv_iload hx hb dX5_bay_35 (lv_at hl 0 rfl) ?_
      refine lv_if_eq (tgt := 47) hx hb dX5_bay_37 (by decide) (fun hc6 => ?_) (fun hc6 => ?_)
      · replace hf := (if_pos hc6).symm.trans hf
        refine lv_bipush (v := (60 : Int32)) hx hb dX5_bay_47 (by decide) ?_
        refine lv_iload_n hx hb dX5_bay_49 rfl (lv_at hl 2 rfl) ?_
        refine lv_imul hx hb dX5_bay_50 ?_
        refine lv_iload_n hx hb dX5_bay_51 rfl (lv_at hl 4 rfl) ?_
        refine lv_iadd hx hb dX5_bay_52 ?_
        refine lv_istore (lv' := [(6, .int (((60 : Int32) * p1) + p3)), (5, .int q30_1), (0, .ref a_m), (1, .int p1), (2, .int p2), (3, .int p3), (4, .int p4)]) hx hb dX5_bay_53 hl (by decide) rfl (fun ls hl => ?_)
        refine lv_aload_n hx hb dX5_bay_55 rfl (lv_at hl 2 rfl) ?_
        refine lv_iload hx hb dX5_bay_56 (lv_at hl 0 rfl) ?_
        refine va_put (D := D) (ci := 5) (v := .int (((60 : Int32) * p1) + p3)) (ty := .int) (C := RX5) (T := TX5) (N := 25) hx hb hts inX5 tyX5 tyX5_ok nmX5 hown hK hP hD hS 0 rfl rfl 11 (by decide) (hts _ tw_514) (fun _ h9 => h9) rfl (tyX5_ok 11 (by decide)) rfl rfl (Nat.le_of_ble_eq_true rfl) dX5_bay_58 (fun H locs hP hD hS => ?_)
        have hP : va_P D classes (W_m cI cS a_m a_m_sorts a_m_sheetLong a_m_cells a_m_kind a_m_wet a_m_readKind a_m_readWet a_m_keptWet a_m_readCells a_m_readHours a_m_readCracked (0 : Int32) m_trace m_sorts m_sheetLong m_cells m_sun m_wide m_deep m_hour m_kind m_wet (((60 : Int32) * p1) + p3) m_readSun m_readWide m_readDeep m_readKind m_readWet m_keptWet m_keptSun m_openFirst m_planHours m_readings m_readCells m_readHours m_readCracked) H := hP
        have hD : va_D A (W_m cI cS a_m a_m_sorts a_m_sheetLong a_m_cells a_m_kind a_m_wet a_m_readKind a_m_readWet a_m_keptWet a_m_readCells a_m_readHours a_m_readCracked (0 : Int32) m_trace m_sorts m_sheetLong m_cells m_sun m_wide m_deep m_hour m_kind m_wet (((60 : Int32) * p1) + p3) m_readSun m_readWide m_readDeep m_readKind m_readWet m_keptWet m_keptSun m_openFirst m_planHours m_readings m_readCells m_readHours m_readCracked) := hD
        refine lv_aload_n hx hb dX5_bay_61 rfl (lv_at hl 2 rfl) ?_
        refine lv_iload hx hb dX5_bay_62 (lv_at hl 0 rfl) ?_
        refine lv_iload hx hb dX5_bay_64 (lv_at hl 6 rfl) ?_
        refine lv_iadd hx hb dX5_bay_66 ?_
        obtain ⟨q67_1, hq7, hf⟩ := Option.bind_eq_some_iff.mp hf
        refine cV (ws' := (W_m cI cS a_m a_m_sorts a_m_sheetLong a_m_cells a_m_kind a_m_wet a_m_readKind a_m_readWet a_m_keptWet a_m_readCells a_m_readHours a_m_readCracked (0 : Int32) m_trace m_sorts m_sheetLong m_cells m_sun m_wide m_deep m_hour m_kind m_wet q67_1.2.1 q67_1.2.2.1 q67_1.2.2.2.1 q67_1.2.2.2.2.1 q67_1.2.2.2.2.2.1 q67_1.2.2.2.2.2.2 m_keptWet m_keptSun m_openFirst m_planHours m_readings m_readCells m_readHours m_readCracked)) (rest := []) (st1 := [.int q67_1.1]) Cc hK hA hP hD hS hl.1 (ctX5_readBay l D cI cS a_m a_m_sorts a_m_sheetLong a_m_cells a_m_kind a_m_wet a_m_readKind a_m_readWet a_m_keptWet a_m_readCells a_m_readHours a_m_readCracked (0 : Int32) m_trace m_sorts m_sheetLong m_cells m_sun m_wide m_deep m_hour m_kind m_wet (((60 : Int32) * p1) + p3) m_readSun m_readWide m_readDeep m_readKind m_readWet m_keptWet m_keptSun m_openFirst m_planHours m_readings m_readCells m_readHours m_readCracked ((((60 : Int32) * p1) + p3) + p4) n q67_1.1 q67_1.2.1 q67_1.2.2.1 q67_1.2.2.2.1 q67_1.2.2.2.2.1 q67_1.2.2.2.2.2.1 q67_1.2.2.2.2.2.2 hq7) ⟨tw_603, tw_600, tw_602, tp_13, tw_6⟩ mdX5_readBay ⟨rfl, rfl, Nat.le_of_ble_eq_true rfl, Nat.le_of_ble_eq_true rfl⟩ rfl dX5_bay_67 rfl (Nat.le_of_ble_eq_true rfl) ⟨Nat.zero_le _, Nat.zero_le _⟩ rfl rfl rfl [0, 1, 2, 3, 4, 5, 6, 7, 8, 9, 10, 11] [] [0, 1, 2, 3, 4, 5, 6, 7, 8, 9, 10, 11] rfl rfl (by decide) rfl (fun H locs hP hD hS => ?_)
        refine lv_if_ne (tgt := 84) hx hb dX5_bay_70 (by decide) (fun hc8 => ?_) (fun hc8 => ?_)
        · replace hf := (if_neg hc8).symm.trans hf
          refine lv_aload_n hx hb dX5_bay_84 rfl (lv_at hl 2 rfl) ?_
          obtain ⟨q85_1, hq9, hf⟩ := Option.bind_eq_some_iff.mp hf
          refine cV (ws' := (W_m cI cS a_m a_m_sorts a_m_sheetLong a_m_cells a_m_kind a_m_wet a_m_readKind a_m_readWet a_m_keptWet a_m_readCells a_m_readHours a_m_readCracked (0 : Int32) m_trace m_sorts m_sheetLong m_cells q85_1.1 q85_1.2.1 q85_1.2.2.1 q85_1.2.2.2.1 q85_1.2.2.2.2.1 q85_1.2.2.2.2.2.1 q67_1.2.1 q67_1.2.2.1 q67_1.2.2.2.1 q67_1.2.2.2.2.1 q67_1.2.2.2.2.2.1 q67_1.2.2.2.2.2.2 m_keptWet m_keptSun m_openFirst m_planHours q85_1.2.2.2.2.2.2 m_readCells m_readHours m_readCracked)) (rest := []) (st1 := []) Cc hK hA hP hD hS hl.1 (ctX5_takeBay l D cI cS a_m a_m_sorts a_m_sheetLong a_m_cells a_m_kind a_m_wet a_m_readKind a_m_readWet a_m_keptWet a_m_readCells a_m_readHours a_m_readCracked (0 : Int32) m_trace m_sorts m_sheetLong m_cells m_sun m_wide m_deep m_hour m_kind m_wet q67_1.2.1 q67_1.2.2.1 q67_1.2.2.2.1 q67_1.2.2.2.2.1 q67_1.2.2.2.2.2.1 q67_1.2.2.2.2.2.2 m_keptWet m_keptSun m_openFirst m_planHours m_readings m_readCells m_readHours m_readCracked  n q85_1.1 q85_1.2.1 q85_1.2.2.1 q85_1.2.2.2.1 q85_1.2.2.2.2.1 q85_1.2.2.2.2.2.1 q85_1.2.2.2.2.2.2 hq9) ⟨tw_615, tw_612, tw_614, tp_16, tw_6⟩ mdX5_takeBay ⟨rfl, rfl, Nat.le_of_ble_eq_true rfl, Nat.le_of_ble_eq_true rfl⟩ rfl dX5_bay_85 rfl (Nat.le_of_ble_eq_true rfl) ⟨Nat.zero_le _, Nat.zero_le _⟩ rfl rfl rfl [0, 1, 2, 3, 4, 5, 6, 7, 8, 9, 10, 11] [] [0, 1, 2, 3, 4, 5, 6, 7, 8, 9, 10, 11] rfl rfl (by decide) rfl (fun H locs hP hD hS => ?_)
          refine lv_aload_n hx hb dX5_bay_88 rfl (lv_at hl 2 rfl) ?_
          obtain ⟨q89_2, hq10, hf⟩ := Option.bind_eq_some_iff.mp hf
          refine cV (ws' := (W_m cI cS a_m a_m_sorts a_m_sheetLong a_m_cells a_m_kind a_m_wet a_m_readKind a_m_readWet a_m_keptWet a_m_readCells a_m_readHours a_m_readCracked (0 : Int32) m_trace m_sorts m_sheetLong m_cells q85_1.1 q85_1.2.1 q85_1.2.2.1 q85_1.2.2.2.1 q85_1.2.2.2.2.1 q85_1.2.2.2.2.2.1 q67_1.2.1 q67_1.2.2.1 q67_1.2.2.2.1 q67_1.2.2.2.2.1 q67_1.2.2.2.2.2.1 q67_1.2.2.2.2.2.2 m_keptWet m_keptSun m_openFirst m_planHours q85_1.2.2.2.2.2.2 m_readCells m_readHours m_readCracked)) (rest := []) (st1 := [.int q89_2]) Cc hK hA hP hD hS hl.1 (ctX5_cellsOf l D cI cS a_m a_m_sorts a_m_sheetLong a_m_cells a_m_kind a_m_wet a_m_readKind a_m_readWet a_m_keptWet a_m_readCells a_m_readHours a_m_readCracked (0 : Int32) m_trace m_sorts m_sheetLong m_cells q85_1.1 q85_1.2.1 q85_1.2.2.1 q85_1.2.2.2.1 q85_1.2.2.2.2.1 q85_1.2.2.2.2.2.1 q67_1.2.1 q67_1.2.2.1 q67_1.2.2.2.1 q67_1.2.2.2.2.1 q67_1.2.2.2.2.2.1 q67_1.2.2.2.2.2.2 m_keptWet m_keptSun m_openFirst m_planHours q85_1.2.2.2.2.2.2 m_readCells m_readHours m_readCracked  n q89_2 hq10) ⟨tw_619, tw_616, tw_618, tp_17, tw_6⟩ mdX5_cellsOf ⟨rfl, rfl, Nat.le_of_ble_eq_true rfl, Nat.le_of_ble_eq_true rfl⟩ rfl dX5_bay_89 rfl (Nat.le_of_ble_eq_true rfl) ⟨Nat.zero_le _, Nat.zero_le _⟩ rfl rfl rfl [0, 1, 2, 3, 4, 5, 6, 7, 8, 9, 10, 11] [] [0, 1, 2, 3, 4, 5, 6, 7, 8, 9, 10, 11] rfl rfl (by decide) rfl (fun H locs hP hD hS => ?_)
          replace hf := Option.some.inj hf
          obtain ⟨er0, er1⟩ := Prod.mk.inj hf
          obtain ⟨er2, er3⟩ := Prod.mk.inj er1
          obtain ⟨er4, er5⟩ := Prod.mk.inj er3
          obtain ⟨er6, er7⟩ := Prod.mk.inj er5
          obtain ⟨er8, er9⟩ := Prod.mk.inj er7
          obtain ⟨er10, er11⟩ := Prod.mk.inj er9
          obtain ⟨er12, er13⟩ := Prod.mk.inj er11
          obtain ⟨er14, er15⟩ := Prod.mk.inj er13
          obtain ⟨er16, er17⟩ := Prod.mk.inj er15
          obtain ⟨er18, er19⟩ := Prod.mk.inj er17
          obtain ⟨er20, er21⟩ := Prod.mk.inj er19
          obtain ⟨er22, er23⟩ := Prod.mk.inj er21
          obtain ⟨er24, er25⟩ := Prod.mk.inj er23
          obtain ⟨er26, er27⟩ := Prod.mk.inj er25
          clear hf er1 er3 er5 er7 er9 er11 er13 er15 er17 er19 er21 er23 er25
          subst er0
          subst er2
          subst er4
          subst er6
          subst er8
          subst er10
          subst er12
          subst er14
          subst er16
          subst er18
          subst er20
          subst er22
          subst er24
          subst er26
          subst er27
          exact rt_i Cc hK hP hD hS dX5_bay_92
        · replace hf := (if_pos hc8).symm.trans hf
          refine lv_bipush (v := (-100 : Int32)) hx hb dX5_bay_73 (by decide) ?_
          refine lv_aload_n hx hb dX5_bay_75 rfl (lv_at hl 2 rfl) ?_
          refine va_get (D := D) (ci := 5) (v := .int q67_1.2.1) (C := RX5) (T := TX5) (N := 25) hx hb hts inX5 hown hK hP 0 rfl rfl 11 (by decide) (hts _ tw_514) (fun _ h9 => h9) rfl dX5_bay_76 ?_
          refine lv_iload hx hb dX5_bay_79 (lv_at hl 0 rfl) ?_
          refine lv_isub hx hb dX5_bay_81 ?_
          refine lv_isub hx hb dX5_bay_82 ?_
          replace hf := Option.some.inj hf
          obtain ⟨er0, er1⟩ := Prod.mk.inj hf
          obtain ⟨er2, er3⟩ := Prod.mk.inj er1
          obtain ⟨er4, er5⟩ := Prod.mk.inj er3
          obtain ⟨er6, er7⟩ := Prod.mk.inj er5
          obtain ⟨er8, er9⟩ := Prod.mk.inj er7
          obtain ⟨er10, er11⟩ := Prod.mk.inj er9
          obtain ⟨er12, er13⟩ := Prod.mk.inj er11
          obtain ⟨er14, er15⟩ := Prod.mk.inj er13
          obtain ⟨er16, er17⟩ := Prod.mk.inj er15
          obtain ⟨er18, er19⟩ := Prod.mk.inj er17
          obtain ⟨er20, er21⟩ := Prod.mk.inj er19
          obtain ⟨er22, er23⟩ := Prod.mk.inj er21
          obtain ⟨er24, er25⟩ := Prod.mk.inj er23
          obtain ⟨er26, er27⟩ := Prod.mk.inj er25
          clear hf er1 er3 er5 er7 er9 er11 er13 er15 er17 er19 er21 er23 er25
          subst er0
          subst er2
          subst er4
          subst er6
          subst er8
          subst er10
          subst er12
          subst er14
          subst er16
          subst er18
          subst er20
          subst er22
          subst er24
          subst er26
          subst er27
          exact rt_i Cc hK hP hD hS dX5_bay_83
      · replace hf := (if_neg hc6).symm.trans hf
        refine lv_aload_n hx hb dX5_bay_40 rfl (lv_at hl 1 rfl) ?_
        refine lv_iload hx hb dX5_bay_41 (lv_at hl 0 rfl) ?_
        obtain ⟨q43_1, hq11, hf⟩ := Option.bind_eq_some_iff.mp hf
        refine cV (ws' := (W_m cI cS a_m a_m_sorts a_m_sheetLong a_m_cells a_m_kind a_m_wet a_m_readKind a_m_readWet a_m_keptWet a_m_readCells a_m_readHours a_m_readCracked q43_1.2 m_trace m_sorts m_sheetLong m_cells m_sun m_wide m_deep m_hour m_kind m_wet m_at m_readSun m_readWide m_readDeep m_readKind m_readWet m_keptWet m_keptSun m_openFirst m_planHours m_readings m_readCells m_readHours m_readCracked)) (rest := []) (st1 := [.int q43_1.1]) Cc hK hA hP hD hS hl.1 (ctX5_fails l D cI cS a_m a_m_sorts a_m_sheetLong a_m_cells a_m_kind a_m_wet a_m_readKind a_m_readWet a_m_keptWet a_m_readCells a_m_readHours a_m_readCracked (0 : Int32) m_trace m_sorts m_sheetLong m_cells m_sun m_wide m_deep m_hour m_kind m_wet m_at m_readSun m_readWide m_readDeep m_readKind m_readWet m_keptWet m_keptSun m_openFirst m_planHours m_readings m_readCells m_readHours m_readCracked q30_1 n q43_1.1 q43_1.2 hq11) ⟨tw_599, tw_596, tw_598, tp_12, tw_6⟩ mdX5_fails ⟨rfl, rfl, Nat.le_of_ble_eq_true rfl, Nat.le_of_ble_eq_true rfl⟩ rfl dX5_bay_43 rfl (Nat.le_of_ble_eq_true rfl) ⟨Nat.zero_le _, Nat.zero_le _⟩ rfl rfl rfl [0, 1, 2, 3, 4, 5, 6, 7, 8, 9, 10, 11] [] [0, 1, 2, 3, 4, 5, 6, 7, 8, 9, 10, 11] rfl rfl (by decide) rfl (fun H locs hP hD hS => ?_)
        replace hf := Option.some.inj hf
        obtain ⟨er0, er1⟩ := Prod.mk.inj hf
        obtain ⟨er2, er3⟩ := Prod.mk.inj er1
        obtain ⟨er4, er5⟩ := Prod.mk.inj er3
        obtain ⟨er6, er7⟩ := Prod.mk.inj er5
        obtain ⟨er8, er9⟩ := Prod.mk.inj er7
        obtain ⟨er10, er11⟩ := Prod.mk.inj er9
        obtain ⟨er12, er13⟩ := Prod.mk.inj er11
        obtain ⟨er14, er15⟩ := Prod.mk.inj er13
        obtain ⟨er16, er17⟩ := Prod.mk.inj er15
        obtain ⟨er18, er19⟩ := Prod.mk.inj er17
        obtain ⟨er20, er21⟩ := Prod.mk.inj er19
        obtain ⟨er22, er23⟩ := Prod.mk.inj er21
        obtain ⟨er24, er25⟩ := Prod.mk.inj er23
        obtain ⟨er26, er27⟩ := Prod.mk.inj er25
        clear hf er1 er3 er5 er7 er9 er11 er13 er15 er17 er19 er21 er23 er25
        subst er0
        subst er2
        subst er4
        subst er6
        subst er8
        subst er10
        subst er12
        subst er14
        subst er16
        subst er18
        subst er20
        subst er22
        subst er24
        subst er26
        subst er27
        exact rt_i Cc hK hP hD hS dX5_bay_46
    · replace hf := (if_pos hc4).symm.trans hf
      refine lv_bipush (v := (-2 : Int32)) hx hb dX5_bay_21 (by decide) ?_
      replace hf := Option.some.inj hf
      obtain ⟨er0, er1⟩ := Prod.mk.inj hf
      obtain ⟨er2, er3⟩ := Prod.mk.inj er1
      obtain ⟨er4, er5⟩ := Prod.mk.inj er3
      obtain ⟨er6, er7⟩ := Prod.mk.inj er5
      obtain ⟨er8, er9⟩ := Prod.mk.inj er7
      obtain ⟨er10, er11⟩ := Prod.mk.inj er9
      obtain ⟨er12, er13⟩ := Prod.mk.inj er11
      obtain ⟨er14, er15⟩ := Prod.mk.inj er13
      obtain ⟨er16, er17⟩ := Prod.mk.inj er15
      obtain ⟨er18, er19⟩ := Prod.mk.inj er17
      obtain ⟨er20, er21⟩ := Prod.mk.inj er19
      obtain ⟨er22, er23⟩ := Prod.mk.inj er21
      obtain ⟨er24, er25⟩ := Prod.mk.inj er23
      obtain ⟨er26, er27⟩ := Prod.mk.inj er25
      clear hf er1 er3 er5 er7 er9 er11 er13 er15 er17 er19 er21 er23 er25
      subst er0
      subst er2
      subst er4
      subst er6
      subst er8
      subst er10
      subst er12
      subst er14
      subst er16
      subst er18
      subst er20
      subst er22
      subst er24
      subst er26
      subst er27
      exact rt_i Cc hK hP hD hS dX5_bay_23
  · replace hf := (if_pos hc2).symm.trans hf
    refine lv_iconst (v := (-1 : Int32)) hx hb dX5_bay_12 (by decide) ?_
    replace hf := Option.some.inj hf
    obtain ⟨er0, er1⟩ := Prod.mk.inj hf
    obtain ⟨er2, er3⟩ := Prod.mk.inj er1
    obtain ⟨er4, er5⟩ := Prod.mk.inj er3
    obtain ⟨er6, er7⟩ := Prod.mk.inj er5
    obtain ⟨er8, er9⟩ := Prod.mk.inj er7
    obtain ⟨er10, er11⟩ := Prod.mk.inj er9
    obtain ⟨er12, er13⟩ := Prod.mk.inj er11
    obtain ⟨er14, er15⟩ := Prod.mk.inj er13
    obtain ⟨er16, er17⟩ := Prod.mk.inj er15
    obtain ⟨er18, er19⟩ := Prod.mk.inj er17
    obtain ⟨er20, er21⟩ := Prod.mk.inj er19
    obtain ⟨er22, er23⟩ := Prod.mk.inj er21
    obtain ⟨er24, er25⟩ := Prod.mk.inj er23
    obtain ⟨er26, er27⟩ := Prod.mk.inj er25
    clear hf er1 er3 er5 er7 er9 er11 er13 er15 er17 er19 er21 er23 er25
    subst er0
    subst er2
    subst er4
    subst er6
    subst er8
    subst er10
    subst er12
    subst er14
    subst er16
    subst er18
    subst er20
    subst er22
    subst er24
    subst er26
    subst er27
    exact rt_i Cc hK hP hD hS dX5_bay_13
-- X5_losesOf
def fX5_losesOf (n : Nat) (m_sun : Int32) (m_kind : Nat → Int32) (p1 : Int32) : Option (Int32) := gd p1 12 (if (m_kind p1.toNatClampNeg) = 0 then some (m_sun) else gd p1 12 (if (m_kind p1.toNatClampNeg) = (1 : Int32) then some ((m_sun + (1 : Int32))) else some ((m_sun / (2 : Int32)))))
theorem mdX5_losesOf : yX5_losesOf.cls = RX5 ∧ yX5_losesOf.cls ≠ "java/lang/invoke/MethodHandle" ∧ yX5_losesOf.cls ≠ "java/lang/invoke/VarHandle" ∧ (parseMethodDescriptor yX5_losesOf.desc).map (fun d => d.parameters.length) = some 1 := by decide +kernel
set_option maxHeartbeats 4000000 in
set_option maxRecDepth 100000 in
theorem ctX5_losesOf (l : Launch) (D : va_G) (cI cS : ClassId) (a_m a_m_sorts a_m_sheetLong a_m_cells a_m_kind a_m_wet a_m_readKind a_m_readWet a_m_keptWet a_m_readCells a_m_readHours a_m_readCracked : Nat) (m_fault : Int32) (m_trace : Int32) (m_sorts : Nat → Int32) (m_sheetLong : Nat → Int32) (m_cells : Nat → Int32) (m_sun : Int32) (m_wide : Int32) (m_deep : Int32) (m_hour : Int32) (m_kind : Nat → Int32) (m_wet : Nat → Int32) (m_at : Int32) (m_readSun : Int32) (m_readWide : Int32) (m_readDeep : Int32) (m_readKind : Nat → Int32) (m_readWet : Nat → Int32) (m_keptWet : Nat → Int32) (m_keptSun : Int32) (m_openFirst : Int32) (m_planHours : Int32) (m_readings : Int32) (m_readCells : Nat → Int32) (m_readHours : Nat → Int32) (m_readCracked : Nat → Int32) (p1 : Int32) (n : Nat) (r : Int32) (hf : fX5_losesOf n m_sun m_kind p1 = some (r)) : Ct l D (tysA cI cS) yX5_losesOf cX5_losesOf 2 (some .int) (Rm 0) [.ref a_m, .int p1] (W_m cI cS a_m a_m_sorts a_m_sheetLong a_m_cells a_m_kind a_m_wet a_m_readKind a_m_readWet a_m_keptWet a_m_readCells a_m_readHours a_m_readCracked m_fault m_trace m_sorts m_sheetLong m_cells m_sun m_wide m_deep m_hour m_kind m_wet m_at m_readSun m_readWide m_readDeep m_readKind m_readWet m_keptWet m_keptSun m_openFirst m_planHours m_readings m_readCells m_readHours m_readCracked) (some (.int r)) (W_m cI cS a_m a_m_sorts a_m_sheetLong a_m_cells a_m_kind a_m_wet a_m_readKind a_m_readWet a_m_keptWet a_m_readCells a_m_readHours a_m_readCracked m_fault m_trace m_sorts m_sheetLong m_cells m_sun m_wide m_deep m_hour m_kind m_wet m_at m_readSun m_readWide m_readDeep m_readKind m_readWet m_keptWet m_keptSun m_openFirst m_planHours m_readings m_readCells m_readHours m_readCracked) := by
  refine Ct_of (by decide) (Nat.le_of_ble_eq_true rfl) ?_
  intro p e s m args below meth c A ls Cc hK hA hP hD hS hl
  have hl : lv_has ls 2 [(0, .ref a_m), (1, .int p1)] := hl
  obtain ⟨hx, hb, hr, hml, hown, hts, hlk, hnw⟩ := id Cc
  unfold fX5_losesOf at hf
  refine lv_aload_n hx hb dX5_losesOf_0 rfl (lv_at hl 0 rfl) ?_
  refine va_get (D := D) (ci := 5) (v := .ref a_m_kind) (C := RX5) (T := TX5) (N := 25) hx hb hts inX5 hown hK hP 0 rfl rfl 9 (by decide) (hts _ tw_512) (fun _ h9 => h9) rfl dX5_losesOf_1 ?_
  refine lv_iload_n hx hb dX5_losesOf_4 rfl (lv_at hl 1 rfl) ?_
  obtain ⟨hin, hf⟩ := gd_some hf
  refine va_iald hx hb hK hP 4 0 rfl rfl hin dX5_losesOf_5 ?_
  refine lv_if_ne (tgt := 16) hx hb dX5_losesOf_6 (by decide) (fun hc1 => ?_) (fun hc1 => ?_)
  · replace hf := (if_neg hc1).symm.trans hf
    refine lv_aload_n hx hb dX5_losesOf_16 rfl (lv_at hl 0 rfl) ?_
    refine va_get (D := D) (ci := 5) (v := .ref a_m_kind) (C := RX5) (T := TX5) (N := 25) hx hb hts inX5 hown hK hP 0 rfl rfl 9 (by decide) (hts _ tw_512) (fun _ h9 => h9) rfl dX5_losesOf_17 ?_
    refine lv_iload_n hx hb dX5_losesOf_20 rfl (lv_at hl 1 rfl) ?_
    obtain ⟨hin, hf⟩ := gd_some hf
    refine va_iald hx hb hK hP 4 0 rfl rfl hin dX5_losesOf_21 ?_
    refine lv_iconst (v := (1 : Int32)) hx hb dX5_losesOf_22 (by decide) ?_
    refine lv_icmp_ne (tgt := 35) hx hb dX5_losesOf_23 (by decide) (fun hc2 => ?_) (fun hc2 => ?_)
    · replace hf := (if_neg hc2).symm.trans hf
      refine lv_aload_n hx hb dX5_losesOf_35 rfl (lv_at hl 0 rfl) ?_
      refine va_get (D := D) (ci := 5) (v := .int m_sun) (C := RX5) (T := TX5) (N := 25) hx hb hts inX5 hown hK hP 0 rfl rfl 5 (by decide) (hts _ tw_508) (fun _ h9 => h9) rfl dX5_losesOf_36 ?_
      refine lv_iconst (v := (2 : Int32)) hx hb dX5_losesOf_39 (by decide) ?_
      refine lv_idiv hx hb dX5_losesOf_40 (by decide) ?_
      obtain rfl := Option.some.inj hf
      exact rt_i Cc hK hP hD hS dX5_losesOf_41
    · replace hf := (if_pos hc2).symm.trans hf
      refine lv_aload_n hx hb dX5_losesOf_26 rfl (lv_at hl 0 rfl) ?_
      refine va_get (D := D) (ci := 5) (v := .int m_sun) (C := RX5) (T := TX5) (N := 25) hx hb hts inX5 hown hK hP 0 rfl rfl 5 (by decide) (hts _ tw_508) (fun _ h9 => h9) rfl dX5_losesOf_27 ?_
      refine lv_iconst (v := (1 : Int32)) hx hb dX5_losesOf_30 (by decide) ?_
      refine lv_iadd hx hb dX5_losesOf_31 ?_
      refine lv_goto (tgt := 41) hx hb dX5_losesOf_32 (by decide) ?_
      obtain rfl := Option.some.inj hf
      exact rt_i Cc hK hP hD hS dX5_losesOf_41
  · replace hf := (if_pos hc1).symm.trans hf
    refine lv_aload_n hx hb dX5_losesOf_9 rfl (lv_at hl 0 rfl) ?_
    refine va_get (D := D) (ci := 5) (v := .int m_sun) (C := RX5) (T := TX5) (N := 25) hx hb hts inX5 hown hK hP 0 rfl rfl 5 (by decide) (hts _ tw_508) (fun _ h9 => h9) rfl dX5_losesOf_10 ?_
    refine lv_goto (tgt := 41) hx hb dX5_losesOf_13 (by decide) ?_
    obtain rfl := Option.some.inj hf
    exact rt_i Cc hK hP hD hS dX5_losesOf_41
-- X5_wetBehind
def fX5_wetBehind (n : Nat) (m_sun : Int32) (m_kind : Nat → Int32) (m_wet : Nat → Int32) (p1 : Int32) (p2 : Int32) : Option (Int32) := gd p1 12 ((fX5_losesOf n m_sun m_kind p1).bind fun q9_1 => if ((m_wet p1.toNatClampNeg) - (p2 * q9_1)) ≤ 0 then some ((0 : Int32)) else some (((m_wet p1.toNatClampNeg) - (p2 * q9_1))))
theorem mdX5_wetBehind : yX5_wetBehind.cls = RX5 ∧ yX5_wetBehind.cls ≠ "java/lang/invoke/MethodHandle" ∧ yX5_wetBehind.cls ≠ "java/lang/invoke/VarHandle" ∧ (parseMethodDescriptor yX5_wetBehind.desc).map (fun d => d.parameters.length) = some 2 := by decide +kernel
set_option maxHeartbeats 4000000 in
set_option maxRecDepth 100000 in
theorem ctX5_wetBehind (l : Launch) (D : va_G) (cI cS : ClassId) (a_m a_m_sorts a_m_sheetLong a_m_cells a_m_kind a_m_wet a_m_readKind a_m_readWet a_m_keptWet a_m_readCells a_m_readHours a_m_readCracked : Nat) (m_fault : Int32) (m_trace : Int32) (m_sorts : Nat → Int32) (m_sheetLong : Nat → Int32) (m_cells : Nat → Int32) (m_sun : Int32) (m_wide : Int32) (m_deep : Int32) (m_hour : Int32) (m_kind : Nat → Int32) (m_wet : Nat → Int32) (m_at : Int32) (m_readSun : Int32) (m_readWide : Int32) (m_readDeep : Int32) (m_readKind : Nat → Int32) (m_readWet : Nat → Int32) (m_keptWet : Nat → Int32) (m_keptSun : Int32) (m_openFirst : Int32) (m_planHours : Int32) (m_readings : Int32) (m_readCells : Nat → Int32) (m_readHours : Nat → Int32) (m_readCracked : Nat → Int32) (p1 : Int32) (p2 : Int32) (n : Nat) (r : Int32) (hf : fX5_wetBehind n m_sun m_kind m_wet p1 p2 = some (r)) : Ct l D (tysA cI cS) yX5_wetBehind cX5_wetBehind 4 (some .int) (Rm 1) [.ref a_m, .int p1, .int p2] (W_m cI cS a_m a_m_sorts a_m_sheetLong a_m_cells a_m_kind a_m_wet a_m_readKind a_m_readWet a_m_keptWet a_m_readCells a_m_readHours a_m_readCracked m_fault m_trace m_sorts m_sheetLong m_cells m_sun m_wide m_deep m_hour m_kind m_wet m_at m_readSun m_readWide m_readDeep m_readKind m_readWet m_keptWet m_keptSun m_openFirst m_planHours m_readings m_readCells m_readHours m_readCracked) (some (.int r)) (W_m cI cS a_m a_m_sorts a_m_sheetLong a_m_cells a_m_kind a_m_wet a_m_readKind a_m_readWet a_m_keptWet a_m_readCells a_m_readHours a_m_readCracked m_fault m_trace m_sorts m_sheetLong m_cells m_sun m_wide m_deep m_hour m_kind m_wet m_at m_readSun m_readWide m_readDeep m_readKind m_readWet m_keptWet m_keptSun m_openFirst m_planHours m_readings m_readCells m_readHours m_readCracked) := by
  refine Ct_of (by decide) (Nat.le_of_ble_eq_true rfl) ?_
  intro p e s m args below meth c A ls Cc hK hA hP hD hS hl
  have hl : lv_has ls 4 [(0, .ref a_m), (1, .int p1), (2, .int p2)] := hl
  obtain ⟨hx, hb, hr, hml, hown, hts, hlk, hnw⟩ := id Cc
  unfold fX5_wetBehind at hf
  refine lv_aload_n hx hb dX5_wetBehind_0 rfl (lv_at hl 0 rfl) ?_
  refine va_get (D := D) (ci := 5) (v := .ref a_m_wet) (C := RX5) (T := TX5) (N := 25) hx hb hts inX5 hown hK hP 0 rfl rfl 10 (by decide) (hts _ tw_513) (fun _ h9 => h9) rfl dX5_wetBehind_1 ?_
  refine lv_iload_n hx hb dX5_wetBehind_4 rfl (lv_at hl 1 rfl) ?_
  obtain ⟨hin, hf⟩ := gd_some hf
  refine va_iald hx hb hK hP 5 0 rfl rfl hin dX5_wetBehind_5 ?_
  refine lv_iload_n hx hb dX5_wetBehind_6 rfl (lv_at hl 2 rfl) ?_
  refine lv_aload_n hx hb dX5_wetBehind_7 rfl (lv_at hl 0 rfl) ?_
  refine lv_iload_n hx hb dX5_wetBehind_8 rfl (lv_at hl 1 rfl) ?_
  obtain ⟨q9_1, hq1, hf⟩ := Option.bind_eq_some_iff.mp hf
  refine cV (ws' := (W_m cI cS a_m a_m_sorts a_m_sheetLong a_m_cells a_m_kind a_m_wet a_m_readKind a_m_readWet a_m_keptWet a_m_readCells a_m_readHours a_m_readCracked m_fault m_trace m_sorts m_sheetLong m_cells m_sun m_wide m_deep m_hour m_kind m_wet m_at m_readSun m_readWide m_readDeep m_readKind m_readWet m_keptWet m_keptSun m_openFirst m_planHours m_readings m_readCells m_readHours m_readCracked)) (rest := [.int p2, .int (m_wet p1.toNatClampNeg)]) (st1 := [.int q9_1, .int p2, .int (m_wet p1.toNatClampNeg)]) Cc hK hA hP hD hS hl.1 (ctX5_losesOf l D cI cS a_m a_m_sorts a_m_sheetLong a_m_cells a_m_kind a_m_wet a_m_readKind a_m_readWet a_m_keptWet a_m_readCells a_m_readHours a_m_readCracked m_fault m_trace m_sorts m_sheetLong m_cells m_sun m_wide m_deep m_hour m_kind m_wet m_at m_readSun m_readWide m_readDeep m_readKind m_readWet m_keptWet m_keptSun m_openFirst m_planHours m_readings m_readCells m_readHours m_readCracked p1 n q9_1 hq1) ⟨tw_631, tw_628, tw_630, tp_19, tw_6⟩ mdX5_losesOf ⟨rfl, rfl, Nat.le_of_ble_eq_true rfl, Nat.le_of_ble_eq_true rfl⟩ rfl dX5_wetBehind_9 rfl (Nat.le_of_ble_eq_true rfl) ⟨Nat.zero_le _, Nat.zero_le _⟩ rfl rfl rfl [0, 1, 2, 3, 4, 5, 6, 7, 8, 9, 10, 11] [] [0, 1, 2, 3, 4, 5, 6, 7, 8, 9, 10, 11] rfl rfl (by decide) rfl (fun H locs hP hD hS => ?_)
  refine lv_imul hx hb dX5_wetBehind_12 ?_
  refine lv_isub hx hb dX5_wetBehind_13 ?_
  refine lv_istore_n (lv' := [(3, .int ((m_wet p1.toNatClampNeg) - (p2 * q9_1))), (0, .ref a_m), (1, .int p1), (2, .int p2)]) hx hb dX5_wetBehind_14 rfl hl (by decide) rfl (fun ls hl => ?_)
  refine lv_iload_n hx hb dX5_wetBehind_15 rfl (lv_at hl 0 rfl) ?_
  refine lv_if_le (tgt := 23) hx hb dX5_wetBehind_16 (by decide) (fun hc2 => ?_) (fun hc2 => ?_)
  · replace hf := (if_pos hc2).symm.trans hf
    refine lv_iconst (v := (0 : Int32)) hx hb dX5_wetBehind_23 (by decide) ?_
    obtain rfl := Option.some.inj hf
    exact rt_i Cc hK hP hD hS dX5_wetBehind_24
  · replace hf := (if_neg hc2).symm.trans hf
    refine lv_iload_n hx hb dX5_wetBehind_19 rfl (lv_at hl 0 rfl) ?_
    refine lv_goto (tgt := 24) hx hb dX5_wetBehind_20 (by decide) ?_
    obtain rfl := Option.some.inj hf
    exact rt_i Cc hK hP hD hS dX5_wetBehind_24
-- X5_crackedBehind
def fX5_crackedBehind_4 (n : Nat) : Nat → Int32 → Int32 → Int32 → (Nat → Int32) → (Nat → Int32) → Int32 → Int32 → Int32 → Option (Int32)
  | 0, _, _, _, _, _, _, _, _ => none
  | k + 1, m_sun, m_wide, m_deep, m_kind, m_wet, x1, x2, x3 => (fX5_cellsOf n m_wide m_deep).bind fun q6_1 => if q6_1 ≤ x3 then some (x2) else (fX5_wetBehind n m_sun m_kind m_wet x3 x1).bind fun q16_1 => if q16_1 = 0 then fX5_crackedBehind_4 n k m_sun m_wide m_deep m_kind m_wet x1 (x2 ||| ((1 : Int32) <<< (x3 &&& 31))) (x3 + 1) else fX5_crackedBehind_4 n k m_sun m_wide m_deep m_kind m_wet x1 (x2 ||| (0 : Int32)) (x3 + 1)
def fX5_crackedBehind (n : Nat) (m_sun : Int32) (m_wide : Int32) (m_deep : Int32) (m_kind : Nat → Int32) (m_wet : Nat → Int32) (p1 : Int32) : Option (Int32) := fX5_crackedBehind_4 n n m_sun m_wide m_deep m_kind m_wet p1 (0 : Int32) (0 : Int32)
theorem mdX5_crackedBehind : yX5_crackedBehind.cls = RX5 ∧ yX5_crackedBehind.cls ≠ "java/lang/invoke/MethodHandle" ∧ yX5_crackedBehind.cls ≠ "java/lang/invoke/VarHandle" ∧ (parseMethodDescriptor yX5_crackedBehind.desc).map (fun d => d.parameters.length) = some 1 := by decide +kernel
set_option maxHeartbeats 4000000 in
set_option maxRecDepth 100000 in
theorem bX5_crackedBehind_4 {p : Program} {l : Launch} {e : Env} {s : State} {m : MethodId} {args : Array Value} {below : List Frame} {meth : Method} {c : Code} {A : Nat → Prop} {D : va_G} {cI cS : ClassId} (a_m a_m_sorts a_m_sheetLong a_m_cells a_m_kind a_m_wet a_m_readKind a_m_readWet a_m_keptWet a_m_readCells a_m_readHours a_m_readCracked : Nat) (m_fault : Int32) (m_trace : Int32) (m_sorts : Nat → Int32) (m_sheetLong : Nat → Int32) (m_cells : Nat → Int32) (m_hour : Int32) (m_at : Int32) (m_readSun : Int32) (m_readWide : Int32) (m_readDeep : Int32) (m_readKind : Nat → Int32) (m_readWet : Nat → Int32) (m_keptWet : Nat → Int32) (m_keptSun : Int32) (m_openFirst : Int32) (m_planHours : Int32) (m_readings : Int32) (m_readCells : Nat → Int32) (m_readHours : Nat → Int32) (m_readCracked : Nat → Int32) (Cc : Cx p s m args meth c RX5 cX5_crackedBehind 4 (some .int)) (hK : va_K D classes (tysA cI cS) s) (hA : ∀ q, s.heap.size ≤ q → A q) (n : Nat) : ∀ (k : Nat) (m_sun : Int32) (m_wide : Int32) (m_deep : Int32) (m_kind : Nat → Int32) (m_wet : Nat → Int32) (x1 : Int32) (x2 : Int32) (x3 : Int32) (r : Int32), fX5_crackedBehind_4 n k m_sun m_wide m_deep m_kind m_wet x1 x2 x3 = some (r) → ∀ (H : Heap) (locs : List Loc) (ls : Array Slot), va_P D classes (W_m cI cS a_m a_m_sorts a_m_sheetLong a_m_cells a_m_kind a_m_wet a_m_readKind a_m_readWet a_m_keptWet a_m_readCells a_m_readHours a_m_readCracked m_fault m_trace m_sorts m_sheetLong m_cells m_sun m_wide m_deep m_hour m_kind m_wet m_at m_readSun m_readWide m_readDeep m_readKind m_readWet m_keptWet m_keptSun m_openFirst m_planHours m_readings m_readCells m_readHours m_readCracked) H → va_D A (W_m cI cS a_m a_m_sorts a_m_sheetLong a_m_cells a_m_kind a_m_wet a_m_readKind a_m_readWet a_m_keptWet a_m_readCells a_m_readHours a_m_readCracked m_fault m_trace m_sorts m_sheetLong m_cells m_sun m_wide m_deep m_hour m_kind m_wet m_at m_readSun m_readWide m_readDeep m_readKind m_readWet m_keptWet m_keptSun m_openFirst m_planHours m_readings m_readCells m_readHours m_readCracked) → va_S A s.heap H locs → lv_has ls 4 [(0, .ref a_m), (1, .int x1), (2, .int x2), (3, .int x3)] → W p l e (Rm 2) s m args below meth c H locs 0 0 (MQ below (QW D (tysA cI cS) (some (.int r)) (W_m cI cS a_m a_m_sorts a_m_sheetLong a_m_cells a_m_kind a_m_wet a_m_readKind a_m_readWet a_m_keptWet a_m_readCells a_m_readHours a_m_readCracked m_fault m_trace m_sorts m_sheetLong m_cells m_sun m_wide m_deep m_hour m_kind m_wet m_at m_readSun m_readWide m_readDeep m_readKind m_readWet m_keptWet m_keptSun m_openFirst m_planHours m_readings m_readCells m_readHours m_readCracked) A) args s 0 0 A) (F0 m 4 ls []) := by
  obtain ⟨hx, hb, hr, hml, hown, hts, hlk, hnw⟩ := id Cc
  intro k
  induction k with
  | zero =>
    intro m_sun m_wide m_deep m_kind m_wet x1 x2 x3 r hf
    rw [fX5_crackedBehind_4] at hf
    cases hf
  | succ k ih =>
    intro m_sun m_wide m_deep m_kind m_wet x1 x2 x3 r hf H locs ls hP hD hS hl
    rw [fX5_crackedBehind_4] at hf
    refine lv_iload_n hx hb dX5_crackedBehind_4 rfl (lv_at hl 3 rfl) ?_
    refine lv_aload_n hx hb dX5_crackedBehind_5 rfl (lv_at hl 0 rfl) ?_
    obtain ⟨q6_1, hq1, hf⟩ := Option.bind_eq_some_iff.mp hf
    refine cV (ws' := (W_m cI cS a_m a_m_sorts a_m_sheetLong a_m_cells a_m_kind a_m_wet a_m_readKind a_m_readWet a_m_keptWet a_m_readCells a_m_readHours a_m_readCracked m_fault m_trace m_sorts m_sheetLong m_cells m_sun m_wide m_deep m_hour m_kind m_wet m_at m_readSun m_readWide m_readDeep m_readKind m_readWet m_keptWet m_keptSun m_openFirst m_planHours m_readings m_readCells m_readHours m_readCracked)) (rest := [.int x3]) (st1 := [.int q6_1, .int x3]) Cc hK hA hP hD hS hl.1 (ctX5_cellsOf l D cI cS a_m a_m_sorts a_m_sheetLong a_m_cells a_m_kind a_m_wet a_m_readKind a_m_readWet a_m_keptWet a_m_readCells a_m_readHours a_m_readCracked m_fault m_trace m_sorts m_sheetLong m_cells m_sun m_wide m_deep m_hour m_kind m_wet m_at m_readSun m_readWide m_readDeep m_readKind m_readWet m_keptWet m_keptSun m_openFirst m_planHours m_readings m_readCells m_readHours m_readCracked  n q6_1 hq1) ⟨tw_619, tw_616, tw_618, tp_17, tw_6⟩ mdX5_cellsOf ⟨rfl, rfl, Nat.le_of_ble_eq_true rfl, Nat.le_of_ble_eq_true rfl⟩ rfl dX5_crackedBehind_6 rfl (Nat.le_of_ble_eq_true rfl) ⟨Nat.zero_le _, Nat.zero_le _⟩ rfl rfl rfl [0, 1, 2, 3, 4, 5, 6, 7, 8, 9, 10, 11] [] [0, 1, 2, 3, 4, 5, 6, 7, 8, 9, 10, 11] rfl rfl (by decide) rfl (fun H locs hP hD hS => ?_)
    refine lv_icmp_ge (tgt := 37) hx hb dX5_crackedBehind_9 (by decide) (fun hc2 => ?_) (fun hc2 => ?_)
    · replace hf := (if_pos hc2).symm.trans hf
      refine lv_iload_n hx hb dX5_crackedBehind_37 rfl (lv_at hl 2 rfl) ?_
      obtain rfl := Option.some.inj hf
      exact rt_i Cc hK hP hD hS dX5_crackedBehind_38
    · replace hf := (if_neg hc2).symm.trans hf
      refine lv_iload_n hx hb dX5_crackedBehind_12 rfl (lv_at hl 2 rfl) ?_
      refine lv_aload_n hx hb dX5_crackedBehind_13 rfl (lv_at hl 0 rfl) ?_
      refine lv_iload_n hx hb dX5_crackedBehind_14 rfl (lv_at hl 3 rfl) ?_
      refine lv_iload_n hx hb dX5_crackedBehind_15 rfl (lv_at hl 1 rfl) ?_
      obtain ⟨q16_1, hq3, hf⟩ := Option.bind_eq_some_iff.mp hf
      refine cV (ws' := (W_m cI cS a_m a_m_sorts a_m_sheetLong a_m_cells a_m_kind a_m_wet a_m_readKind a_m_readWet a_m_keptWet a_m_readCells a_m_readHours a_m_readCracked m_fault m_trace m_sorts m_sheetLong m_cells m_sun m_wide m_deep m_hour m_kind m_wet m_at m_readSun m_readWide m_readDeep m_readKind m_readWet m_keptWet m_keptSun m_openFirst m_planHours m_readings m_readCells m_readHours m_readCracked)) (rest := [.int x2]) (st1 := [.int q16_1, .int x2]) Cc hK hA hP hD hS hl.1 (ctX5_wetBehind l D cI cS a_m a_m_sorts a_m_sheetLong a_m_cells a_m_kind a_m_wet a_m_readKind a_m_readWet a_m_keptWet a_m_readCells a_m_readHours a_m_readCracked m_fault m_trace m_sorts m_sheetLong m_cells m_sun m_wide m_deep m_hour m_kind m_wet m_at m_readSun m_readWide m_readDeep m_readKind m_readWet m_keptWet m_keptSun m_openFirst m_planHours m_readings m_readCells m_readHours m_readCracked x3 x1 n q16_1 hq3) ⟨tw_643, tw_640, tw_642, tp_22, tw_6⟩ mdX5_wetBehind ⟨rfl, rfl, Nat.le_of_ble_eq_true rfl, Nat.le_of_ble_eq_true rfl⟩ rfl dX5_crackedBehind_16 rfl (Nat.le_of_ble_eq_true rfl) ⟨Nat.zero_le _, Nat.zero_le _⟩ rfl rfl rfl [0, 1, 2, 3, 4, 5, 6, 7, 8, 9, 10, 11] [] [0, 1, 2, 3, 4, 5, 6, 7, 8, 9, 10, 11] rfl rfl (by decide) rfl (fun H locs hP hD hS => ?_)
      refine lv_if_ne (tgt := 28) hx hb dX5_crackedBehind_19 (by decide) (fun hc4 => ?_) (fun hc4 => ?_)
      · replace hf := (if_neg hc4).symm.trans hf
        refine lv_iconst (v := (0 : Int32)) hx hb dX5_crackedBehind_28 (by decide) ?_
        refine lv_ior hx hb dX5_crackedBehind_29 ?_
        refine lv_istore_n (lv' := [(2, .int (x2 ||| (0 : Int32))), (0, .ref a_m), (1, .int x1), (3, .int x3)]) hx hb dX5_crackedBehind_30 rfl hl (by decide) rfl (fun ls hl => ?_)
        refine lv_iinc (v := (x3 + 1)) (lv' := [(3, .int (x3 + 1)), (2, .int (x2 ||| (0 : Int32))), (0, .ref a_m), (1, .int x1)]) hx hb dX5_crackedBehind_31 hl (k := 3) rfl rfl (by decide) rfl (fun ls hl => ?_)
        refine lv_goto (tgt := 4) hx hb dX5_crackedBehind_34 (by decide) ?_
        exact ih _ _ _ _ _ _ _ _ _ hf _ _ _ hP hD hS (lv_sub hl [2, 3, 1, 0] rfl)
      · replace hf := (if_pos hc4).symm.trans hf
        refine lv_iconst (v := (1 : Int32)) hx hb dX5_crackedBehind_22 (by decide) ?_
        refine lv_iload_n hx hb dX5_crackedBehind_23 rfl (lv_at hl 3 rfl) ?_
        refine lv_ishl hx hb dX5_crackedBehind_24 ?_
        refine lv_goto (tgt := 29) hx hb dX5_crackedBehind_25 (by decide) ?_
        refine lv_ior hx hb dX5_crackedBehind_29 ?_
        refine lv_istore_n (lv' := [(2, .int (x2 ||| ((1 : Int32) <<< (x3 &&& 31)))), (0, .ref a_m), (1, .int x1), (3, .int x3)]) hx hb dX5_crackedBehind_30 rfl hl (by decide) rfl (fun ls hl => ?_)
        refine lv_iinc (v := (x3 + 1)) (lv' := [(3, .int (x3 + 1)), (2, .int (x2 ||| ((1 : Int32) <<< (x3 &&& 31)))), (0, .ref a_m), (1, .int x1)]) hx hb dX5_crackedBehind_31 hl (k := 3) rfl rfl (by decide) rfl (fun ls hl => ?_)
        refine lv_goto (tgt := 4) hx hb dX5_crackedBehind_34 (by decide) ?_
        exact ih _ _ _ _ _ _ _ _ _ hf _ _ _ hP hD hS (lv_sub hl [2, 3, 1, 0] rfl)
set_option maxHeartbeats 4000000 in
set_option maxRecDepth 100000 in
theorem ctX5_crackedBehind (l : Launch) (D : va_G) (cI cS : ClassId) (a_m a_m_sorts a_m_sheetLong a_m_cells a_m_kind a_m_wet a_m_readKind a_m_readWet a_m_keptWet a_m_readCells a_m_readHours a_m_readCracked : Nat) (m_fault : Int32) (m_trace : Int32) (m_sorts : Nat → Int32) (m_sheetLong : Nat → Int32) (m_cells : Nat → Int32) (m_sun : Int32) (m_wide : Int32) (m_deep : Int32) (m_hour : Int32) (m_kind : Nat → Int32) (m_wet : Nat → Int32) (m_at : Int32) (m_readSun : Int32) (m_readWide : Int32) (m_readDeep : Int32) (m_readKind : Nat → Int32) (m_readWet : Nat → Int32) (m_keptWet : Nat → Int32) (m_keptSun : Int32) (m_openFirst : Int32) (m_planHours : Int32) (m_readings : Int32) (m_readCells : Nat → Int32) (m_readHours : Nat → Int32) (m_readCracked : Nat → Int32) (p1 : Int32) (n : Nat) (r : Int32) (hf : fX5_crackedBehind n m_sun m_wide m_deep m_kind m_wet p1 = some (r)) : Ct l D (tysA cI cS) yX5_crackedBehind cX5_crackedBehind 4 (some .int) (Rm 2) [.ref a_m, .int p1] (W_m cI cS a_m a_m_sorts a_m_sheetLong a_m_cells a_m_kind a_m_wet a_m_readKind a_m_readWet a_m_keptWet a_m_readCells a_m_readHours a_m_readCracked m_fault m_trace m_sorts m_sheetLong m_cells m_sun m_wide m_deep m_hour m_kind m_wet m_at m_readSun m_readWide m_readDeep m_readKind m_readWet m_keptWet m_keptSun m_openFirst m_planHours m_readings m_readCells m_readHours m_readCracked) (some (.int r)) (W_m cI cS a_m a_m_sorts a_m_sheetLong a_m_cells a_m_kind a_m_wet a_m_readKind a_m_readWet a_m_keptWet a_m_readCells a_m_readHours a_m_readCracked m_fault m_trace m_sorts m_sheetLong m_cells m_sun m_wide m_deep m_hour m_kind m_wet m_at m_readSun m_readWide m_readDeep m_readKind m_readWet m_keptWet m_keptSun m_openFirst m_planHours m_readings m_readCells m_readHours m_readCracked) := by
  refine Ct_of (by decide) (Nat.le_of_ble_eq_true rfl) ?_
  intro p e s m args below meth c A ls Cc hK hA hP hD hS hl
  have hl : lv_has ls 4 [(0, .ref a_m), (1, .int p1)] := hl
  obtain ⟨hx, hb, hr, hml, hown, hts, hlk, hnw⟩ := id Cc
  unfold fX5_crackedBehind at hf
  refine lv_iconst (v := (0 : Int32)) hx hb dX5_crackedBehind_0 (by decide) ?_
  refine lv_istore_n (lv' := [(2, .int (0 : Int32)), (0, .ref a_m), (1, .int p1)]) hx hb dX5_crackedBehind_1 rfl hl (by decide) rfl (fun ls hl => ?_)
  refine lv_iconst (v := (0 : Int32)) hx hb dX5_crackedBehind_2 (by decide) ?_
  refine lv_istore_n (lv' := [(3, .int (0 : Int32)), (2, .int (0 : Int32)), (0, .ref a_m), (1, .int p1)]) hx hb dX5_crackedBehind_3 rfl hl (by decide) rfl (fun ls hl => ?_)
  exact bX5_crackedBehind_4 a_m a_m_sorts a_m_sheetLong a_m_cells a_m_kind a_m_wet a_m_readKind a_m_readWet a_m_keptWet a_m_readCells a_m_readHours a_m_readCracked m_fault m_trace m_sorts m_sheetLong m_cells m_hour m_at m_readSun m_readWide m_readDeep m_readKind m_readWet m_keptWet m_keptSun m_openFirst m_planHours m_readings m_readCells m_readHours m_readCracked Cc hK hA n n _ _ _ _ _ _ _ _ _ hf _ _ _ hP hD hS (lv_sub hl [2, 3, 1, 0] rfl)
-- X5_besides
def fX5_besides_67 (n : Nat) (m_wide : Int32) (m_deep : Int32) (x1 : Int32) (y0 : Int32) (y1 : Int32) : Option (Int32) := (fX5_cellsOf n m_wide m_deep).bind fun q77_1 => if q77_1 ≤ (x1 + m_wide) then some (((y1 ||| y0) ||| (0 : Int32))) else some (((y1 ||| y0) ||| ((1 : Int32) <<< ((x1 + m_wide) &&& 31))))
def fX5_besides_44 (n : Nat) (m_wide : Int32) (m_deep : Int32) (x1 : Int32) (y0 : Int32) (y1 : Int32) : Option (Int32) := if x1 < m_wide then fX5_besides_67 n m_wide m_deep x1 (0 : Int32) (y1 ||| y0) else fX5_besides_67 n m_wide m_deep x1 ((1 : Int32) <<< ((x1 - m_wide) &&& 31)) (y1 ||| y0)
def fX5_besides_18 (n : Nat) (m_wide : Int32) (m_deep : Int32) (x1 : Int32) (y0 : Int32) : Option (Int32) := nz m_wide (if (m_wide - (1 : Int32)) ≤ (x1 - x1 / m_wide * m_wide) then fX5_besides_44 n m_wide m_deep x1 (0 : Int32) y0 else fX5_besides_44 n m_wide m_deep x1 ((1 : Int32) <<< ((x1 + (1 : Int32)) &&& 31)) y0)
def fX5_besides (n : Nat) (m_wide : Int32) (m_deep : Int32) (p1 : Int32) : Option (Int32) := nz m_wide (if (p1 - p1 / m_wide * m_wide) ≤ 0 then fX5_besides_18 n m_wide m_deep p1 (0 : Int32) else fX5_besides_18 n m_wide m_deep p1 ((1 : Int32) <<< ((p1 - (1 : Int32)) &&& 31)))
theorem mdX5_besides : yX5_besides.cls = RX5 ∧ yX5_besides.cls ≠ "java/lang/invoke/MethodHandle" ∧ yX5_besides.cls ≠ "java/lang/invoke/VarHandle" ∧ (parseMethodDescriptor yX5_besides.desc).map (fun d => d.parameters.length) = some 1 := by decide +kernel
set_option maxHeartbeats 4000000 in
set_option maxRecDepth 100000 in
theorem bX5_besides_67 {p : Program} {l : Launch} {e : Env} {s : State} {m : MethodId} {args : Array Value} {below : List Frame} {meth : Method} {c : Code} {A : Nat → Prop} {D : va_G} {cI cS : ClassId} (a_m a_m_sorts a_m_sheetLong a_m_cells a_m_kind a_m_wet a_m_readKind a_m_readWet a_m_keptWet a_m_readCells a_m_readHours a_m_readCracked : Nat) (m_fault : Int32) (m_trace : Int32) (m_sorts : Nat → Int32) (m_sheetLong : Nat → Int32) (m_cells : Nat → Int32) (m_sun : Int32) (m_hour : Int32) (m_kind : Nat → Int32) (m_wet : Nat → Int32) (m_at : Int32) (m_readSun : Int32) (m_readWide : Int32) (m_readDeep : Int32) (m_readKind : Nat → Int32) (m_readWet : Nat → Int32) (m_keptWet : Nat → Int32) (m_keptSun : Int32) (m_openFirst : Int32) (m_planHours : Int32) (m_readings : Int32) (m_readCells : Nat → Int32) (m_readHours : Nat → Int32) (m_readCracked : Nat → Int32) (Cc : Cx p s m args meth c RX5 cX5_besides 3 (some .int)) (hK : va_K D classes (tysA cI cS) s) (hA : ∀ q, s.heap.size ≤ q → A q) (n : Nat) : ∀ (m_wide : Int32) (m_deep : Int32) (x1 : Int32) (y0 : Int32) (y1 : Int32) (r : Int32), fX5_besides_67 n m_wide m_deep x1 y0 y1 = some (r) → ∀ (H : Heap) (locs : List Loc) (ls : Array Slot), va_P D classes (W_m cI cS a_m a_m_sorts a_m_sheetLong a_m_cells a_m_kind a_m_wet a_m_readKind a_m_readWet a_m_keptWet a_m_readCells a_m_readHours a_m_readCracked m_fault m_trace m_sorts m_sheetLong m_cells m_sun m_wide m_deep m_hour m_kind m_wet m_at m_readSun m_readWide m_readDeep m_readKind m_readWet m_keptWet m_keptSun m_openFirst m_planHours m_readings m_readCells m_readHours m_readCracked) H → va_D A (W_m cI cS a_m a_m_sorts a_m_sheetLong a_m_cells a_m_kind a_m_wet a_m_readKind a_m_readWet a_m_keptWet a_m_readCells a_m_readHours a_m_readCracked m_fault m_trace m_sorts m_sheetLong m_cells m_sun m_wide m_deep m_hour m_kind m_wet m_at m_readSun m_readWide m_readDeep m_readKind m_readWet m_keptWet m_keptSun m_openFirst m_planHours m_readings m_readCells m_readHours m_readCracked) → va_S A s.heap H locs → lv_has ls 3 [(0, .ref a_m), (1, .int x1)] → W p l e (Rm 1) s m args below meth c H locs 0 0 (MQ below (QW D (tysA cI cS) (some (.int r)) (W_m cI cS a_m a_m_sorts a_m_sheetLong a_m_cells a_m_kind a_m_wet a_m_readKind a_m_readWet a_m_keptWet a_m_readCells a_m_readHours a_m_readCracked m_fault m_trace m_sorts m_sheetLong m_cells m_sun m_wide m_deep m_hour m_kind m_wet m_at m_readSun m_readWide m_readDeep m_readKind m_readWet m_keptWet m_keptSun m_openFirst m_planHours m_readings m_readCells m_readHours m_readCracked) A) args s 0 0 A) (F0 m 67 ls [.int y0, .int y1]) := by
  obtain ⟨hx, hb, hr, hml, hown, hts, hlk, hnw⟩ := id Cc
  intro m_wide m_deep x1 y0 y1 r hf H locs ls hP hD hS hl
  unfold fX5_besides_67 at hf
  refine lv_ior hx hb dX5_besides_67 ?_
  refine lv_istore_n (lv' := [(2, .int (y1 ||| y0)), (0, .ref a_m), (1, .int x1)]) hx hb dX5_besides_68 rfl hl (by decide) rfl (fun ls hl => ?_)
  refine lv_iload_n hx hb dX5_besides_69 rfl (lv_at hl 0 rfl) ?_
  refine lv_iload_n hx hb dX5_besides_70 rfl (lv_at hl 2 rfl) ?_
  refine lv_aload_n hx hb dX5_besides_71 rfl (lv_at hl 1 rfl) ?_
  refine va_get (D := D) (ci := 5) (v := .int m_wide) (C := RX5) (T := TX5) (N := 25) hx hb hts inX5 hown hK hP 0 rfl rfl 6 (by decide) (hts _ tw_509) (fun _ h9 => h9) rfl dX5_besides_72 ?_
  refine lv_iadd hx hb dX5_besides_75 ?_
  refine lv_aload_n hx hb dX5_besides_76 rfl (lv_at hl 1 rfl) ?_
  obtain ⟨q77_1, hq4, hf⟩ := Option.bind_eq_some_iff.mp hf
  refine cV (ws' := (W_m cI cS a_m a_m_sorts a_m_sheetLong a_m_cells a_m_kind a_m_wet a_m_readKind a_m_readWet a_m_keptWet a_m_readCells a_m_readHours a_m_readCracked m_fault m_trace m_sorts m_sheetLong m_cells m_sun m_wide m_deep m_hour m_kind m_wet m_at m_readSun m_readWide m_readDeep m_readKind m_readWet m_keptWet m_keptSun m_openFirst m_planHours m_readings m_readCells m_readHours m_readCracked)) (rest := [.int (x1 + m_wide), .int (y1 ||| y0)]) (st1 := [.int q77_1, .int (x1 + m_wide), .int (y1 ||| y0)]) Cc hK hA hP hD hS hl.1 (ctX5_cellsOf l D cI cS a_m a_m_sorts a_m_sheetLong a_m_cells a_m_kind a_m_wet a_m_readKind a_m_readWet a_m_keptWet a_m_readCells a_m_readHours a_m_readCracked m_fault m_trace m_sorts m_sheetLong m_cells m_sun m_wide m_deep m_hour m_kind m_wet m_at m_readSun m_readWide m_readDeep m_readKind m_readWet m_keptWet m_keptSun m_openFirst m_planHours m_readings m_readCells m_readHours m_readCracked  n q77_1 hq4) ⟨tw_619, tw_616, tw_618, tp_17, tw_6⟩ mdX5_cellsOf ⟨rfl, rfl, Nat.le_of_ble_eq_true rfl, Nat.le_of_ble_eq_true rfl⟩ rfl dX5_besides_77 rfl (Nat.le_of_ble_eq_true rfl) ⟨Nat.zero_le _, Nat.zero_le _⟩ rfl rfl rfl [0, 1, 2, 3, 4, 5, 6, 7, 8, 9, 10, 11] [] [0, 1, 2, 3, 4, 5, 6, 7, 8, 9, 10, 11] rfl rfl (by decide) rfl (fun H locs hP hD hS => ?_)
  refine lv_icmp_ge (tgt := 94) hx hb dX5_besides_80 (by decide) (fun hc5 => ?_) (fun hc5 => ?_)
  · replace hf := (if_pos hc5).symm.trans hf
    refine lv_iconst (v := (0 : Int32)) hx hb dX5_besides_94 (by decide) ?_
    refine lv_ior hx hb dX5_besides_95 ?_
    obtain rfl := Option.some.inj hf
    exact rt_i Cc hK hP hD hS dX5_besides_96
  · replace hf := (if_neg hc5).symm.trans hf
    refine lv_iconst (v := (1 : Int32)) hx hb dX5_besides_83 (by decide) ?_
    refine lv_iload_n hx hb dX5_besides_84 rfl (lv_at hl 2 rfl) ?_
    refine lv_aload_n hx hb dX5_besides_85 rfl (lv_at hl 1 rfl) ?_
    refine va_get (D := D) (ci := 5) (v := .int m_wide) (C := RX5) (T := TX5) (N := 25) hx hb hts inX5 hown hK hP 0 rfl rfl 6 (by decide) (hts _ tw_509) (fun _ h9 => h9) rfl dX5_besides_86 ?_
    refine lv_iadd hx hb dX5_besides_89 ?_
    refine lv_ishl hx hb dX5_besides_90 ?_
    refine lv_goto (tgt := 95) hx hb dX5_besides_91 (by decide) ?_
    refine lv_ior hx hb dX5_besides_95 ?_
    obtain rfl := Option.some.inj hf
    exact rt_i Cc hK hP hD hS dX5_besides_96
set_option maxHeartbeats 4000000 in
set_option maxRecDepth 100000 in
theorem bX5_besides_44 {p : Program} {l : Launch} {e : Env} {s : State} {m : MethodId} {args : Array Value} {below : List Frame} {meth : Method} {c : Code} {A : Nat → Prop} {D : va_G} {cI cS : ClassId} (a_m a_m_sorts a_m_sheetLong a_m_cells a_m_kind a_m_wet a_m_readKind a_m_readWet a_m_keptWet a_m_readCells a_m_readHours a_m_readCracked : Nat) (m_fault : Int32) (m_trace : Int32) (m_sorts : Nat → Int32) (m_sheetLong : Nat → Int32) (m_cells : Nat → Int32) (m_sun : Int32) (m_hour : Int32) (m_kind : Nat → Int32) (m_wet : Nat → Int32) (m_at : Int32) (m_readSun : Int32) (m_readWide : Int32) (m_readDeep : Int32) (m_readKind : Nat → Int32) (m_readWet : Nat → Int32) (m_keptWet : Nat → Int32) (m_keptSun : Int32) (m_openFirst : Int32) (m_planHours : Int32) (m_readings : Int32) (m_readCells : Nat → Int32) (m_readHours : Nat → Int32) (m_readCracked : Nat → Int32) (Cc : Cx p s m args meth c RX5 cX5_besides 3 (some .int)) (hK : va_K D classes (tysA cI cS) s) (hA : ∀ q, s.heap.size ≤ q → A q) (n : Nat) : ∀ (m_wide : Int32) (m_deep : Int32) (x1 : Int32) (y0 : Int32) (y1 : Int32) (r : Int32), fX5_besides_44 n m_wide m_deep x1 y0 y1 = some (r) → ∀ (H : Heap) (locs : List Loc) (ls : Array Slot), va_P D classes (W_m cI cS a_m a_m_sorts a_m_sheetLong a_m_cells a_m_kind a_m_wet a_m_readKind a_m_readWet a_m_keptWet a_m_readCells a_m_readHours a_m_readCracked m_fault m_trace m_sorts m_sheetLong m_cells m_sun m_wide m_deep m_hour m_kind m_wet m_at m_readSun m_readWide m_readDeep m_readKind m_readWet m_keptWet m_keptSun m_openFirst m_planHours m_readings m_readCells m_readHours m_readCracked) H → va_D A (W_m cI cS a_m a_m_sorts a_m_sheetLong a_m_cells a_m_kind a_m_wet a_m_readKind a_m_readWet a_m_keptWet a_m_readCells a_m_readHours a_m_readCracked m_fault m_trace m_sorts m_sheetLong m_cells m_sun m_wide m_deep m_hour m_kind m_wet m_at m_readSun m_readWide m_readDeep m_readKind m_readWet m_keptWet m_keptSun m_openFirst m_planHours m_readings m_readCells m_readHours m_readCracked) → va_S A s.heap H locs → lv_has ls 3 [(0, .ref a_m), (1, .int x1)] → W p l e (Rm 1) s m args below meth c H locs 0 0 (MQ below (QW D (tysA cI cS) (some (.int r)) (W_m cI cS a_m a_m_sorts a_m_sheetLong a_m_cells a_m_kind a_m_wet a_m_readKind a_m_readWet a_m_keptWet a_m_readCells a_m_readHours a_m_readCracked m_fault m_trace m_sorts m_sheetLong m_cells m_sun m_wide m_deep m_hour m_kind m_wet m_at m_readSun m_readWide m_readDeep m_readKind m_readWet m_keptWet m_keptSun m_openFirst m_planHours m_readings m_readCells m_readHours m_readCracked) A) args s 0 0 A) (F0 m 44 ls [.int y0, .int y1]) := by
  obtain ⟨hx, hb, hr, hml, hown, hts, hlk, hnw⟩ := id Cc
  intro m_wide m_deep x1 y0 y1 r hf H locs ls hP hD hS hl
  unfold fX5_besides_44 at hf
  refine lv_ior hx hb dX5_besides_44 ?_
  refine lv_istore_n (lv' := [(2, .int (y1 ||| y0)), (0, .ref a_m), (1, .int x1)]) hx hb dX5_besides_45 rfl hl (by decide) rfl (fun ls hl => ?_)
  refine lv_iload_n hx hb dX5_besides_46 rfl (lv_at hl 0 rfl) ?_
  refine lv_iload_n hx hb dX5_besides_47 rfl (lv_at hl 2 rfl) ?_
  refine lv_aload_n hx hb dX5_besides_48 rfl (lv_at hl 1 rfl) ?_
  refine va_get (D := D) (ci := 5) (v := .int m_wide) (C := RX5) (T := TX5) (N := 25) hx hb hts inX5 hown hK hP 0 rfl rfl 6 (by decide) (hts _ tw_509) (fun _ h9 => h9) rfl dX5_besides_49 ?_
  refine lv_icmp_lt (tgt := 66) hx hb dX5_besides_52 (by decide) (fun hc3 => ?_) (fun hc3 => ?_)
  · replace hf := (if_pos hc3).symm.trans hf
    refine lv_iconst (v := (0 : Int32)) hx hb dX5_besides_66 (by decide) ?_
    exact bX5_besides_67 a_m a_m_sorts a_m_sheetLong a_m_cells a_m_kind a_m_wet a_m_readKind a_m_readWet a_m_keptWet a_m_readCells a_m_readHours a_m_readCracked m_fault m_trace m_sorts m_sheetLong m_cells m_sun m_hour m_kind m_wet m_at m_readSun m_readWide m_readDeep m_readKind m_readWet m_keptWet m_keptSun m_openFirst m_planHours m_readings m_readCells m_readHours m_readCracked Cc hK hA n _ _ _ _ _ _ hf _ _ _ hP hD hS (lv_sub hl [1, 2] rfl)
  · replace hf := (if_neg hc3).symm.trans hf
    refine lv_iconst (v := (1 : Int32)) hx hb dX5_besides_55 (by decide) ?_
    refine lv_iload_n hx hb dX5_besides_56 rfl (lv_at hl 2 rfl) ?_
    refine lv_aload_n hx hb dX5_besides_57 rfl (lv_at hl 1 rfl) ?_
    refine va_get (D := D) (ci := 5) (v := .int m_wide) (C := RX5) (T := TX5) (N := 25) hx hb hts inX5 hown hK hP 0 rfl rfl 6 (by decide) (hts _ tw_509) (fun _ h9 => h9) rfl dX5_besides_58 ?_
    refine lv_isub hx hb dX5_besides_61 ?_
    refine lv_ishl hx hb dX5_besides_62 ?_
    refine lv_goto (tgt := 67) hx hb dX5_besides_63 (by decide) ?_
    exact bX5_besides_67 a_m a_m_sorts a_m_sheetLong a_m_cells a_m_kind a_m_wet a_m_readKind a_m_readWet a_m_keptWet a_m_readCells a_m_readHours a_m_readCracked m_fault m_trace m_sorts m_sheetLong m_cells m_sun m_hour m_kind m_wet m_at m_readSun m_readWide m_readDeep m_readKind m_readWet m_keptWet m_keptSun m_openFirst m_planHours m_readings m_readCells m_readHours m_readCracked Cc hK hA n _ _ _ _ _ _ hf _ _ _ hP hD hS (lv_sub hl [1, 2] rfl)
set_option maxHeartbeats 4000000 in
set_option maxRecDepth 100000 in
theorem bX5_besides_18 {p : Program} {l : Launch} {e : Env} {s : State} {m : MethodId} {args : Array Value} {below : List Frame} {meth : Method} {c : Code} {A : Nat → Prop} {D : va_G} {cI cS : ClassId} (a_m a_m_sorts a_m_sheetLong a_m_cells a_m_kind a_m_wet a_m_readKind a_m_readWet a_m_keptWet a_m_readCells a_m_readHours a_m_readCracked : Nat) (m_fault : Int32) (m_trace : Int32) (m_sorts : Nat → Int32) (m_sheetLong : Nat → Int32) (m_cells : Nat → Int32) (m_sun : Int32) (m_hour : Int32) (m_kind : Nat → Int32) (m_wet : Nat → Int32) (m_at : Int32) (m_readSun : Int32) (m_readWide : Int32) (m_readDeep : Int32) (m_readKind : Nat → Int32) (m_readWet : Nat → Int32) (m_keptWet : Nat → Int32) (m_keptSun : Int32) (m_openFirst : Int32) (m_planHours : Int32) (m_readings : Int32) (m_readCells : Nat → Int32) (m_readHours : Nat → Int32) (m_readCracked : Nat → Int32) (Cc : Cx p s m args meth c RX5 cX5_besides 3 (some .int)) (hK : va_K D classes (tysA cI cS) s) (hA : ∀ q, s.heap.size ≤ q → A q) (n : Nat) : ∀ (m_wide : Int32) (m_deep : Int32) (x1 : Int32) (y0 : Int32) (r : Int32), fX5_besides_18 n m_wide m_deep x1 y0 = some (r) → ∀ (H : Heap) (locs : List Loc) (ls : Array Slot), va_P D classes (W_m cI cS a_m a_m_sorts a_m_sheetLong a_m_cells a_m_kind a_m_wet a_m_readKind a_m_readWet a_m_keptWet a_m_readCells a_m_readHours a_m_readCracked m_fault m_trace m_sorts m_sheetLong m_cells m_sun m_wide m_deep m_hour m_kind m_wet m_at m_readSun m_readWide m_readDeep m_readKind m_readWet m_keptWet m_keptSun m_openFirst m_planHours m_readings m_readCells m_readHours m_readCracked) H → va_D A (W_m cI cS a_m a_m_sorts a_m_sheetLong a_m_cells a_m_kind a_m_wet a_m_readKind a_m_readWet a_m_keptWet a_m_readCells a_m_readHours a_m_readCracked m_fault m_trace m_sorts m_sheetLong m_cells m_sun m_wide m_deep m_hour m_kind m_wet m_at m_readSun m_readWide m_readDeep m_readKind m_readWet m_keptWet m_keptSun m_openFirst m_planHours m_readings m_readCells m_readHours m_readCracked) → va_S A s.heap H locs → lv_has ls 3 [(0, .ref a_m), (1, .int x1)] → W p l e (Rm 1) s m args below meth c H locs 0 0 (MQ below (QW D (tysA cI cS) (some (.int r)) (W_m cI cS a_m a_m_sorts a_m_sheetLong a_m_cells a_m_kind a_m_wet a_m_readKind a_m_readWet a_m_keptWet a_m_readCells a_m_readHours a_m_readCracked m_fault m_trace m_sorts m_sheetLong m_cells m_sun m_wide m_deep m_hour m_kind m_wet m_at m_readSun m_readWide m_readDeep m_readKind m_readWet m_keptWet m_keptSun m_openFirst m_planHours m_readings m_readCells m_readHours m_readCracked) A) args s 0 0 A) (F0 m 18 ls [.int y0]) := by
  obtain ⟨hx, hb, hr, hml, hown, hts, hlk, hnw⟩ := id Cc
  intro m_wide m_deep x1 y0 r hf H locs ls hP hD hS hl
  unfold fX5_besides_18 at hf
  refine lv_istore_n (lv' := [(2, .int y0), (0, .ref a_m), (1, .int x1)]) hx hb dX5_besides_18 rfl hl (by decide) rfl (fun ls hl => ?_)
  refine lv_iload_n hx hb dX5_besides_19 rfl (lv_at hl 0 rfl) ?_
  refine lv_iload_n hx hb dX5_besides_20 rfl (lv_at hl 2 rfl) ?_
  refine lv_aload_n hx hb dX5_besides_21 rfl (lv_at hl 1 rfl) ?_
  refine va_get (D := D) (ci := 5) (v := .int m_wide) (C := RX5) (T := TX5) (N := 25) hx hb hts inX5 hown hK hP 0 rfl rfl 6 (by decide) (hts _ tw_509) (fun _ h9 => h9) rfl dX5_besides_22 ?_
  obtain ⟨hz, hf⟩ := nz_some hf
  refine lv_irem hx hb dX5_besides_25 hz ?_
  refine lv_aload_n hx hb dX5_besides_26 rfl (lv_at hl 1 rfl) ?_
  refine va_get (D := D) (ci := 5) (v := .int m_wide) (C := RX5) (T := TX5) (N := 25) hx hb hts inX5 hown hK hP 0 rfl rfl 6 (by decide) (hts _ tw_509) (fun _ h9 => h9) rfl dX5_besides_27 ?_
  refine lv_iconst (v := (1 : Int32)) hx hb dX5_besides_30 (by decide) ?_
  refine lv_isub hx hb dX5_besides_31 ?_
  refine lv_icmp_ge (tgt := 43) hx hb dX5_besides_32 (by decide) (fun hc2 => ?_) (fun hc2 => ?_)
  · replace hf := (if_pos hc2).symm.trans hf
    refine lv_iconst (v := (0 : Int32)) hx hb dX5_besides_43 (by decide) ?_
    exact bX5_besides_44 a_m a_m_sorts a_m_sheetLong a_m_cells a_m_kind a_m_wet a_m_readKind a_m_readWet a_m_keptWet a_m_readCells a_m_readHours a_m_readCracked m_fault m_trace m_sorts m_sheetLong m_cells m_sun m_hour m_kind m_wet m_at m_readSun m_readWide m_readDeep m_readKind m_readWet m_keptWet m_keptSun m_openFirst m_planHours m_readings m_readCells m_readHours m_readCracked Cc hK hA n _ _ _ _ _ _ hf _ _ _ hP hD hS (lv_sub hl [1, 2] rfl)
  · replace hf := (if_neg hc2).symm.trans hf
    refine lv_iconst (v := (1 : Int32)) hx hb dX5_besides_35 (by decide) ?_
    refine lv_iload_n hx hb dX5_besides_36 rfl (lv_at hl 2 rfl) ?_
    refine lv_iconst (v := (1 : Int32)) hx hb dX5_besides_37 (by decide) ?_
    refine lv_iadd hx hb dX5_besides_38 ?_
    refine lv_ishl hx hb dX5_besides_39 ?_
    refine lv_goto (tgt := 44) hx hb dX5_besides_40 (by decide) ?_
    exact bX5_besides_44 a_m a_m_sorts a_m_sheetLong a_m_cells a_m_kind a_m_wet a_m_readKind a_m_readWet a_m_keptWet a_m_readCells a_m_readHours a_m_readCracked m_fault m_trace m_sorts m_sheetLong m_cells m_sun m_hour m_kind m_wet m_at m_readSun m_readWide m_readDeep m_readKind m_readWet m_keptWet m_keptSun m_openFirst m_planHours m_readings m_readCells m_readHours m_readCracked Cc hK hA n _ _ _ _ _ _ hf _ _ _ hP hD hS (lv_sub hl [1, 2] rfl)
set_option maxHeartbeats 4000000 in
set_option maxRecDepth 100000 in
theorem ctX5_besides (l : Launch) (D : va_G) (cI cS : ClassId) (a_m a_m_sorts a_m_sheetLong a_m_cells a_m_kind a_m_wet a_m_readKind a_m_readWet a_m_keptWet a_m_readCells a_m_readHours a_m_readCracked : Nat) (m_fault : Int32) (m_trace : Int32) (m_sorts : Nat → Int32) (m_sheetLong : Nat → Int32) (m_cells : Nat → Int32) (m_sun : Int32) (m_wide : Int32) (m_deep : Int32) (m_hour : Int32) (m_kind : Nat → Int32) (m_wet : Nat → Int32) (m_at : Int32) (m_readSun : Int32) (m_readWide : Int32) (m_readDeep : Int32) (m_readKind : Nat → Int32) (m_readWet : Nat → Int32) (m_keptWet : Nat → Int32) (m_keptSun : Int32) (m_openFirst : Int32) (m_planHours : Int32) (m_readings : Int32) (m_readCells : Nat → Int32) (m_readHours : Nat → Int32) (m_readCracked : Nat → Int32) (p1 : Int32) (n : Nat) (r : Int32) (hf : fX5_besides n m_wide m_deep p1 = some (r)) : Ct l D (tysA cI cS) yX5_besides cX5_besides 3 (some .int) (Rm 1) [.ref a_m, .int p1] (W_m cI cS a_m a_m_sorts a_m_sheetLong a_m_cells a_m_kind a_m_wet a_m_readKind a_m_readWet a_m_keptWet a_m_readCells a_m_readHours a_m_readCracked m_fault m_trace m_sorts m_sheetLong m_cells m_sun m_wide m_deep m_hour m_kind m_wet m_at m_readSun m_readWide m_readDeep m_readKind m_readWet m_keptWet m_keptSun m_openFirst m_planHours m_readings m_readCells m_readHours m_readCracked) (some (.int r)) (W_m cI cS a_m a_m_sorts a_m_sheetLong a_m_cells a_m_kind a_m_wet a_m_readKind a_m_readWet a_m_keptWet a_m_readCells a_m_readHours a_m_readCracked m_fault m_trace m_sorts m_sheetLong m_cells m_sun m_wide m_deep m_hour m_kind m_wet m_at m_readSun m_readWide m_readDeep m_readKind m_readWet m_keptWet m_keptSun m_openFirst m_planHours m_readings m_readCells m_readHours m_readCracked) := by
  refine Ct_of (by decide) (Nat.le_of_ble_eq_true rfl) ?_
  intro p e s m args below meth c A ls Cc hK hA hP hD hS hl
  have hl : lv_has ls 3 [(0, .ref a_m), (1, .int p1)] := hl
  obtain ⟨hx, hb, hr, hml, hown, hts, hlk, hnw⟩ := id Cc
  unfold fX5_besides at hf
  refine lv_iload_n hx hb dX5_besides_0 rfl (lv_at hl 1 rfl) ?_
  refine lv_aload_n hx hb dX5_besides_1 rfl (lv_at hl 0 rfl) ?_
  refine va_get (D := D) (ci := 5) (v := .int m_wide) (C := RX5) (T := TX5) (N := 25) hx hb hts inX5 hown hK hP 0 rfl rfl 6 (by decide) (hts _ tw_509) (fun _ h9 => h9) rfl dX5_besides_2 ?_
  obtain ⟨hz, hf⟩ := nz_some hf
  refine lv_irem hx hb dX5_besides_5 hz ?_
  refine lv_if_le (tgt := 17) hx hb dX5_besides_6 (by decide) (fun hc1 => ?_) (fun hc1 => ?_)
  · replace hf := (if_pos hc1).symm.trans hf
    refine lv_iconst (v := (0 : Int32)) hx hb dX5_besides_17 (by decide) ?_
    exact bX5_besides_18 a_m a_m_sorts a_m_sheetLong a_m_cells a_m_kind a_m_wet a_m_readKind a_m_readWet a_m_keptWet a_m_readCells a_m_readHours a_m_readCracked m_fault m_trace m_sorts m_sheetLong m_cells m_sun m_hour m_kind m_wet m_at m_readSun m_readWide m_readDeep m_readKind m_readWet m_keptWet m_keptSun m_openFirst m_planHours m_readings m_readCells m_readHours m_readCracked Cc hK hA n _ _ _ _ _ hf _ _ _ hP hD hS (lv_sub hl [0, 1] rfl)
  · replace hf := (if_neg hc1).symm.trans hf
    refine lv_iconst (v := (1 : Int32)) hx hb dX5_besides_9 (by decide) ?_
    refine lv_iload_n hx hb dX5_besides_10 rfl (lv_at hl 1 rfl) ?_
    refine lv_iconst (v := (1 : Int32)) hx hb dX5_besides_11 (by decide) ?_
    refine lv_isub hx hb dX5_besides_12 ?_
    refine lv_ishl hx hb dX5_besides_13 ?_
    refine lv_goto (tgt := 18) hx hb dX5_besides_14 (by decide) ?_
    exact bX5_besides_18 a_m a_m_sorts a_m_sheetLong a_m_cells a_m_kind a_m_wet a_m_readKind a_m_readWet a_m_keptWet a_m_readCells a_m_readHours a_m_readCracked m_fault m_trace m_sorts m_sheetLong m_cells m_sun m_hour m_kind m_wet m_at m_readSun m_readWide m_readDeep m_readKind m_readWet m_keptWet m_keptSun m_openFirst m_planHours m_readings m_readCells m_readHours m_readCracked Cc hK hA n _ _ _ _ _ hf _ _ _ hP hD hS (lv_sub hl [0, 1] rfl)
-- X5_spreadIn
def fX5_spreadIn_19 (n : Nat) (K : Int32 → Int32 → Int32 → Int32 → Int32 → Option (Int32)) : Nat → Int32 → Int32 → Int32 → Int32 → Int32 → Int32 → Option (Int32)
  | 0, _, _, _, _, _, _ => none
  | k + 1, m_wide, m_deep, x1, x3, x4, x5 => (fX5_cellsOf n m_wide m_deep).bind fun q22_1 => if q22_1 ≤ x5 then K m_wide m_deep x1 x3 x4 else (fX5_isOf n x1 x5).bind fun q32_1 => if q32_1 = 0 then fX5_spreadIn_19 n K k m_wide m_deep x1 (x3 ||| (0 : Int32)) x4 (x5 + 1) else (fX5_besides n m_wide m_deep x5).bind fun q41_1 => if (q41_1 &&& x3) = 0 then fX5_spreadIn_19 n K k m_wide m_deep x1 (x3 ||| (0 : Int32)) x4 (x5 + 1) else fX5_spreadIn_19 n K k m_wide m_deep x1 (x3 ||| ((1 : Int32) <<< (x5 &&& 31))) x4 (x5 + 1)
def fX5_spreadIn_7 (n : Nat) : Nat → Int32 → Int32 → Int32 → Int32 → Int32 → Option (Int32)
  | 0, _, _, _, _, _ => none
  | k + 1, m_wide, m_deep, x1, x3, x4 => if x3 = x4 then some (x3) else fX5_spreadIn_19 n (fun m_wide m_deep x1 x3 x4 => fX5_spreadIn_7 n k m_wide m_deep x1 x3 x4) n m_wide m_deep x1 x3 x3 (0 : Int32)
def fX5_spreadIn (n : Nat) (m_wide : Int32) (m_deep : Int32) (p1 : Int32) (p2 : Int32) : Option (Int32) := fX5_spreadIn_7 n n m_wide m_deep p1 (p1 &&& p2) (0 : Int32)
theorem mdX5_spreadIn : yX5_spreadIn.cls = RX5 ∧ yX5_spreadIn.cls ≠ "java/lang/invoke/MethodHandle" ∧ yX5_spreadIn.cls ≠ "java/lang/invoke/VarHandle" ∧ (parseMethodDescriptor yX5_spreadIn.desc).map (fun d => d.parameters.length) = some 2 := by decide +kernel
set_option maxHeartbeats 4000000 in
set_option maxRecDepth 100000 in
theorem bX5_spreadIn_19 {p : Program} {l : Launch} {e : Env} {s : State} {m : MethodId} {args : Array Value} {below : List Frame} {meth : Method} {c : Code} {A : Nat → Prop} {D : va_G} {cI cS : ClassId} (a_m a_m_sorts a_m_sheetLong a_m_cells a_m_kind a_m_wet a_m_readKind a_m_readWet a_m_keptWet a_m_readCells a_m_readHours a_m_readCracked : Nat) (m_fault : Int32) (m_trace : Int32) (m_sorts : Nat → Int32) (m_sheetLong : Nat → Int32) (m_cells : Nat → Int32) (m_sun : Int32) (m_hour : Int32) (m_kind : Nat → Int32) (m_wet : Nat → Int32) (m_at : Int32) (m_readSun : Int32) (m_readWide : Int32) (m_readDeep : Int32) (m_readKind : Nat → Int32) (m_readWet : Nat → Int32) (m_keptWet : Nat → Int32) (m_keptSun : Int32) (m_openFirst : Int32) (m_planHours : Int32) (m_readings : Int32) (m_readCells : Nat → Int32) (m_readHours : Nat → Int32) (m_readCracked : Nat → Int32) (Cc : Cx p s m args meth c RX5 cX5_spreadIn 6 (some .int)) (hK : va_K D classes (tysA cI cS) s) (hA : ∀ q, s.heap.size ≤ q → A q) (n : Nat) (K : Int32 → Int32 → Int32 → Int32 → Int32 → Option (Int32)) (r : Int32) (hKK : ∀ (m_wide : Int32) (m_deep : Int32) (x1 : Int32) (x3 : Int32) (x4 : Int32), K m_wide m_deep x1 x3 x4 = some (r) → ∀ (H : Heap) (locs : List Loc) (ls : Array Slot), va_P D classes (W_m cI cS a_m a_m_sorts a_m_sheetLong a_m_cells a_m_kind a_m_wet a_m_readKind a_m_readWet a_m_keptWet a_m_readCells a_m_readHours a_m_readCracked m_fault m_trace m_sorts m_sheetLong m_cells m_sun m_wide m_deep m_hour m_kind m_wet m_at m_readSun m_readWide m_readDeep m_readKind m_readWet m_keptWet m_keptSun m_openFirst m_planHours m_readings m_readCells m_readHours m_readCracked) H → va_D A (W_m cI cS a_m a_m_sorts a_m_sheetLong a_m_cells a_m_kind a_m_wet a_m_readKind a_m_readWet a_m_keptWet a_m_readCells a_m_readHours a_m_readCracked m_fault m_trace m_sorts m_sheetLong m_cells m_sun m_wide m_deep m_hour m_kind m_wet m_at m_readSun m_readWide m_readDeep m_readKind m_readWet m_keptWet m_keptSun m_openFirst m_planHours m_readings m_readCells m_readHours m_readCracked) → va_S A s.heap H locs → lv_has ls 6 [(0, .ref a_m), (1, .int x1), (3, .int x3), (4, .int x4)] → W p l e (Rm 2) s m args below meth c H locs 0 0 (MQ below (QW D (tysA cI cS) (some (.int r)) (W_m cI cS a_m a_m_sorts a_m_sheetLong a_m_cells a_m_kind a_m_wet a_m_readKind a_m_readWet a_m_keptWet a_m_readCells a_m_readHours a_m_readCracked m_fault m_trace m_sorts m_sheetLong m_cells m_sun m_wide m_deep m_hour m_kind m_wet m_at m_readSun m_readWide m_readDeep m_readKind m_readWet m_keptWet m_keptSun m_openFirst m_planHours m_readings m_readCells m_readHours m_readCracked) A) args s 0 0 A) (F0 m 65 ls [])) : ∀ (k : Nat) (m_wide : Int32) (m_deep : Int32) (x1 : Int32) (x3 : Int32) (x4 : Int32) (x5 : Int32), fX5_spreadIn_19 n K k m_wide m_deep x1 x3 x4 x5 = some (r) → ∀ (H : Heap) (locs : List Loc) (ls : Array Slot), va_P D classes (W_m cI cS a_m a_m_sorts a_m_sheetLong a_m_cells a_m_kind a_m_wet a_m_readKind a_m_readWet a_m_keptWet a_m_readCells a_m_readHours a_m_readCracked m_fault m_trace m_sorts m_sheetLong m_cells m_sun m_wide m_deep m_hour m_kind m_wet m_at m_readSun m_readWide m_readDeep m_readKind m_readWet m_keptWet m_keptSun m_openFirst m_planHours m_readings m_readCells m_readHours m_readCracked) H → va_D A (W_m cI cS a_m a_m_sorts a_m_sheetLong a_m_cells a_m_kind a_m_wet a_m_readKind a_m_readWet a_m_keptWet a_m_readCells a_m_readHours a_m_readCracked m_fault m_trace m_sorts m_sheetLong m_cells m_sun m_wide m_deep m_hour m_kind m_wet m_at m_readSun m_readWide m_readDeep m_readKind m_readWet m_keptWet m_keptSun m_openFirst m_planHours m_readings m_readCells m_readHours m_readCracked) → va_S A s.heap H locs → lv_has ls 6 [(0, .ref a_m), (1, .int x1), (3, .int x3), (4, .int x4), (5, .int x5)] → W p l e (Rm 2) s m args below meth c H locs 0 0 (MQ below (QW D (tysA cI cS) (some (.int r)) (W_m cI cS a_m a_m_sorts a_m_sheetLong a_m_cells a_m_kind a_m_wet a_m_readKind a_m_readWet a_m_keptWet a_m_readCells a_m_readHours a_m_readCracked m_fault m_trace m_sorts m_sheetLong m_cells m_sun m_wide m_deep m_hour m_kind m_wet m_at m_readSun m_readWide m_readDeep m_readKind m_readWet m_keptWet m_keptSun m_openFirst m_planHours m_readings m_readCells m_readHours m_readCracked) A) args s 0 0 A) (F0 m 19 ls []) := by
  obtain ⟨hx, hb, hr, hml, hown, hts, hlk, hnw⟩ := id Cc
  intro k
  induction k with
  | zero =>
    intro m_wide m_deep x1 x3 x4 x5 hf
    rw [fX5_spreadIn_19] at hf
    cases hf
  | succ k ih =>
    intro m_wide m_deep x1 x3 x4 x5 hf H locs ls hP hD hS hl
    rw [fX5_spreadIn_19] at hf
    refine lv_iload hx hb dX5_spreadIn_19 (lv_at hl 4 rfl) ?_
    refine lv_aload_n hx hb dX5_spreadIn_21 rfl (lv_at hl 0 rfl) ?_
    obtain ⟨q22_1, hq2, hf⟩ := Option.bind_eq_some_iff.mp hf
    refine cV (ws' := (W_m cI cS a_m a_m_sorts a_m_sheetLong a_m_cells a_m_kind a_m_wet a_m_readKind a_m_readWet a_m_keptWet a_m_readCells a_m_readHours a_m_readCracked m_fault m_trace m_sorts m_sheetLong m_cells m_sun m_wide m_deep m_hour m_kind m_wet m_at m_readSun m_readWide m_readDeep m_readKind m_readWet m_keptWet m_keptSun m_openFirst m_planHours m_readings m_readCells m_readHours m_readCracked)) (rest := [.int x5]) (st1 := [.int q22_1, .int x5]) Cc hK hA hP hD hS hl.1 (ctX5_cellsOf l D cI cS a_m a_m_sorts a_m_sheetLong a_m_cells a_m_kind a_m_wet a_m_readKind a_m_readWet a_m_keptWet a_m_readCells a_m_readHours a_m_readCracked m_fault m_trace m_sorts m_sheetLong m_cells m_sun m_wide m_deep m_hour m_kind m_wet m_at m_readSun m_readWide m_readDeep m_readKind m_readWet m_keptWet m_keptSun m_openFirst m_planHours m_readings m_readCells m_readHours m_readCracked  n q22_1 hq2) ⟨tw_619, tw_616, tw_618, tp_17, tw_6⟩ mdX5_cellsOf ⟨rfl, rfl, Nat.le_of_ble_eq_true rfl, Nat.le_of_ble_eq_true rfl⟩ rfl dX5_spreadIn_22 rfl (Nat.le_of_ble_eq_true rfl) ⟨Nat.zero_le _, Nat.zero_le _⟩ rfl rfl rfl [0, 1, 2, 3, 4, 5, 6, 7, 8, 9, 10, 11] [] [0, 1, 2, 3, 4, 5, 6, 7, 8, 9, 10, 11] rfl rfl (by decide) rfl (fun H locs hP hD hS => ?_)
    refine lv_icmp_ge (tgt := 65) hx hb dX5_spreadIn_25 (by decide) (fun hc3 => ?_) (fun hc3 => ?_)
    · replace hf := (if_pos hc3).symm.trans hf
      exact hKK _ _ _ _ _ hf _ _ _ hP hD hS (lv_sub hl [0, 1, 2, 3] rfl)
    · replace hf := (if_neg hc3).symm.trans hf
      refine lv_iload_n hx hb dX5_spreadIn_28 rfl (lv_at hl 2 rfl) ?_
      refine lv_iload_n hx hb dX5_spreadIn_29 rfl (lv_at hl 1 rfl) ?_
      refine lv_iload hx hb dX5_spreadIn_30 (lv_at hl 4 rfl) ?_
      obtain ⟨q32_1, hq4, hf⟩ := Option.bind_eq_some_iff.mp hf
      refine cSt (ws' := (W_m cI cS a_m a_m_sorts a_m_sheetLong a_m_cells a_m_kind a_m_wet a_m_readKind a_m_readWet a_m_keptWet a_m_readCells a_m_readHours a_m_readCracked m_fault m_trace m_sorts m_sheetLong m_cells m_sun m_wide m_deep m_hour m_kind m_wet m_at m_readSun m_readWide m_readDeep m_readKind m_readWet m_keptWet m_keptSun m_openFirst m_planHours m_readings m_readCells m_readHours m_readCracked)) (rest := [.int x3]) (st1 := [.int q32_1, .int x3]) Cc hK hA hP hD hS hl.1 (ctX5_isOf l D cI cS   x1 x5 n q32_1 hq4) ⟨tw_650, tw_648, tw_649, tw_6⟩ mdX5_isOf ⟨rfl, rfl, Nat.le_of_ble_eq_true rfl, Nat.le_of_ble_eq_true rfl⟩ rfl dX5_spreadIn_32 rfl (Nat.le_of_ble_eq_true rfl) ⟨Nat.zero_le _, Nat.zero_le _⟩ rfl [] [0, 1, 2, 3, 4, 5, 6, 7, 8, 9, 10, 11] [0, 1, 2, 3, 4, 5, 6, 7, 8, 9, 10, 11] rfl rfl (by decide) rfl (fun H locs hP hD hS => ?_)
      refine lv_if_eq (tgt := 56) hx hb dX5_spreadIn_35 (by decide) (fun hc5 => ?_) (fun hc5 => ?_)
      · replace hf := (if_pos hc5).symm.trans hf
        refine lv_iconst (v := (0 : Int32)) hx hb dX5_spreadIn_56 (by decide) ?_
        refine lv_ior hx hb dX5_spreadIn_57 ?_
        refine lv_istore_n (lv' := [(3, .int (x3 ||| (0 : Int32))), (0, .ref a_m), (1, .int x1), (4, .int x4), (5, .int x5)]) hx hb dX5_spreadIn_58 rfl hl (by decide) rfl (fun ls hl => ?_)
        refine lv_iinc (v := (x5 + 1)) (lv' := [(5, .int (x5 + 1)), (3, .int (x3 ||| (0 : Int32))), (0, .ref a_m), (1, .int x1), (4, .int x4)]) hx hb dX5_spreadIn_59 hl (k := 4) rfl rfl (by decide) rfl (fun ls hl => ?_)
        refine lv_goto (tgt := 19) hx hb dX5_spreadIn_62 (by decide) ?_
        exact ih _ _ _ _ _ _ hf _ _ _ hP hD hS (lv_sub hl [2, 3, 1, 4, 0] rfl)
      · replace hf := (if_neg hc5).symm.trans hf
        refine lv_aload_n hx hb dX5_spreadIn_38 rfl (lv_at hl 0 rfl) ?_
        refine lv_iload hx hb dX5_spreadIn_39 (lv_at hl 4 rfl) ?_
        obtain ⟨q41_1, hq6, hf⟩ := Option.bind_eq_some_iff.mp hf
        refine cV (ws' := (W_m cI cS a_m a_m_sorts a_m_sheetLong a_m_cells a_m_kind a_m_wet a_m_readKind a_m_readWet a_m_keptWet a_m_readCells a_m_readHours a_m_readCracked m_fault m_trace m_sorts m_sheetLong m_cells m_sun m_wide m_deep m_hour m_kind m_wet m_at m_readSun m_readWide m_readDeep m_readKind m_readWet m_keptWet m_keptSun m_openFirst m_planHours m_readings m_readCells m_readHours m_readCracked)) (rest := [.int x3]) (st1 := [.int q41_1, .int x3]) Cc hK hA hP hD hS hl.1 (ctX5_besides l D cI cS a_m a_m_sorts a_m_sheetLong a_m_cells a_m_kind a_m_wet a_m_readKind a_m_readWet a_m_keptWet a_m_readCells a_m_readHours a_m_readCracked m_fault m_trace m_sorts m_sheetLong m_cells m_sun m_wide m_deep m_hour m_kind m_wet m_at m_readSun m_readWide m_readDeep m_readKind m_readWet m_keptWet m_keptSun m_openFirst m_planHours m_readings m_readCells m_readHours m_readCracked x5 n q41_1 hq6) ⟨tw_654, tw_651, tw_653, tp_24, tw_6⟩ mdX5_besides ⟨rfl, rfl, Nat.le_of_ble_eq_true rfl, Nat.le_of_ble_eq_true rfl⟩ rfl dX5_spreadIn_41 rfl (Nat.le_of_ble_eq_true rfl) ⟨Nat.zero_le _, Nat.zero_le _⟩ rfl rfl rfl [0, 1, 2, 3, 4, 5, 6, 7, 8, 9, 10, 11] [] [0, 1, 2, 3, 4, 5, 6, 7, 8, 9, 10, 11] rfl rfl (by decide) rfl (fun H locs hP hD hS => ?_)
        refine lv_iload_n hx hb dX5_spreadIn_44 rfl (lv_at hl 2 rfl) ?_
        refine lv_iand hx hb dX5_spreadIn_45 ?_
        refine lv_if_eq (tgt := 56) hx hb dX5_spreadIn_46 (by decide) (fun hc7 => ?_) (fun hc7 => ?_)
        · replace hf := (if_pos hc7).symm.trans hf
          refine lv_iconst (v := (0 : Int32)) hx hb dX5_spreadIn_56 (by decide) ?_
          refine lv_ior hx hb dX5_spreadIn_57 ?_
          refine lv_istore_n (lv' := [(3, .int (x3 ||| (0 : Int32))), (0, .ref a_m), (1, .int x1), (4, .int x4), (5, .int x5)]) hx hb dX5_spreadIn_58 rfl hl (by decide) rfl (fun ls hl => ?_)
          refine lv_iinc (v := (x5 + 1)) (lv' := [(5, .int (x5 + 1)), (3, .int (x3 ||| (0 : Int32))), (0, .ref a_m), (1, .int x1), (4, .int x4)]) hx hb dX5_spreadIn_59 hl (k := 4) rfl rfl (by decide) rfl (fun ls hl => ?_)
          refine lv_goto (tgt := 19) hx hb dX5_spreadIn_62 (by decide) ?_
          exact ih _ _ _ _ _ _ hf _ _ _ hP hD hS (lv_sub hl [2, 3, 1, 4, 0] rfl)
        · replace hf := (if_neg hc7).symm.trans hf
          refine lv_iconst (v := (1 : Int32)) hx hb dX5_spreadIn_49 (by decide) ?_
          refine lv_iload hx hb dX5_spreadIn_50 (lv_at hl 4 rfl) ?_
          refine lv_ishl hx hb dX5_spreadIn_52 ?_
          refine lv_goto (tgt := 57) hx hb dX5_spreadIn_53 (by decide) ?_
          refine lv_ior hx hb dX5_spreadIn_57 ?_
          refine lv_istore_n (lv' := [(3, .int (x3 ||| ((1 : Int32) <<< (x5 &&& 31)))), (0, .ref a_m), (1, .int x1), (4, .int x4), (5, .int x5)]) hx hb dX5_spreadIn_58 rfl hl (by decide) rfl (fun ls hl => ?_)
          refine lv_iinc (v := (x5 + 1)) (lv' := [(5, .int (x5 + 1)), (3, .int (x3 ||| ((1 : Int32) <<< (x5 &&& 31)))), (0, .ref a_m), (1, .int x1), (4, .int x4)]) hx hb dX5_spreadIn_59 hl (k := 4) rfl rfl (by decide) rfl (fun ls hl => ?_)
          refine lv_goto (tgt := 19) hx hb dX5_spreadIn_62 (by decide) ?_
          exact ih _ _ _ _ _ _ hf _ _ _ hP hD hS (lv_sub hl [2, 3, 1, 4, 0] rfl)
set_option maxHeartbeats 4000000 in
set_option maxRecDepth 100000 in
theorem bX5_spreadIn_7 {p : Program} {l : Launch} {e : Env} {s : State} {m : MethodId} {args : Array Value} {below : List Frame} {meth : Method} {c : Code} {A : Nat → Prop} {D : va_G} {cI cS : ClassId} (a_m a_m_sorts a_m_sheetLong a_m_cells a_m_kind a_m_wet a_m_readKind a_m_readWet a_m_keptWet a_m_readCells a_m_readHours a_m_readCracked : Nat) (m_fault : Int32) (m_trace : Int32) (m_sorts : Nat → Int32) (m_sheetLong : Nat → Int32) (m_cells : Nat → Int32) (m_sun : Int32) (m_hour : Int32) (m_kind : Nat → Int32) (m_wet : Nat → Int32) (m_at : Int32) (m_readSun : Int32) (m_readWide : Int32) (m_readDeep : Int32) (m_readKind : Nat → Int32) (m_readWet : Nat → Int32) (m_keptWet : Nat → Int32) (m_keptSun : Int32) (m_openFirst : Int32) (m_planHours : Int32) (m_readings : Int32) (m_readCells : Nat → Int32) (m_readHours : Nat → Int32) (m_readCracked : Nat → Int32) (Cc : Cx p s m args meth c RX5 cX5_spreadIn 6 (some .int)) (hK : va_K D classes (tysA cI cS) s) (hA : ∀ q, s.heap.size ≤ q → A q) (n : Nat) : ∀ (k : Nat) (m_wide : Int32) (m_deep : Int32) (x1 : Int32) (x3 : Int32) (x4 : Int32) (r : Int32), fX5_spreadIn_7 n k m_wide m_deep x1 x3 x4 = some (r) → ∀ (H : Heap) (locs : List Loc) (ls : Array Slot), va_P D classes (W_m cI cS a_m a_m_sorts a_m_sheetLong a_m_cells a_m_kind a_m_wet a_m_readKind a_m_readWet a_m_keptWet a_m_readCells a_m_readHours a_m_readCracked m_fault m_trace m_sorts m_sheetLong m_cells m_sun m_wide m_deep m_hour m_kind m_wet m_at m_readSun m_readWide m_readDeep m_readKind m_readWet m_keptWet m_keptSun m_openFirst m_planHours m_readings m_readCells m_readHours m_readCracked) H → va_D A (W_m cI cS a_m a_m_sorts a_m_sheetLong a_m_cells a_m_kind a_m_wet a_m_readKind a_m_readWet a_m_keptWet a_m_readCells a_m_readHours a_m_readCracked m_fault m_trace m_sorts m_sheetLong m_cells m_sun m_wide m_deep m_hour m_kind m_wet m_at m_readSun m_readWide m_readDeep m_readKind m_readWet m_keptWet m_keptSun m_openFirst m_planHours m_readings m_readCells m_readHours m_readCracked) → va_S A s.heap H locs → lv_has ls 6 [(0, .ref a_m), (1, .int x1), (3, .int x3), (4, .int x4)] → W p l e (Rm 2) s m args below meth c H locs 0 0 (MQ below (QW D (tysA cI cS) (some (.int r)) (W_m cI cS a_m a_m_sorts a_m_sheetLong a_m_cells a_m_kind a_m_wet a_m_readKind a_m_readWet a_m_keptWet a_m_readCells a_m_readHours a_m_readCracked m_fault m_trace m_sorts m_sheetLong m_cells m_sun m_wide m_deep m_hour m_kind m_wet m_at m_readSun m_readWide m_readDeep m_readKind m_readWet m_keptWet m_keptSun m_openFirst m_planHours m_readings m_readCells m_readHours m_readCracked) A) args s 0 0 A) (F0 m 7 ls []) := by
  obtain ⟨hx, hb, hr, hml, hown, hts, hlk, hnw⟩ := id Cc
  intro k
  induction k with
  | zero =>
    intro m_wide m_deep x1 x3 x4 r hf
    rw [fX5_spreadIn_7] at hf
    cases hf
  | succ k ih =>
    intro m_wide m_deep x1 x3 x4 r hf H locs ls hP hD hS hl
    rw [fX5_spreadIn_7] at hf
    refine lv_iload_n hx hb dX5_spreadIn_7 rfl (lv_at hl 2 rfl) ?_
    refine lv_iload hx hb dX5_spreadIn_8 (lv_at hl 3 rfl) ?_
    refine lv_icmp_eq (tgt := 68) hx hb dX5_spreadIn_10 (by decide) (fun hc1 => ?_) (fun hc1 => ?_)
    · replace hf := (if_pos hc1).symm.trans hf
      refine lv_iload_n hx hb dX5_spreadIn_68 rfl (lv_at hl 2 rfl) ?_
      obtain rfl := Option.some.inj hf
      exact rt_i Cc hK hP hD hS dX5_spreadIn_69
    · replace hf := (if_neg hc1).symm.trans hf
      refine lv_iload_n hx hb dX5_spreadIn_13 rfl (lv_at hl 2 rfl) ?_
      refine lv_istore (lv' := [(4, .int x3), (0, .ref a_m), (1, .int x1), (3, .int x3)]) hx hb dX5_spreadIn_14 hl (by decide) rfl (fun ls hl => ?_)
      refine lv_iconst (v := (0 : Int32)) hx hb dX5_spreadIn_16 (by decide) ?_
      refine lv_istore (lv' := [(5, .int (0 : Int32)), (4, .int x3), (0, .ref a_m), (1, .int x1), (3, .int x3)]) hx hb dX5_spreadIn_17 hl (by decide) rfl (fun ls hl => ?_)
      refine bX5_spreadIn_19 a_m a_m_sorts a_m_sheetLong a_m_cells a_m_kind a_m_wet a_m_readKind a_m_readWet a_m_keptWet a_m_readCells a_m_readHours a_m_readCracked m_fault m_trace m_sorts m_sheetLong m_cells m_sun m_hour m_kind m_wet m_at m_readSun m_readWide m_readDeep m_readKind m_readWet m_keptWet m_keptSun m_openFirst m_planHours m_readings m_readCells m_readHours m_readCracked Cc hK hA n _ _ ?_ n _ _ _ _ _ _ hf _ _ _ hP hD hS (lv_sub hl [2, 3, 4, 1, 0] rfl)
      clear hf hP hD hS hl
      intro m_wide m_deep x1 x3 x4 hf H locs ls hP hD hS hl
      try dsimp only at hf
      refine lv_goto (tgt := 7) hx hb dX5_spreadIn_65 (by decide) ?_
      exact ih _ _ _ _ _ _ hf _ _ _ hP hD hS (lv_sub hl [0, 1, 2, 3] rfl)
set_option maxHeartbeats 4000000 in
set_option maxRecDepth 100000 in
theorem ctX5_spreadIn (l : Launch) (D : va_G) (cI cS : ClassId) (a_m a_m_sorts a_m_sheetLong a_m_cells a_m_kind a_m_wet a_m_readKind a_m_readWet a_m_keptWet a_m_readCells a_m_readHours a_m_readCracked : Nat) (m_fault : Int32) (m_trace : Int32) (m_sorts : Nat → Int32) (m_sheetLong : Nat → Int32) (m_cells : Nat → Int32) (m_sun : Int32) (m_wide : Int32) (m_deep : Int32) (m_hour : Int32) (m_kind : Nat → Int32) (m_wet : Nat → Int32) (m_at : Int32) (m_readSun : Int32) (m_readWide : Int32) (m_readDeep : Int32) (m_readKind : Nat → Int32) (m_readWet : Nat → Int32) (m_keptWet : Nat → Int32) (m_keptSun : Int32) (m_openFirst : Int32) (m_planHours : Int32) (m_readings : Int32) (m_readCells : Nat → Int32) (m_readHours : Nat → Int32) (m_readCracked : Nat → Int32) (p1 : Int32) (p2 : Int32) (n : Nat) (r : Int32) (hf : fX5_spreadIn n m_wide m_deep p1 p2 = some (r)) : Ct l D (tysA cI cS) yX5_spreadIn cX5_spreadIn 6 (some .int) (Rm 2) [.ref a_m, .int p1, .int p2] (W_m cI cS a_m a_m_sorts a_m_sheetLong a_m_cells a_m_kind a_m_wet a_m_readKind a_m_readWet a_m_keptWet a_m_readCells a_m_readHours a_m_readCracked m_fault m_trace m_sorts m_sheetLong m_cells m_sun m_wide m_deep m_hour m_kind m_wet m_at m_readSun m_readWide m_readDeep m_readKind m_readWet m_keptWet m_keptSun m_openFirst m_planHours m_readings m_readCells m_readHours m_readCracked) (some (.int r)) (W_m cI cS a_m a_m_sorts a_m_sheetLong a_m_cells a_m_kind a_m_wet a_m_readKind a_m_readWet a_m_keptWet a_m_readCells a_m_readHours a_m_readCracked m_fault m_trace m_sorts m_sheetLong m_cells m_sun m_wide m_deep m_hour m_kind m_wet m_at m_readSun m_readWide m_readDeep m_readKind m_readWet m_keptWet m_keptSun m_openFirst m_planHours m_readings m_readCells m_readHours m_readCracked) := by
  refine Ct_of (by decide) (Nat.le_of_ble_eq_true rfl) ?_
  intro p e s m args below meth c A ls Cc hK hA hP hD hS hl
  have hl : lv_has ls 6 [(0, .ref a_m), (1, .int p1), (2, .int p2)] := hl
  obtain ⟨hx, hb, hr, hml, hown, hts, hlk, hnw⟩ := id Cc
  unfold fX5_spreadIn at hf
  refine lv_iload_n hx hb dX5_spreadIn_0 rfl (lv_at hl 1 rfl) ?_
  refine lv_iload_n hx hb dX5_spreadIn_1 rfl (lv_at hl 2 rfl) ?_
  refine lv_iand hx hb dX5_spreadIn_2 ?_
  refine lv_istore_n (lv' := [(3, .int (p1 &&& p2)), (0, .ref a_m), (1, .int p1), (2, .int p2)]) hx hb dX5_spreadIn_3 rfl hl (by decide) rfl (fun ls hl => ?_)
  refine lv_iconst (v := (0 : Int32)) hx hb dX5_spreadIn_4 (by decide) ?_
  refine lv_istore (lv' := [(4, .int (0 : Int32)), (3, .int (p1 &&& p2)), (0, .ref a_m), (1, .int p1), (2, .int p2)]) hx hb dX5_spreadIn_5 hl (by decide) rfl (fun ls hl => ?_)
  exact bX5_spreadIn_7 a_m a_m_sorts a_m_sheetLong a_m_cells a_m_kind a_m_wet a_m_readKind a_m_readWet a_m_keptWet a_m_readCells a_m_readHours a_m_readCracked m_fault m_trace m_sorts m_sheetLong m_cells m_sun m_hour m_kind m_wet m_at m_readSun m_readWide m_readDeep m_readKind m_readWet m_keptWet m_keptSun m_openFirst m_planHours m_readings m_readCells m_readHours m_readCracked Cc hK hA n n _ _ _ _ _ _ hf _ _ _ hP hD hS (lv_sub hl [2, 3, 1, 0] rfl)
-- X5_isOpen
def fX5_isOpen (n : Nat) (m_wide : Int32) (m_deep : Int32) (p1 : Int32) : Option (Int32) := (fX5_spreadIn n m_wide m_deep p1 (((1 : Int32) <<< (m_wide &&& 31)) - (1 : Int32))).bind fun q26_1 => if (q26_1 &&& ((((1 : Int32) <<< (m_wide &&& 31)) - (1 : Int32)) <<< ((m_wide * (m_deep - (1 : Int32))) &&& 31))) = 0 then some ((0 : Int32)) else some ((1 : Int32))
theorem mdX5_isOpen : yX5_isOpen.cls = RX5 ∧ yX5_isOpen.cls ≠ "java/lang/invoke/MethodHandle" ∧ yX5_isOpen.cls ≠ "java/lang/invoke/VarHandle" ∧ (parseMethodDescriptor yX5_isOpen.desc).map (fun d => d.parameters.length) = some 1 := by decide +kernel
set_option maxHeartbeats 4000000 in
set_option maxRecDepth 100000 in
theorem ctX5_isOpen (l : Launch) (D : va_G) (cI cS : ClassId) (a_m a_m_sorts a_m_sheetLong a_m_cells a_m_kind a_m_wet a_m_readKind a_m_readWet a_m_keptWet a_m_readCells a_m_readHours a_m_readCracked : Nat) (m_fault : Int32) (m_trace : Int32) (m_sorts : Nat → Int32) (m_sheetLong : Nat → Int32) (m_cells : Nat → Int32) (m_sun : Int32) (m_wide : Int32) (m_deep : Int32) (m_hour : Int32) (m_kind : Nat → Int32) (m_wet : Nat → Int32) (m_at : Int32) (m_readSun : Int32) (m_readWide : Int32) (m_readDeep : Int32) (m_readKind : Nat → Int32) (m_readWet : Nat → Int32) (m_keptWet : Nat → Int32) (m_keptSun : Int32) (m_openFirst : Int32) (m_planHours : Int32) (m_readings : Int32) (m_readCells : Nat → Int32) (m_readHours : Nat → Int32) (m_readCracked : Nat → Int32) (p1 : Int32) (n : Nat) (r : Int32) (hf : fX5_isOpen n m_wide m_deep p1 = some (r)) : Ct l D (tysA cI cS) yX5_isOpen cX5_isOpen 4 (some .boolean) (Rm 3) [.ref a_m, .int p1] (W_m cI cS a_m a_m_sorts a_m_sheetLong a_m_cells a_m_kind a_m_wet a_m_readKind a_m_readWet a_m_keptWet a_m_readCells a_m_readHours a_m_readCracked m_fault m_trace m_sorts m_sheetLong m_cells m_sun m_wide m_deep m_hour m_kind m_wet m_at m_readSun m_readWide m_readDeep m_readKind m_readWet m_keptWet m_keptSun m_openFirst m_planHours m_readings m_readCells m_readHours m_readCracked) (some (.int r)) (W_m cI cS a_m a_m_sorts a_m_sheetLong a_m_cells a_m_kind a_m_wet a_m_readKind a_m_readWet a_m_keptWet a_m_readCells a_m_readHours a_m_readCracked m_fault m_trace m_sorts m_sheetLong m_cells m_sun m_wide m_deep m_hour m_kind m_wet m_at m_readSun m_readWide m_readDeep m_readKind m_readWet m_keptWet m_keptSun m_openFirst m_planHours m_readings m_readCells m_readHours m_readCracked) := by
  refine Ct_of (by decide) (Nat.le_of_ble_eq_true rfl) ?_
  intro p e s m args below meth c A ls Cc hK hA hP hD hS hl
  have hl : lv_has ls 4 [(0, .ref a_m), (1, .int p1)] := hl
  obtain ⟨hx, hb, hr, hml, hown, hts, hlk, hnw⟩ := id Cc
  unfold fX5_isOpen at hf
  refine lv_iconst (v := (1 : Int32)) hx hb dX5_isOpen_0 (by decide) ?_
  refine lv_aload_n hx hb dX5_isOpen_1 rfl (lv_at hl 0 rfl) ?_
  refine va_get (D := D) (ci := 5) (v := .int m_wide) (C := RX5) (T := TX5) (N := 25) hx hb hts inX5 hown hK hP 0 rfl rfl 6 (by decide) (hts _ tw_509) (fun _ h9 => h9) rfl dX5_isOpen_2 ?_
  refine lv_ishl hx hb dX5_isOpen_5 ?_
  refine lv_iconst (v := (1 : Int32)) hx hb dX5_isOpen_6 (by decide) ?_
  refine lv_isub hx hb dX5_isOpen_7 ?_
  refine lv_istore_n (lv' := [(2, .int (((1 : Int32) <<< (m_wide &&& 31)) - (1 : Int32))), (0, .ref a_m), (1, .int p1)]) hx hb dX5_isOpen_8 rfl hl (by decide) rfl (fun ls hl => ?_)
  refine lv_iload_n hx hb dX5_isOpen_9 rfl (lv_at hl 0 rfl) ?_
  refine lv_aload_n hx hb dX5_isOpen_10 rfl (lv_at hl 1 rfl) ?_
  refine va_get (D := D) (ci := 5) (v := .int m_wide) (C := RX5) (T := TX5) (N := 25) hx hb hts inX5 hown hK hP 0 rfl rfl 6 (by decide) (hts _ tw_509) (fun _ h9 => h9) rfl dX5_isOpen_11 ?_
  refine lv_aload_n hx hb dX5_isOpen_14 rfl (lv_at hl 1 rfl) ?_
  refine va_get (D := D) (ci := 5) (v := .int m_deep) (C := RX5) (T := TX5) (N := 25) hx hb hts inX5 hown hK hP 0 rfl rfl 7 (by decide) (hts _ tw_510) (fun _ h9 => h9) rfl dX5_isOpen_15 ?_
  refine lv_iconst (v := (1 : Int32)) hx hb dX5_isOpen_18 (by decide) ?_
  refine lv_isub hx hb dX5_isOpen_19 ?_
  refine lv_imul hx hb dX5_isOpen_20 ?_
  refine lv_ishl hx hb dX5_isOpen_21 ?_
  refine lv_istore_n (lv' := [(3, .int ((((1 : Int32) <<< (m_wide &&& 31)) - (1 : Int32)) <<< ((m_wide * (m_deep - (1 : Int32))) &&& 31))), (2, .int (((1 : Int32) <<< (m_wide &&& 31)) - (1 : Int32))), (0, .ref a_m), (1, .int p1)]) hx hb dX5_isOpen_22 rfl hl (by decide) rfl (fun ls hl => ?_)
  refine lv_aload_n hx hb dX5_isOpen_23 rfl (lv_at hl 2 rfl) ?_
  refine lv_iload_n hx hb dX5_isOpen_24 rfl (lv_at hl 3 rfl) ?_
  refine lv_iload_n hx hb dX5_isOpen_25 rfl (lv_at hl 1 rfl) ?_
  obtain ⟨q26_1, hq1, hf⟩ := Option.bind_eq_some_iff.mp hf
  refine cV (ws' := (W_m cI cS a_m a_m_sorts a_m_sheetLong a_m_cells a_m_kind a_m_wet a_m_readKind a_m_readWet a_m_keptWet a_m_readCells a_m_readHours a_m_readCracked m_fault m_trace m_sorts m_sheetLong m_cells m_sun m_wide m_deep m_hour m_kind m_wet m_at m_readSun m_readWide m_readDeep m_readKind m_readWet m_keptWet m_keptSun m_openFirst m_planHours m_readings m_readCells m_readHours m_readCracked)) (rest := []) (st1 := [.int q26_1]) Cc hK hA hP hD hS hl.1 (ctX5_spreadIn l D cI cS a_m a_m_sorts a_m_sheetLong a_m_cells a_m_kind a_m_wet a_m_readKind a_m_readWet a_m_keptWet a_m_readCells a_m_readHours a_m_readCracked m_fault m_trace m_sorts m_sheetLong m_cells m_sun m_wide m_deep m_hour m_kind m_wet m_at m_readSun m_readWide m_readDeep m_readKind m_readWet m_keptWet m_keptSun m_openFirst m_planHours m_readings m_readCells m_readHours m_readCracked p1 (((1 : Int32) <<< (m_wide &&& 31)) - (1 : Int32)) n q26_1 hq1) ⟨tw_647, tw_644, tw_646, tp_23, tw_6⟩ mdX5_spreadIn ⟨rfl, rfl, Nat.le_of_ble_eq_true rfl, Nat.le_of_ble_eq_true rfl⟩ rfl dX5_isOpen_26 rfl (Nat.le_of_ble_eq_true rfl) ⟨Nat.zero_le _, Nat.zero_le _⟩ rfl rfl rfl [0, 1, 2, 3, 4, 5, 6, 7, 8, 9, 10, 11] [] [0, 1, 2, 3, 4, 5, 6, 7, 8, 9, 10, 11] rfl rfl (by decide) rfl (fun H locs hP hD hS => ?_)
  refine lv_iload_n hx hb dX5_isOpen_29 rfl (lv_at hl 0 rfl) ?_
  refine lv_iand hx hb dX5_isOpen_30 ?_
  refine lv_if_eq (tgt := 38) hx hb dX5_isOpen_31 (by decide) (fun hc2 => ?_) (fun hc2 => ?_)
  · replace hf := (if_pos hc2).symm.trans hf
    refine lv_iconst (v := (0 : Int32)) hx hb dX5_isOpen_38 (by decide) ?_
    obtain rfl := Option.some.inj hf
    exact rt_z Cc (by decide) hK hP hD hS dX5_isOpen_39
  · replace hf := (if_neg hc2).symm.trans hf
    refine lv_iconst (v := (1 : Int32)) hx hb dX5_isOpen_34 (by decide) ?_
    refine lv_goto (tgt := 39) hx hb dX5_isOpen_35 (by decide) ?_
    obtain rfl := Option.some.inj hf
    exact rt_z Cc (by decide) hK hP hD hS dX5_isOpen_39
-- X5_pieceOf
def fX5_pieceOf (n : Nat) (m_sun : Int32) (m_wide : Int32) (m_deep : Int32) (m_kind : Nat → Int32) (m_wet : Nat → Int32) (p1 : Int32) : Option (Int32) := (fX5_crackedBehind n m_sun m_wide m_deep m_kind m_wet (0 : Int32)).bind fun q2_1 => (fX5_cellsOf n m_wide m_deep).bind fun q8_2 => (fX5_spreadIn n m_wide m_deep ((((1 : Int32) <<< (q8_2 &&& 31)) - (1 : Int32)) &&& (q2_1 ^^^ (-1 : Int32))) ((1 : Int32) <<< (p1 &&& 31))).bind fun q24_3 => some (q24_3)
theorem mdX5_pieceOf : yX5_pieceOf.cls = RX5 ∧ yX5_pieceOf.cls ≠ "java/lang/invoke/MethodHandle" ∧ yX5_pieceOf.cls ≠ "java/lang/invoke/VarHandle" ∧ (parseMethodDescriptor yX5_pieceOf.desc).map (fun d => d.parameters.length) = some 1 := by decide +kernel
set_option maxHeartbeats 4000000 in
set_option maxRecDepth 100000 in
theorem ctX5_pieceOf (l : Launch) (D : va_G) (cI cS : ClassId) (a_m a_m_sorts a_m_sheetLong a_m_cells a_m_kind a_m_wet a_m_readKind a_m_readWet a_m_keptWet a_m_readCells a_m_readHours a_m_readCracked : Nat) (m_fault : Int32) (m_trace : Int32) (m_sorts : Nat → Int32) (m_sheetLong : Nat → Int32) (m_cells : Nat → Int32) (m_sun : Int32) (m_wide : Int32) (m_deep : Int32) (m_hour : Int32) (m_kind : Nat → Int32) (m_wet : Nat → Int32) (m_at : Int32) (m_readSun : Int32) (m_readWide : Int32) (m_readDeep : Int32) (m_readKind : Nat → Int32) (m_readWet : Nat → Int32) (m_keptWet : Nat → Int32) (m_keptSun : Int32) (m_openFirst : Int32) (m_planHours : Int32) (m_readings : Int32) (m_readCells : Nat → Int32) (m_readHours : Nat → Int32) (m_readCracked : Nat → Int32) (p1 : Int32) (n : Nat) (r : Int32) (hf : fX5_pieceOf n m_sun m_wide m_deep m_kind m_wet p1 = some (r)) : Ct l D (tysA cI cS) yX5_pieceOf cX5_pieceOf 4 (some .int) (Rm 3) [.ref a_m, .int p1] (W_m cI cS a_m a_m_sorts a_m_sheetLong a_m_cells a_m_kind a_m_wet a_m_readKind a_m_readWet a_m_keptWet a_m_readCells a_m_readHours a_m_readCracked m_fault m_trace m_sorts m_sheetLong m_cells m_sun m_wide m_deep m_hour m_kind m_wet m_at m_readSun m_readWide m_readDeep m_readKind m_readWet m_keptWet m_keptSun m_openFirst m_planHours m_readings m_readCells m_readHours m_readCracked) (some (.int r)) (W_m cI cS a_m a_m_sorts a_m_sheetLong a_m_cells a_m_kind a_m_wet a_m_readKind a_m_readWet a_m_keptWet a_m_readCells a_m_readHours a_m_readCracked m_fault m_trace m_sorts m_sheetLong m_cells m_sun m_wide m_deep m_hour m_kind m_wet m_at m_readSun m_readWide m_readDeep m_readKind m_readWet m_keptWet m_keptSun m_openFirst m_planHours m_readings m_readCells m_readHours m_readCracked) := by
  refine Ct_of (by decide) (Nat.le_of_ble_eq_true rfl) ?_
  intro p e s m args below meth c A ls Cc hK hA hP hD hS hl
  have hl : lv_has ls 4 [(0, .ref a_m), (1, .int p1)] := hl
  obtain ⟨hx, hb, hr, hml, hown, hts, hlk, hnw⟩ := id Cc
  unfold fX5_pieceOf at hf
  refine lv_aload_n hx hb dX5_pieceOf_0 rfl (lv_at hl 0 rfl) ?_
  refine lv_iconst (v := (0 : Int32)) hx hb dX5_pieceOf_1 (by decide) ?_
  obtain ⟨q2_1, hq1, hf⟩ := Option.bind_eq_some_iff.mp hf
  refine cV (ws' := (W_m cI cS a_m a_m_sorts a_m_sheetLong a_m_cells a_m_kind a_m_wet a_m_readKind a_m_readWet a_m_keptWet a_m_readCells a_m_readHours a_m_readCracked m_fault m_trace m_sorts m_sheetLong m_cells m_sun m_wide m_deep m_hour m_kind m_wet m_at m_readSun m_readWide m_readDeep m_readKind m_readWet m_keptWet m_keptSun m_openFirst m_planHours m_readings m_readCells m_readHours m_readCracked)) (rest := []) (st1 := [.int q2_1]) Cc hK hA hP hD hS hl.1 (ctX5_crackedBehind l D cI cS a_m a_m_sorts a_m_sheetLong a_m_cells a_m_kind a_m_wet a_m_readKind a_m_readWet a_m_keptWet a_m_readCells a_m_readHours a_m_readCracked m_fault m_trace m_sorts m_sheetLong m_cells m_sun m_wide m_deep m_hour m_kind m_wet m_at m_readSun m_readWide m_readDeep m_readKind m_readWet m_keptWet m_keptSun m_openFirst m_planHours m_readings m_readCells m_readHours m_readCracked (0 : Int32) n q2_1 hq1) ⟨tw_639, tw_636, tw_638, tp_21, tw_6⟩ mdX5_crackedBehind ⟨rfl, rfl, Nat.le_of_ble_eq_true rfl, Nat.le_of_ble_eq_true rfl⟩ rfl dX5_pieceOf_2 rfl (Nat.le_of_ble_eq_true rfl) ⟨Nat.zero_le _, Nat.zero_le _⟩ rfl rfl rfl [0, 1, 2, 3, 4, 5, 6, 7, 8, 9, 10, 11] [] [0, 1, 2, 3, 4, 5, 6, 7, 8, 9, 10, 11] rfl rfl (by decide) rfl (fun H locs hP hD hS => ?_)
  refine lv_istore_n (lv' := [(2, .int q2_1), (0, .ref a_m), (1, .int p1)]) hx hb dX5_pieceOf_5 rfl hl (by decide) rfl (fun ls hl => ?_)
  refine lv_iconst (v := (1 : Int32)) hx hb dX5_pieceOf_6 (by decide) ?_
  refine lv_aload_n hx hb dX5_pieceOf_7 rfl (lv_at hl 1 rfl) ?_
  obtain ⟨q8_2, hq2, hf⟩ := Option.bind_eq_some_iff.mp hf
  refine cV (ws' := (W_m cI cS a_m a_m_sorts a_m_sheetLong a_m_cells a_m_kind a_m_wet a_m_readKind a_m_readWet a_m_keptWet a_m_readCells a_m_readHours a_m_readCracked m_fault m_trace m_sorts m_sheetLong m_cells m_sun m_wide m_deep m_hour m_kind m_wet m_at m_readSun m_readWide m_readDeep m_readKind m_readWet m_keptWet m_keptSun m_openFirst m_planHours m_readings m_readCells m_readHours m_readCracked)) (rest := [.int (1 : Int32)]) (st1 := [.int q8_2, .int (1 : Int32)]) Cc hK hA hP hD hS hl.1 (ctX5_cellsOf l D cI cS a_m a_m_sorts a_m_sheetLong a_m_cells a_m_kind a_m_wet a_m_readKind a_m_readWet a_m_keptWet a_m_readCells a_m_readHours a_m_readCracked m_fault m_trace m_sorts m_sheetLong m_cells m_sun m_wide m_deep m_hour m_kind m_wet m_at m_readSun m_readWide m_readDeep m_readKind m_readWet m_keptWet m_keptSun m_openFirst m_planHours m_readings m_readCells m_readHours m_readCracked  n q8_2 hq2) ⟨tw_619, tw_616, tw_618, tp_17, tw_6⟩ mdX5_cellsOf ⟨rfl, rfl, Nat.le_of_ble_eq_true rfl, Nat.le_of_ble_eq_true rfl⟩ rfl dX5_pieceOf_8 rfl (Nat.le_of_ble_eq_true rfl) ⟨Nat.zero_le _, Nat.zero_le _⟩ rfl rfl rfl [0, 1, 2, 3, 4, 5, 6, 7, 8, 9, 10, 11] [] [0, 1, 2, 3, 4, 5, 6, 7, 8, 9, 10, 11] rfl rfl (by decide) rfl (fun H locs hP hD hS => ?_)
  refine lv_ishl hx hb dX5_pieceOf_11 ?_
  refine lv_iconst (v := (1 : Int32)) hx hb dX5_pieceOf_12 (by decide) ?_
  refine lv_isub hx hb dX5_pieceOf_13 ?_
  refine lv_iload_n hx hb dX5_pieceOf_14 rfl (lv_at hl 0 rfl) ?_
  refine lv_iconst (v := (-1 : Int32)) hx hb dX5_pieceOf_15 (by decide) ?_
  refine lv_ixor hx hb dX5_pieceOf_16 ?_
  refine lv_iand hx hb dX5_pieceOf_17 ?_
  refine lv_istore_n (lv' := [(3, .int ((((1 : Int32) <<< (q8_2 &&& 31)) - (1 : Int32)) &&& (q2_1 ^^^ (-1 : Int32)))), (2, .int q2_1), (0, .ref a_m), (1, .int p1)]) hx hb dX5_pieceOf_18 rfl hl (by decide) rfl (fun ls hl => ?_)
  refine lv_aload_n hx hb dX5_pieceOf_19 rfl (lv_at hl 2 rfl) ?_
  refine lv_iload_n hx hb dX5_pieceOf_20 rfl (lv_at hl 0 rfl) ?_
  refine lv_iconst (v := (1 : Int32)) hx hb dX5_pieceOf_21 (by decide) ?_
  refine lv_iload_n hx hb dX5_pieceOf_22 rfl (lv_at hl 3 rfl) ?_
  refine lv_ishl hx hb dX5_pieceOf_23 ?_
  obtain ⟨q24_3, hq3, hf⟩ := Option.bind_eq_some_iff.mp hf
  refine cV (ws' := (W_m cI cS a_m a_m_sorts a_m_sheetLong a_m_cells a_m_kind a_m_wet a_m_readKind a_m_readWet a_m_keptWet a_m_readCells a_m_readHours a_m_readCracked m_fault m_trace m_sorts m_sheetLong m_cells m_sun m_wide m_deep m_hour m_kind m_wet m_at m_readSun m_readWide m_readDeep m_readKind m_readWet m_keptWet m_keptSun m_openFirst m_planHours m_readings m_readCells m_readHours m_readCracked)) (rest := []) (st1 := [.int q24_3]) Cc hK hA hP hD hS hl.1 (ctX5_spreadIn l D cI cS a_m a_m_sorts a_m_sheetLong a_m_cells a_m_kind a_m_wet a_m_readKind a_m_readWet a_m_keptWet a_m_readCells a_m_readHours a_m_readCracked m_fault m_trace m_sorts m_sheetLong m_cells m_sun m_wide m_deep m_hour m_kind m_wet m_at m_readSun m_readWide m_readDeep m_readKind m_readWet m_keptWet m_keptSun m_openFirst m_planHours m_readings m_readCells m_readHours m_readCracked ((((1 : Int32) <<< (q8_2 &&& 31)) - (1 : Int32)) &&& (q2_1 ^^^ (-1 : Int32))) ((1 : Int32) <<< (p1 &&& 31)) n q24_3 hq3) ⟨tw_647, tw_644, tw_646, tp_23, tw_6⟩ mdX5_spreadIn ⟨rfl, rfl, Nat.le_of_ble_eq_true rfl, Nat.le_of_ble_eq_true rfl⟩ rfl dX5_pieceOf_24 rfl (Nat.le_of_ble_eq_true rfl) ⟨Nat.zero_le _, Nat.zero_le _⟩ rfl rfl rfl [0, 1, 2, 3, 4, 5, 6, 7, 8, 9, 10, 11] [] [0, 1, 2, 3, 4, 5, 6, 7, 8, 9, 10, 11] rfl rfl (by decide) rfl (fun H locs hP hD hS => ?_)
  obtain rfl := Option.some.inj hf
  exact rt_i Cc hK hP hD hS dX5_pieceOf_27
