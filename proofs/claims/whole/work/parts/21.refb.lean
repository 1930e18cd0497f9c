-- X5_ofCell
def fX5_ofCell (n : Nat) (m_sun : Int32) (m_wide : Int32) (m_deep : Int32) (m_kind : Nat → Int32) (m_wet : Nat → Int32) (p1 : Int32) (p2 : Int32) : Option (Int32) := (fX5_isCell n m_wide m_deep p1).bind fun q2_1 => if q2_1 = 0 then some ((-1 : Int32)) else if p2 = 0 then gd p1 12 (some ((m_kind p1.toNatClampNeg))) else if p2 = 1 then gd p1 12 (some ((m_wet p1.toNatClampNeg))) else if p2 = 2 then (fX5_losesOf n m_sun m_kind p1).bind fun q60_1 => some (q60_1) else if p2 = 3 then gd p1 12 (if (m_wet p1.toNatClampNeg) = 0 then some ((1 : Int32)) else some ((0 : Int32))) else if p2 = 4 then (fX5_pieceOf n m_sun m_wide m_deep m_kind m_wet p1).bind fun q81_1 => (fX5_size n q81_1).bind fun q84_2 => some (q84_2) else some ((-2 : Int32))
theorem mdX5_ofCell : yX5_ofCell.cls = RX5 ∧ yX5_ofCell.cls ≠ "java/lang/invoke/MethodHandle" ∧ yX5_ofCell.cls ≠ "java/lang/invoke/VarHandle" ∧ (parseMethodDescriptor yX5_ofCell.desc).map (fun d => d.parameters.length) = some 2 := by decide +kernel
set_option maxHeartbeats 4000000 in
set_option maxRecDepth 100000 in
theorem ctX5_ofCell (l : Launch) (D : va_G) (cI cS : ClassId) (a_m a_m_sorts a_m_sheetLong a_m_cells a_m_kind a_m_wet a_m_readKind a_m_readWet a_m_keptWet a_m_readCells a_m_readHours a_m_readCracked : Nat) (m_fault : Int32) (m_trace : Int32) (m_sorts : Nat → Int32) (m_sheetLong : Nat → Int32) (m_cells : Nat → Int32) (m_sun : Int32) (m_wide : Int32) (m_deep : Int32) (m_hour : Int32) (m_kind : Nat → Int32) (m_wet : Nat → Int32) (m_at : Int32) (m_readSun : Int32) (m_readWide : Int32) (m_readDeep : Int32) (m_readKind : Nat → Int32) (m_readWet : Nat → Int32) (m_keptWet : Nat → Int32) (m_keptSun : Int32) (m_openFirst : Int32) (m_planHours : Int32) (m_readings : Int32) (m_readCells : Nat → Int32) (m_readHours : Nat → Int32) (m_readCracked : Nat → Int32) (p1 : Int32) (p2 : Int32) (n : Nat) (r : Int32) (hf : fX5_ofCell n m_sun m_wide m_deep m_kind m_wet p1 p2 = some (r)) : Ct l D (tysA cI cS) yX5_ofCell cX5_ofCell 3 (some .int) (Rm 4) [.ref a_m, .int p1, .int p2] (W_m cI cS a_m a_m_sorts a_m_sheetLong a_m_cells a_m_kind a_m_wet a_m_readKind a_m_readWet a_m_keptWet a_m_readCells a_m_readHours a_m_readCracked m_fault m_trace m_sorts m_sheetLong m_cells m_sun m_wide m_deep m_hour m_kind m_wet m_at m_readSun m_readWide m_readDeep m_readKind m_readWet m_keptWet m_keptSun m_openFirst m_planHours m_readings m_readCells m_readHours m_readCracked) (some (.int r)) (W_m cI cS a_m a_m_sorts a_m_sheetLong a_m_cells a_m_kind a_m_wet a_m_readKind a_m_readWet a_m_keptWet a_m_readCells a_m_readHours a_m_readCracked m_fault m_trace m_sorts m_sheetLong m_cells m_sun m_wide m_deep m_hour m_kind m_wet m_at m_readSun m_readWide m_readDeep m_readKind m_readWet m_keptWet m_keptSun m_openFirst m_planHours m_readings m_readCells m_readHours m_readCracked) := by
  refine Ct_of (by decide) (Nat.le_of_ble_eq_true rfl) ?_
  intro p e s m args below meth c A ls Cc hK hA hP hD hS hl
  have hl : lv_has ls 3 [(0, .ref a_m), (1, .int p1), (2, .int p2)] := hl
  obtain ⟨hx, hb, hr, hml, hown, hts, hlk, hnw⟩ := id Cc
  unfold fX5_ofCell at hf
  refine lv_aload_n hx hb dX5_ofCell_0 rfl (lv_at hl 0 rfl) ?_
  refine lv_iload_n hx hb dX5_ofCell_1 rfl (lv_at hl 1 rfl) ?_
  obtain ⟨q2_1, hq1, hf⟩ := Option.bind_eq_some_iff.mp hf
  refine cV (ws' := (W_m cI cS a_m a_m_sorts a_m_sheetLong a_m_cells a_m_kind a_m_wet a_m_readKind a_m_readWet a_m_keptWet a_m_readCells a_m_readHours a_m_readCracked m_fault m_trace m_sorts m_sheetLong m_cells m_sun m_wide m_deep m_hour m_kind m_wet m_at m_readSun m_readWide m_readDeep m_readKind m_readWet m_keptWet m_keptSun m_openFirst m_planHours m_readings m_readCells m_readHours m_readCracked)) (rest := []) (st1 := [.int q2_1]) Cc hK hA hP hD hS hl.1 (ctX5_isCell l D cI cS a_m a_m_sorts a_m_sheetLong a_m_cells a_m_kind a_m_wet a_m_readKind a_m_readWet a_m_keptWet a_m_readCells a_m_readHours a_m_readCracked m_fault m_trace m_sorts m_sheetLong m_cells m_sun m_wide m_deep m_hour m_kind m_wet m_at m_readSun m_readWide m_readDeep m_readKind m_readWet m_keptWet m_keptSun m_openFirst m_planHours m_readings m_readCells m_readHours m_readCracked p1 n q2_1 hq1) ⟨tw_627, tw_624, tw_626, tp_18, tw_6⟩ mdX5_isCell ⟨rfl, rfl, Nat.le_of_ble_eq_true rfl, Nat.le_of_ble_eq_true rfl⟩ rfl dX5_ofCell_2 rfl (Nat.le_of_ble_eq_true rfl) ⟨Nat.zero_le _, Nat.zero_le _⟩ rfl rfl rfl [0, 1, 2, 3, 4, 5, 6, 7, 8, 9, 10, 11] [] [0, 1, 2, 3, 4, 5, 6, 7, 8, 9, 10, 11] rfl rfl (by decide) rfl (fun H locs hP hD hS => ?_)
  refine lv_if_ne (tgt := 10) hx hb dX5_ofCell_5 (by decide) (fun hc2 => ?_) (fun hc2 => ?_)
  · replace hf := (if_neg hc2).symm.trans hf
    refine lv_iload_n hx hb dX5_ofCell_10 rfl (lv_at hl 2 rfl) ?_
    by_cases hs3_0 : p2 = 0
    · replace hf := (if_pos hs3_0).symm.trans hf
      refine lv_tableIn (tgt := 44) (off := 33) hx hb dX5_ofCell_11 (by rw [hs3_0]; decide) (by rw [hs3_0]; decide) (by rw [hs3_0]; decide) (by decide) ?_
      refine lv_aload_n hx hb dX5_ofCell_44 rfl (lv_at hl 0 rfl) ?_
      refine va_get (D := D) (ci := 5) (v := .ref a_m_kind) (C := RX5) (T := TX5) (N := 25) hx hb hts inX5 hown hK hP 0 rfl rfl 9 (by decide) (hts _ tw_512) (fun _ h9 => h9) rfl dX5_ofCell_45 ?_
      refine lv_iload_n hx hb dX5_ofCell_48 rfl (lv_at hl 1 rfl) ?_
      obtain ⟨hin, hf⟩ := gd_some hf
      refine va_iald hx hb hK hP 4 0 rfl rfl hin dX5_ofCell_49 ?_
      obtain rfl := Option.some.inj hf
      exact rt_i Cc hK hP hD hS dX5_ofCell_50
    · replace hf := (if_neg hs3_0).symm.trans hf
      by_cases hs3_1 : p2 = 1
      · replace hf := (if_pos hs3_1).symm.trans hf
        refine lv_tableIn (tgt := 51) (off := 40) hx hb dX5_ofCell_11 (by rw [hs3_1]; decide) (by rw [hs3_1]; decide) (by rw [hs3_1]; decide) (by decide) ?_
        refine lv_aload_n hx hb dX5_ofCell_51 rfl (lv_at hl 0 rfl) ?_
        refine va_get (D := D) (ci := 5) (v := .ref a_m_wet) (C := RX5) (T := TX5) (N := 25) hx hb hts inX5 hown hK hP 0 rfl rfl 10 (by decide) (hts _ tw_513) (fun _ h9 => h9) rfl dX5_ofCell_52 ?_
        refine lv_iload_n hx hb dX5_ofCell_55 rfl (lv_at hl 1 rfl) ?_
        obtain ⟨hin, hf⟩ := gd_some hf
        refine va_iald hx hb hK hP 5 0 rfl rfl hin dX5_ofCell_56 ?_
        obtain rfl := Option.some.inj hf
        exact rt_i Cc hK hP hD hS dX5_ofCell_57
      · replace hf := (if_neg hs3_1).symm.trans hf
        by_cases hs3_2 : p2 = 2
        · replace hf := (if_pos hs3_2).symm.trans hf
          refine lv_tableIn (tgt := 58) (off := 47) hx hb dX5_ofCell_11 (by rw [hs3_2]; decide) (by rw [hs3_2]; decide) (by rw [hs3_2]; decide) (by decide) ?_
          refine lv_aload_n hx hb dX5_ofCell_58 rfl (lv_at hl 0 rfl) ?_
          refine lv_iload_n hx hb dX5_ofCell_59 rfl (lv_at hl 1 rfl) ?_
          obtain ⟨q60_1, hq4, hf⟩ := Option.bind_eq_some_iff.mp hf
          refine cV (ws' := (W_m cI cS a_m a_m_sorts a_m_sheetLong a_m_cells a_m_kind a_m_wet a_m_readKind a_m_readWet a_m_keptWet a_m_readCells a_m_readHours a_m_readCracked m_fault m_trace m_sorts m_sheetLong m_cells m_sun m_wide m_deep m_hour m_kind m_wet m_at m_readSun m_readWide m_readDeep m_readKind m_readWet m_keptWet m_keptSun m_openFirst m_planHours m_readings m_readCells m_readHours m_readCracked)) (rest := []) (st1 := [.int q60_1]) Cc hK hA hP hD hS hl.1 (ctX5_losesOf l D cI cS a_m a_m_sorts a_m_sheetLong a_m_cells a_m_kind a_m_wet a_m_readKind a_m_readWet a_m_keptWet a_m_readCells a_m_readHours a_m_readCracked m_fault m_trace m_sorts m_sheetLong m_cells m_sun m_wide m_deep m_hour m_kind m_wet m_at m_readSun m_readWide m_readDeep m_readKind m_readWet m_keptWet m_keptSun m_openFirst m_planHours m_readings m_readCells m_readHours m_readCracked p1 n q60_1 hq4) ⟨tw_631, tw_628, tw_630, tp_19, tw_6⟩ mdX5_losesOf ⟨rfl, rfl, Nat.le_of_ble_eq_true rfl, Nat.le_of_ble_eq_true rfl⟩ rfl dX5_ofCell_60 rfl (Nat.le_of_ble_eq_true rfl) ⟨Nat.zero_le _, Nat.zero_le _⟩ rfl rfl rfl [0, 1, 2, 3, 4, 5, 6, 7, 8, 9, 10, 11] [] [0, 1, 2, 3, 4, 5, 6, 7, 8, 9, 10, 11] rfl rfl (by decide) rfl (fun H locs hP hD hS => ?_)
          obtain rfl := Option.some.inj hf
          exact rt_i Cc hK hP hD hS dX5_ofCell_63
        · replace hf := (if_neg hs3_2).symm.trans hf
          by_cases hs3_3 : p2 = 3
          · replace hf := (if_pos hs3_3).symm.trans hf
            refine lv_tableIn (tgt := 64) (off := 53) hx hb dX5_ofCell_11 (by rw [hs3_3]; decide) (by rw [hs3_3]; decide) (by rw [hs3_3]; decide) (by decide) ?_
            refine lv_aload_n hx hb dX5_ofCell_64 rfl (lv_at hl 0 rfl) ?_
            refine va_get (D := D) (ci := 5) (v := .ref a_m_wet) (C := RX5) (T := TX5) (N := 25) hx hb hts inX5 hown hK hP 0 rfl rfl 10 (by decide) (hts _ tw_513) (fun _ h9 => h9) rfl dX5_ofCell_65 ?_
            refine lv_iload_n hx hb dX5_ofCell_68 rfl (lv_at hl 1 rfl) ?_
            obtain ⟨hin, hf⟩ := gd_some hf
            refine va_iald hx hb hK hP 5 0 rfl rfl hin dX5_ofCell_69 ?_
            refine lv_if_ne (tgt := 77) hx hb dX5_ofCell_70 (by decide) (fun hc5 => ?_) (fun hc5 => ?_)
            · replace hf := (if_neg hc5).symm.trans hf
              refine lv_iconst (v := (0 : Int32)) hx hb dX5_ofCell_77 (by decide) ?_
              obtain rfl := Option.some.inj hf
              exact rt_i Cc hK hP hD hS dX5_ofCell_78
            · replace hf := (if_pos hc5).symm.trans hf
              refine lv_iconst (v := (1 : Int32)) hx hb dX5_ofCell_73 (by decide) ?_
              refine lv_goto (tgt := 78) hx hb dX5_ofCell_74 (by decide) ?_
              obtain rfl := Option.some.inj hf
              exact rt_i Cc hK hP hD hS dX5_ofCell_78
          · replace hf := (if_neg hs3_3).symm.trans hf
            by_cases hs3_4 : p2 = 4
            · replace hf := (if_pos hs3_4).symm.trans hf
              refine lv_tableIn (tgt := 79) (off := 68) hx hb dX5_ofCell_11 (by rw [hs3_4]; decide) (by rw [hs3_4]; decide) (by rw [hs3_4]; decide) (by decide) ?_
              refine lv_aload_n hx hb dX5_ofCell_79 rfl (lv_at hl 0 rfl) ?_
              refine lv_iload_n hx hb dX5_ofCell_80 rfl (lv_at hl 1 rfl) ?_
              obtain ⟨q81_1, hq6, hf⟩ := Option.bind_eq_some_iff.mp hf
              refine cV (ws' := (W_m cI cS a_m a_m_sorts a_m_sheetLong a_m_cells a_m_kind a_m_wet a_m_readKind a_m_readWet a_m_keptWet a_m_readCells a_m_readHours a_m_readCracked m_fault m_trace m_sorts m_sheetLong m_cells m_sun m_wide m_deep m_hour m_kind m_wet m_at m_readSun m_readWide m_readDeep m_readKind m_readWet m_keptWet m_keptSun m_openFirst m_planHours m_readings m_readCells m_readHours m_readCracked)) (rest := []) (st1 := [.int q81_1]) Cc hK hA hP hD hS hl.1 (ctX5_pieceOf l D cI cS a_m a_m_sorts a_m_sheetLong a_m_cells a_m_kind a_m_wet a_m_readKind a_m_readWet a_m_keptWet a_m_readCells a_m_readHours a_m_readCracked m_fault m_trace m_sorts m_sheetLong m_cells m_sun m_wide m_deep m_hour m_kind m_wet m_at m_readSun m_readWide m_readDeep m_readKind m_readWet m_keptWet m_keptSun m_openFirst m_planHours m_readings m_readCells m_readHours m_readCracked p1 n q81_1 hq6) ⟨tw_635, tw_632, tw_634, tp_20, tw_6⟩ mdX5_pieceOf ⟨rfl, rfl, Nat.le_of_ble_eq_true rfl, Nat.le_of_ble_eq_true rfl⟩ rfl dX5_ofCell_81 rfl (Nat.le_of_ble_eq_true rfl) ⟨Nat.zero_le _, Nat.zero_le _⟩ rfl rfl rfl [0, 1, 2, 3, 4, 5, 6, 7, 8, 9, 10, 11] [] [0, 1, 2, 3, 4, 5, 6, 7, 8, 9, 10, 11] rfl rfl (by decide) rfl (fun H locs hP hD hS => ?_)
              obtain ⟨q84_2, hq7, hf⟩ := Option.bind_eq_some_iff.mp hf
              refine cSt (ws' := (W_m cI cS a_m a_m_sorts a_m_sheetLong a_m_cells a_m_kind a_m_wet a_m_readKind a_m_readWet a_m_keptWet a_m_readCells a_m_readHours a_m_readCracked m_fault m_trace m_sorts m_sheetLong m_cells m_sun m_wide m_deep m_hour m_kind m_wet m_at m_readSun m_readWide m_readDeep m_readKind m_readWet m_keptWet m_keptSun m_openFirst m_planHours m_readings m_readCells m_readHours m_readCracked)) (rest := []) (st1 := [.int q84_2]) Cc hK hA hP hD hS hl.1 (ctX5_size l D cI cS   q81_1 n q84_2 hq7) ⟨tw_657, tw_655, tw_656, tw_6⟩ mdX5_size ⟨rfl, rfl, Nat.le_of_ble_eq_true rfl, Nat.le_of_ble_eq_true rfl⟩ rfl dX5_ofCell_84 rfl (Nat.le_of_ble_eq_true rfl) ⟨Nat.zero_le _, Nat.zero_le _⟩ rfl [] [0, 1, 2, 3, 4, 5, 6, 7, 8, 9, 10, 11] [0, 1, 2, 3, 4, 5, 6, 7, 8, 9, 10, 11] rfl rfl (by decide) rfl (fun H locs hP hD hS => ?_)
              obtain rfl := Option.some.inj hf
              exact rt_i Cc hK hP hD hS dX5_ofCell_87
            · replace hf := (if_neg hs3_4).symm.trans hf
              refine lv_tableOut (tgt := 88) hx hb dX5_ofCell_11 (tb_out (N := 4) (by decide) (fun i hi => match i, hi with | 0, _ => hs3_0 | 1, _ => hs3_1 | 2, _ => hs3_2 | 3, _ => hs3_3 | 4, _ => hs3_4 | i + 5, hi => absurd hi (by omega))) (by decide) ?_
              refine lv_bipush (v := (-2 : Int32)) hx hb dX5_ofCell_88 (by decide) ?_
              obtain rfl := Option.some.inj hf
              exact rt_i Cc hK hP hD hS dX5_ofCell_90
  · replace hf := (if_pos hc2).symm.trans hf
    refine lv_iconst (v := (-1 : Int32)) hx hb dX5_ofCell_8 (by decide) ?_
    obtain rfl := Option.some.inj hf
    exact rt_i Cc hK hP hD hS dX5_ofCell_9
-- X5_shine
def fX5_shine (n : Nat) (m_sun : Int32) (m_wide : Int32) (p1 : Int32) : Option (Int32 × Int32) := (fX5_isDigit n p1).bind fun q1_1 => if q1_1 = 0 then some ((-2 : Int32), m_sun) else if m_wide = 0 then some ((-3 : Int32), m_sun) else some (m_sun, p1)
theorem mdX5_shine : yX5_shine.cls = RX5 ∧ yX5_shine.cls ≠ "java/lang/invoke/MethodHandle" ∧ yX5_shine.cls ≠ "java/lang/invoke/VarHandle" ∧ (parseMethodDescriptor yX5_shine.desc).map (fun d => d.parameters.length) = some 1 := by decide +kernel
set_option maxHeartbeats 4000000 in
set_option maxRecDepth 100000 in
theorem ctX5_shine (l : Launch) (D : va_G) (cI cS : ClassId) (a_m a_m_sorts a_m_sheetLong a_m_cells a_m_kind a_m_wet a_m_readKind a_m_readWet a_m_keptWet a_m_readCells a_m_readHours a_m_readCracked : Nat) (m_fault : Int32) (m_trace : Int32) (m_sorts : Nat → Int32) (m_sheetLong : Nat → Int32) (m_cells : Nat → Int32) (m_sun : Int32) (m_wide : Int32) (m_deep : Int32) (m_hour : Int32) (m_kind : Nat → Int32) (m_wet : Nat → Int32) (m_at : Int32) (m_readSun : Int32) (m_readWide : Int32) (m_readDeep : Int32) (m_readKind : Nat → Int32) (m_readWet : Nat → Int32) (m_keptWet : Nat → Int32) (m_keptSun : Int32) (m_openFirst : Int32) (m_planHours : Int32) (m_readings : Int32) (m_readCells : Nat → Int32) (m_readHours : Nat → Int32) (m_readCracked : Nat → Int32) (p1 : Int32) (n : Nat) (r : Int32) (m_sun' : Int32) (hf : fX5_shine n m_sun m_wide p1 = some (r, m_sun')) : Ct l D (tysA cI cS) yX5_shine cX5_shine 3 (some .int) (Rm 2) [.ref a_m, .int p1] (W_m cI cS a_m a_m_sorts a_m_sheetLong a_m_cells a_m_kind a_m_wet a_m_readKind a_m_readWet a_m_keptWet a_m_readCells a_m_readHours a_m_readCracked m_fault m_trace m_sorts m_sheetLong m_cells m_sun m_wide m_deep m_hour m_kind m_wet m_at m_readSun m_readWide m_readDeep m_readKind m_readWet m_keptWet m_keptSun m_openFirst m_planHours m_readings m_readCells m_readHours m_readCracked) (some (.int r)) (W_m cI cS a_m a_m_sorts a_m_sheetLong a_m_cells a_m_kind a_m_wet a_m_readKind a_m_readWet a_m_keptWet a_m_readCells a_m_readHours a_m_readCracked m_fault m_trace m_sorts m_sheetLong m_cells m_sun' m_wide m_deep m_hour m_kind m_wet m_at m_readSun m_readWide m_readDeep m_readKind m_readWet m_keptWet m_keptSun m_openFirst m_planHours m_readings m_readCells m_readHours m_readCracked) := by
  refine Ct_of (by decide) (Nat.le_of_ble_eq_true rfl) ?_
  intro p e s m args below meth c A ls Cc hK hA hP hD hS hl
  have hl : lv_has ls 3 [(0, .ref a_m), (1, .int p1)] := hl
  obtain ⟨hx, hb, hr, hml, hown, hts, hlk, hnw⟩ := id Cc
  unfold fX5_shine at hf
  refine lv_iload_n hx hb dX5_shine_0 rfl (lv_at hl 1 rfl) ?_
  obtain ⟨q1_1, hq1, hf⟩ := Option.bind_eq_some_iff.mp hf
  refine cSt (ws' := (W_m cI cS a_m a_m_sorts a_m_sheetLong a_m_cells a_m_kind a_m_wet a_m_readKind a_m_readWet a_m_keptWet a_m_readCells a_m_readHours a_m_readCracked m_fault m_trace m_sorts m_sheetLong m_cells m_sun m_wide m_deep m_hour m_kind m_wet m_at m_readSun m_readWide m_readDeep m_readKind m_readWet m_keptWet m_keptSun m_openFirst m_planHours m_readings m_readCells m_readHours m_readCracked)) (rest := []) (st1 := [.int q1_1]) Cc hK hA hP hD hS hl.1 (ctX5_isDigit l D cI cS   p1 n q1_1 hq1) ⟨tw_664, tw_662, tw_663, tw_6⟩ mdX5_isDigit ⟨rfl, rfl, Nat.le_of_ble_eq_true rfl, Nat.le_of_ble_eq_true rfl⟩ rfl dX5_shine_1 rfl (Nat.le_of_ble_eq_true rfl) ⟨Nat.zero_le _, Nat.zero_le _⟩ rfl [] [0, 1, 2, 3, 4, 5, 6, 7, 8, 9, 10, 11] [0, 1, 2, 3, 4, 5, 6, 7, 8, 9, 10, 11] rfl rfl (by decide) rfl (fun H locs hP hD hS => ?_)
  refine lv_if_ne (tgt := 10) hx hb dX5_shine_4 (by decide) (fun hc2 => ?_) (fun hc2 => ?_)
  · replace hf := (if_neg hc2).symm.trans hf
    refine lv_aload_n hx hb dX5_shine_10 rfl (lv_at hl 0 rfl) ?_
    refine va_get (D := D) (ci := 5) (v := .int m_wide) (C := RX5) (T := TX5) (N := 25) hx hb hts inX5 hown hK hP 0 rfl rfl 6 (by decide) (hts _ tw_509) (fun _ h9 => h9) rfl dX5_shine_11 ?_
    refine lv_if_ne (tgt := 20) hx hb dX5_shine_14 (by decide) (fun hc3 => ?_) (fun hc3 => ?_)
    · replace hf := (if_neg hc3).symm.trans hf
      refine lv_aload_n hx hb dX5_shine_20 rfl (lv_at hl 0 rfl) ?_
      refine va_get (D := D) (ci := 5) (v := .int m_sun) (C := RX5) (T := TX5) (N := 25) hx hb hts inX5 hown hK hP 0 rfl rfl 5 (by decide) (hts _ tw_508) (fun _ h9 => h9) rfl dX5_shine_21 ?_
      refine lv_istore_n (lv' := [(2, .int m_sun), (0, .ref a_m), (1, .int p1)]) hx hb dX5_shine_24 rfl hl (by decide) rfl (fun ls hl => ?_)
      refine lv_aload_n hx hb dX5_shine_25 rfl (lv_at hl 1 rfl) ?_
      refine lv_iload_n hx hb dX5_shine_26 rfl (lv_at hl 2 rfl) ?_
      refine va_put (D := D) (ci := 5) (v := .int p1) (ty := .int) (C := RX5) (T := TX5) (N := 25) hx hb hts inX5 tyX5 tyX5_ok nmX5 hown hK hP hD hS 0 rfl rfl 5 (by decide) (hts _ tw_508) (fun _ h9 => h9) rfl (tyX5_ok 5 (by decide)) rfl rfl (Nat.le_of_ble_eq_true rfl) dX5_shine_27 (fun H locs hP hD hS => ?_)
      have hP : va_P D classes (W_m cI cS a_m a_m_sorts a_m_sheetLong a_m_cells a_m_kind a_m_wet a_m_readKind a_m_readWet a_m_keptWet a_m_readCells a_m_readHours a_m_readCracked m_fault m_trace m_sorts m_sheetLong m_cells p1 m_wide m_deep m_hour m_kind m_wet m_at m_readSun m_readWide m_readDeep m_readKind m_readWet m_keptWet m_keptSun m_openFirst m_planHours m_readings m_readCells m_readHours m_readCracked) H := hP
      have hD : va_D A (W_m cI cS a_m a_m_sorts a_m_sheetLong a_m_cells a_m_kind a_m_wet a_m_readKind a_m_readWet a_m_keptWet a_m_readCells a_m_readHours a_m_readCracked m_fault m_trace m_sorts m_sheetLong m_cells p1 m_wide m_deep m_hour m_kind m_wet m_at m_readSun m_readWide m_readDeep m_readKind m_readWet m_keptWet m_keptSun m_openFirst m_planHours m_readings m_readCells m_readHours m_readCracked) := hD
      refine lv_iload_n hx hb dX5_shine_30 rfl (lv_at hl 0 rfl) ?_
      replace hf := Option.some.inj hf
      obtain ⟨er0, er1⟩ := Prod.mk.inj hf
      clear hf 
      subst er0
      subst er1
      exact rt_i Cc hK hP hD hS dX5_shine_31
    · replace hf := (if_pos hc3).symm.trans hf
      refine lv_bipush (v := (-3 : Int32)) hx hb dX5_shine_17 (by decide) ?_
      replace hf := Option.some.inj hf
      obtain ⟨er0, er1⟩ := Prod.mk.inj hf
      clear hf 
      subst er0
      subst er1
      exact rt_i Cc hK hP hD hS dX5_shine_19
  · replace hf := (if_pos hc2).symm.trans hf
    refine lv_bipush (v := (-2 : Int32)) hx hb dX5_shine_7 (by decide) ?_
    replace hf := Option.some.inj hf
    obtain ⟨er0, er1⟩ := Prod.mk.inj hf
    clear hf 
    subst er0
    subst er1
    exact rt_i Cc hK hP hD hS dX5_shine_9
-- X5_silt
def fX5_silt (n : Nat) (m_wide : Int32) (m_deep : Int32) (m_kind : Nat → Int32) (p1 : Int32) (p2 : Int32) : Option (Int32 × (Nat → Int32)) := (fX5_isCell n m_wide m_deep p1).bind fun q2_1 => if q2_1 = 0 then some ((-1 : Int32), m_kind) else (fX5_within n p2 (0 : Int32) (2 : Int32)).bind fun q13_1 => if q13_1 = 0 then some ((-2 : Int32), m_kind) else gd p1 12 (gd p1 12 (some ((m_kind p1.toNatClampNeg), (upd m_kind p1.toNatClampNeg p2))))
theorem mdX5_silt : yX5_silt.cls = RX5 ∧ yX5_silt.cls ≠ "java/lang/invoke/MethodHandle" ∧ yX5_silt.cls ≠ "java/lang/invoke/VarHandle" ∧ (parseMethodDescriptor yX5_silt.desc).map (fun d => d.parameters.length) = some 2 := by decide +kernel
set_option maxHeartbeats 4000000 in
set_option maxRecDepth 100000 in
theorem ctX5_silt (l : Launch) (D : va_G) (cI cS : ClassId) (a_m a_m_sorts a_m_sheetLong a_m_cells a_m_kind a_m_wet a_m_readKind a_m_readWet a_m_keptWet a_m_readCells a_m_readHours a_m_readCracked : Nat) (m_fault : Int32) (m_trace : Int32) (m_sorts : Nat → Int32) (m_sheetLong : Nat → Int32) (m_cells : Nat → Int32) (m_sun : Int32) (m_wide : Int32) (m_deep : Int32) (m_hour : Int32) (m_kind : Nat → Int32) (m_wet : Nat → Int32) (m_at : Int32) (m_readSun : Int32) (m_readWide : Int32) (m_readDeep : Int32) (m_readKind : Nat → Int32) (m_readWet : Nat → Int32) (m_keptWet : Nat → Int32) (m_keptSun : Int32) (m_openFirst : Int32) (m_planHours : Int32) (m_readings : Int32) (m_readCells : Nat → Int32) (m_readHours : Nat → Int32) (m_readCracked : Nat → Int32) (p1 : Int32) (p2 : Int32) (n : Nat) (r : Int32) (m_kind' : Nat → Int32) (hf : fX5_silt n m_wide m_deep m_kind p1 p2 = some (r, m_kind')) : Ct l D (tysA cI cS) yX5_silt cX5_silt 4 (some .int) (Rm 2) [.ref a_m, .int p1, .int p2] (W_m cI cS a_m a_m_sorts a_m_sheetLong a_m_cells a_m_kind a_m_wet a_m_readKind a_m_readWet a_m_keptWet a_m_readCells a_m_readHours a_m_readCracked m_fault m_trace m_sorts m_sheetLong m_cells m_sun m_wide m_deep m_hour m_kind m_wet m_at m_readSun m_readWide m_readDeep m_readKind m_readWet m_keptWet m_keptSun m_openFirst m_planHours m_readings m_readCells m_readHours m_readCracked) (some (.int r)) (W_m cI cS a_m a_m_sorts a_m_sheetLong a_m_cells a_m_kind a_m_wet a_m_readKind a_m_readWet a_m_keptWet a_m_readCells a_m_readHours a_m_readCracked m_fault m_trace m_sorts m_sheetLong m_cells m_sun m_wide m_deep m_hour m_kind' m_wet m_at m_readSun m_readWide m_readDeep m_readKind m_readWet m_keptWet m_keptSun m_openFirst m_planHours m_readings m_readCells m_readHours m_readCracked) := by
  refine Ct_of (by decide) (Nat.le_of_ble_eq_true rfl) ?_
  intro p e s m args below meth c A ls Cc hK hA hP hD hS hl
  have hl : lv_has ls 4 [(0, .ref a_m), (1, .int p1), (2, .int p2)] := hl
  obtain ⟨hx, hb, hr, hml, hown, hts, hlk, hnw⟩ := id Cc
  unfold fX5_silt at hf
  refine lv_aload_n hx hb dX5_silt_0 rfl (lv_at hl 0 rfl) ?_
  refine lv_iload_n hx hb dX5_silt_1 rfl (lv_at hl 1 rfl) ?_
  obtain ⟨q2_1, hq1, hf⟩ := Option.bind_eq_some_iff.mp hf
  refine cV (ws' := (W_m cI cS a_m a_m_sorts a_m_sheetLong a_m_cells a_m_kind a_m_wet a_m_readKind a_m_readWet a_m_keptWet a_m_readCells a_m_readHours a_m_readCracked m_fault m_trace m_sorts m_sheetLong m_cells m_sun m_wide m_deep m_hour m_kind m_wet m_at m_readSun m_readWide m_readDeep m_readKind m_readWet m_keptWet m_keptSun m_openFirst m_planHours m_readings m_readCells m_readHours m_readCracked)) (rest := []) (st1 := [.int q2_1]) Cc hK hA hP hD hS hl.1 (ctX5_isCell l D cI cS a_m a_m_sorts a_m_sheetLong a_m_cells a_m_kind a_m_wet a_m_readKind a_m_readWet a_m_keptWet a_m_readCells a_m_readHours a_m_readCracked m_fault m_trace m_sorts m_sheetLong m_cells m_sun m_wide m_deep m_hour m_kind m_wet m_at m_readSun m_readWide m_readDeep m_readKind m_readWet m_keptWet m_keptSun m_openFirst m_planHours m_readings m_readCells m_readHours m_readCracked p1 n q2_1 hq1) ⟨tw_627, tw_624, tw_626, tp_18, tw_6⟩ mdX5_isCell ⟨rfl, rfl, Nat.le_of_ble_eq_true rfl, Nat.le_of_ble_eq_true rfl⟩ rfl dX5_silt_2 rfl (Nat.le_of_ble_eq_true rfl) ⟨Nat.zero_le _, Nat.zero_le _⟩ rfl rfl rfl [0, 1, 2, 3, 4, 5, 6, 7, 8, 9, 10, 11] [] [0, 1, 2, 3, 4, 5, 6, 7, 8, 9, 10, 11] rfl rfl (by decide) rfl (fun H locs hP hD hS => ?_)
  refine lv_if_ne (tgt := 10) hx hb dX5_silt_5 (by decide) (fun hc2 => ?_) (fun hc2 => ?_)
  · replace hf := (if_neg hc2).symm.trans hf
    refine lv_iload_n hx hb dX5_silt_10 rfl (lv_at hl 2 rfl) ?_
    refine lv_iconst (v := (0 : Int32)) hx hb dX5_silt_11 (by decide) ?_
    refine lv_iconst (v := (2 : Int32)) hx hb dX5_silt_12 (by decide) ?_
    obtain ⟨q13_1, hq3, hf⟩ := Option.bind_eq_some_iff.mp hf
    refine cSt (ws' := (W_m cI cS a_m a_m_sorts a_m_sheetLong a_m_cells a_m_kind a_m_wet a_m_readKind a_m_readWet a_m_keptWet a_m_readCells a_m_readHours a_m_readCracked m_fault m_trace m_sorts m_sheetLong m_cells m_sun m_wide m_deep m_hour m_kind m_wet m_at m_readSun m_readWide m_readDeep m_readKind m_readWet m_keptWet m_keptSun m_openFirst m_planHours m_readings m_readCells m_readHours m_readCracked)) (rest := []) (st1 := [.int q13_1]) Cc hK hA hP hD hS hl.1 (ctX5_within l D cI cS   p2 (0 : Int32) (2 : Int32) n q13_1 hq3) ⟨tw_588, tw_586, tw_587, tw_6⟩ mdX5_within ⟨rfl, rfl, Nat.le_of_ble_eq_true rfl, Nat.le_of_ble_eq_true rfl⟩ rfl dX5_silt_13 rfl (Nat.le_of_ble_eq_true rfl) ⟨Nat.zero_le _, Nat.zero_le _⟩ rfl [] [0, 1, 2, 3, 4, 5, 6, 7, 8, 9, 10, 11] [0, 1, 2, 3, 4, 5, 6, 7, 8, 9, 10, 11] rfl rfl (by decide) rfl (fun H locs hP hD hS => ?_)
    refine lv_if_ne (tgt := 22) hx hb dX5_silt_16 (by decide) (fun hc4 => ?_) (fun hc4 => ?_)
    · replace hf := (if_neg hc4).symm.trans hf
      refine lv_aload_n hx hb dX5_silt_22 rfl (lv_at hl 0 rfl) ?_
      refine va_get (D := D) (ci := 5) (v := .ref a_m_kind) (C := RX5) (T := TX5) (N := 25) hx hb hts inX5 hown hK hP 0 rfl rfl 9 (by decide) (hts _ tw_512) (fun _ h9 => h9) rfl dX5_silt_23 ?_
      refine lv_iload_n hx hb dX5_silt_26 rfl (lv_at hl 1 rfl) ?_
      obtain ⟨hin, hf⟩ := gd_some hf
      refine va_iald hx hb hK hP 4 0 rfl rfl hin dX5_silt_27 ?_
      refine lv_istore_n (lv' := [(3, .int (m_kind p1.toNatClampNeg)), (0, .ref a_m), (1, .int p1), (2, .int p2)]) hx hb dX5_silt_28 rfl hl (by decide) rfl (fun ls hl => ?_)
      refine lv_aload_n hx hb dX5_silt_29 rfl (lv_at hl 1 rfl) ?_
      refine va_get (D := D) (ci := 5) (v := .ref a_m_kind) (C := RX5) (T := TX5) (N := 25) hx hb hts inX5 hown hK hP 0 rfl rfl 9 (by decide) (hts _ tw_512) (fun _ h9 => h9) rfl dX5_silt_30 ?_
      refine lv_iload_n hx hb dX5_silt_33 rfl (lv_at hl 2 rfl) ?_
      refine lv_iload_n hx hb dX5_silt_34 rfl (lv_at hl 3 rfl) ?_
      obtain ⟨hin, hf⟩ := gd_some hf
      refine va_iast hx hb hK hP hD hS 4 0 rfl rfl hin dX5_silt_35 (fun H locs hP hD hS => ?_)
      have hP : va_P D classes (W_m cI cS a_m a_m_sorts a_m_sheetLong a_m_cells a_m_kind a_m_wet a_m_readKind a_m_readWet a_m_keptWet a_m_readCells a_m_readHours a_m_readCracked m_fault m_trace m_sorts m_sheetLong m_cells m_sun m_wide m_deep m_hour (upd m_kind p1.toNatClampNeg p2) m_wet m_at m_readSun m_readWide m_readDeep m_readKind m_readWet m_keptWet m_keptSun m_openFirst m_planHours m_readings m_readCells m_readHours m_readCracked) H := hP
      have hD : va_D A (W_m cI cS a_m a_m_sorts a_m_sheetLong a_m_cells a_m_kind a_m_wet a_m_readKind a_m_readWet a_m_keptWet a_m_readCells a_m_readHours a_m_readCracked m_fault m_trace m_sorts m_sheetLong m_cells m_sun m_wide m_deep m_hour (upd m_kind p1.toNatClampNeg p2) m_wet m_at m_readSun m_readWide m_readDeep m_readKind m_readWet m_keptWet m_keptSun m_openFirst m_planHours m_readings m_readCells m_readHours m_readCracked) := hD
      refine lv_iload_n hx hb dX5_silt_36 rfl (lv_at hl 0 rfl) ?_
      replace hf := Option.some.inj hf
      obtain ⟨er0, er1⟩ := Prod.mk.inj hf
      clear hf 
      subst er0
      subst er1
      exact rt_i Cc hK hP hD hS dX5_silt_37
    · replace hf := (if_pos hc4).symm.trans hf
      refine lv_bipush (v := (-2 : Int32)) hx hb dX5_silt_19 (by decide) ?_
      replace hf := Option.some.inj hf
      obtain ⟨er0, er1⟩ := Prod.mk.inj hf
      clear hf 
      subst er0
      subst er1
      exact rt_i Cc hK hP hD hS dX5_silt_21
  · replace hf := (if_pos hc2).symm.trans hf
    refine lv_iconst (v := (-1 : Int32)) hx hb dX5_silt_8 (by decide) ?_
    replace hf := Option.some.inj hf
    obtain ⟨er0, er1⟩ := Prod.mk.inj hf
    clear hf 
    subst er0
    subst er1
    exact rt_i Cc hK hP hD hS dX5_silt_9
-- X5_dryBy
def fX5_dryBy_2 (n : Nat) : Nat → Int32 → Int32 → Int32 → (Nat → Int32) → (Nat → Int32) → Int32 → Int32 → Option ((Nat → Int32))
  | 0, _, _, _, _, _, _, _ => none
  | k + 1, m_sun, m_wide, m_deep, m_kind, m_wet, x1, x2 => (fX5_cellsOf n m_wide m_deep).bind fun q4_1 => if q4_1 ≤ x2 then some (m_wet) else (fX5_wetBehind n m_sun m_kind m_wet x2 x1).bind fun q18_1 => gd x2 12 (fX5_dryBy_2 n k m_sun m_wide m_deep m_kind (upd m_wet x2.toNatClampNeg q18_1) x1 (x2 + 1))
def fX5_dryBy (n : Nat) (m_sun : Int32) (m_wide : Int32) (m_deep : Int32) (m_kind : Nat → Int32) (m_wet : Nat → Int32) (p1 : Int32) : Option ((Nat → Int32)) := fX5_dryBy_2 n n m_sun m_wide m_deep m_kind m_wet p1 (0 : Int32)
theorem mdX5_dryBy : yX5_dryBy.cls = RX5 ∧ yX5_dryBy.cls ≠ "java/lang/invoke/MethodHandle" ∧ yX5_dryBy.cls ≠ "java/lang/invoke/VarHandle" ∧ (parseMethodDescriptor yX5_dryBy.desc).map (fun d => d.parameters.length) = some 1 := by decide +kernel
set_option maxHeartbeats 4000000 in
set_option maxRecDepth 100000 in
theorem bX5_dryBy_2 {p : Program} {l : Launch} {e : Env} {s : State} {m : MethodId} {args : Array Value} {below : List Frame} {meth : Method} {c : Code} {A : Nat → Prop} {D : va_G} {cI cS : ClassId} (a_m a_m_sorts a_m_sheetLong a_m_cells a_m_kind a_m_wet a_m_readKind a_m_readWet a_m_keptWet a_m_readCells a_m_readHours a_m_readCracked : Nat) (m_fault : Int32) (m_trace : Int32) (m_sorts : Nat → Int32) (m_sheetLong : Nat → Int32) (m_cells : Nat → Int32) (m_hour : Int32) (m_at : Int32) (m_readSun : Int32) (m_readWide : Int32) (m_readDeep : Int32) (m_readKind : Nat → Int32) (m_readWet : Nat → Int32) (m_keptWet : Nat → Int32) (m_keptSun : Int32) (m_openFirst : Int32) (m_planHours : Int32) (m_readings : Int32) (m_readCells : Nat → Int32) (m_readHours : Nat → Int32) (m_readCracked : Nat → Int32) (Cc : Cx p s m args meth c RX5 cX5_dryBy 3 none) (hK : va_K D classes (tysA cI cS) s) (hA : ∀ q, s.heap.size ≤ q → A q) (n : Nat) : ∀ (k : Nat) (m_sun : Int32) (m_wide : Int32) (m_deep : Int32) (m_kind : Nat → Int32) (m_wet : Nat → Int32) (x1 : Int32) (x2 : Int32) (m_wet' : Nat → Int32), fX5_dryBy_2 n k m_sun m_wide m_deep m_kind m_wet x1 x2 = some (m_wet') → ∀ (H : Heap) (locs : List Loc) (ls : Array Slot), va_P D classes (W_m cI cS a_m a_m_sorts a_m_sheetLong a_m_cells a_m_kind a_m_wet a_m_readKind a_m_readWet a_m_keptWet a_m_readCells a_m_readHours a_m_readCracked m_fault m_trace m_sorts m_sheetLong m_cells m_sun m_wide m_deep m_hour m_kind m_wet m_at m_readSun m_readWide m_readDeep m_readKind m_readWet m_keptWet m_keptSun m_openFirst m_planHours m_readings m_readCells m_readHours m_readCracked) H → va_D A (W_m cI cS a_m a_m_sorts a_m_sheetLong a_m_cells a_m_kind a_m_wet a_m_readKind a_m_readWet a_m_keptWet a_m_readCells a_m_readHours a_m_readCracked m_fault m_trace m_sorts m_sheetLong m_cells m_sun m_wide m_deep m_hour m_kind m_wet m_at m_readSun m_readWide m_readDeep m_readKind m_readWet m_keptWet m_keptSun m_openFirst m_planHours m_readings m_readCells m_readHours m_readCracked) → va_S A s.heap H locs → lv_has ls 3 [(0, .ref a_m), (1, .int x1), (2, .int x2)] → W p l e (Rm 2) s m args below meth c H locs 0 0 (MQ below (QW D (tysA cI cS) none (W_m cI cS a_m a_m_sorts a_m_sheetLong a_m_cells a_m_kind a_m_wet a_m_readKind a_m_readWet a_m_keptWet a_m_readCells a_m_readHours a_m_readCracked m_fault m_trace m_sorts m_sheetLong m_cells m_sun m_wide m_deep m_hour m_kind m_wet' m_at m_readSun m_readWide m_readDeep m_readKind m_readWet m_keptWet m_keptSun m_openFirst m_planHours m_readings m_readCells m_readHours m_readCracked) A) args s 0 0 A) (F0 m 2 ls []) := by
  obtain ⟨hx, hb, hr, hml, hown, hts, hlk, hnw⟩ := id Cc
  intro k
  induction k with
  | zero =>
    intro m_sun m_wide m_deep m_kind m_wet x1 x2 m_wet' hf
    rw [fX5_dryBy_2] at hf
    cases hf
  | succ k ih =>
    intro m_sun m_wide m_deep m_kind m_wet x1 x2 m_wet' hf H locs ls hP hD hS hl
    rw [fX5_dryBy_2] at hf
    refine lv_iload_n hx hb dX5_dryBy_2 rfl (lv_at hl 2 rfl) ?_
    refine lv_aload_n hx hb dX5_dryBy_3 rfl (lv_at hl 0 rfl) ?_
    obtain ⟨q4_1, hq1, hf⟩ := Option.bind_eq_some_iff.mp hf
    refine cV (ws' := (W_m cI cS a_m a_m_sorts a_m_sheetLong a_m_cells a_m_kind a_m_wet a_m_readKind a_m_readWet a_m_keptWet a_m_readCells a_m_readHours a_m_readCracked m_fault m_trace m_sorts m_sheetLong m_cells m_sun m_wide m_deep m_hour m_kind m_wet m_at m_readSun m_readWide m_readDeep m_readKind m_readWet m_keptWet m_keptSun m_openFirst m_planHours m_readings m_readCells m_readHours m_readCracked)) (rest := [.int x2]) (st1 := [.int q4_1, .int x2]) Cc hK hA hP hD hS hl.1 (ctX5_cellsOf l D cI cS a_m a_m_sorts a_m_sheetLong a_m_cells a_m_kind a_m_wet a_m_readKind a_m_readWet a_m_keptWet a_m_readCells a_m_readHours a_m_readCracked m_fault m_trace m_sorts m_sheetLong m_cells m_sun m_wide m_deep m_hour m_kind m_wet m_at m_readSun m_readWide m_readDeep m_readKind m_readWet m_keptWet m_keptSun m_openFirst m_planHours m_readings m_readCells m_readHours m_readCracked  n q4_1 hq1) ⟨tw_619, tw_616, tw_618, tp_17, tw_6⟩ mdX5_cellsOf ⟨rfl, rfl, Nat.le_of_ble_eq_true rfl, Nat.le_of_ble_eq_true rfl⟩ rfl dX5_dryBy_4 rfl (Nat.le_of_ble_eq_true rfl) ⟨Nat.zero_le _, Nat.zero_le _⟩ rfl rfl rfl [0, 1, 2, 3, 4, 5, 6, 7, 8, 9, 10, 11] [] [0, 1, 2, 3, 4, 5, 6, 7, 8, 9, 10, 11] rfl rfl (by decide) rfl (fun H locs hP hD hS => ?_)
    refine lv_icmp_ge (tgt := 28) hx hb dX5_dryBy_7 (by decide) (fun hc2 => ?_) (fun hc2 => ?_)
    · replace hf := (if_pos hc2).symm.trans hf
      obtain rfl := Option.some.inj hf
      exact rt_v Cc hK hP hD hS dX5_dryBy_28
    · replace hf := (if_neg hc2).symm.trans hf
      refine lv_aload_n hx hb dX5_dryBy_10 rfl (lv_at hl 0 rfl) ?_
      refine va_get (D := D) (ci := 5) (v := .ref a_m_wet) (C := RX5) (T := TX5) (N := 25) hx hb hts inX5 hown hK hP 0 rfl rfl 10 (by decide) (hts _ tw_513) (fun _ h9 => h9) rfl dX5_dryBy_11 ?_
      refine lv_iload_n hx hb dX5_dryBy_14 rfl (lv_at hl 2 rfl) ?_
      refine lv_aload_n hx hb dX5_dryBy_15 rfl (lv_at hl 0 rfl) ?_
      refine lv_iload_n hx hb dX5_dryBy_16 rfl (lv_at hl 2 rfl) ?_
      refine lv_iload_n hx hb dX5_dryBy_17 rfl (lv_at hl 1 rfl) ?_
      obtain ⟨q18_1, hq3, hf⟩ := Option.bind_eq_some_iff.mp hf
      refine cV (ws' := (W_m cI cS a_m a_m_sorts a_m_sheetLong a_m_cells a_m_kind a_m_wet a_m_readKind a_m_readWet a_m_keptWet a_m_readCells a_m_readHours a_m_readCracked m_fault m_trace m_sorts m_sheetLong m_cells m_sun m_wide m_deep m_hour m_kind m_wet m_at m_readSun m_readWide m_readDeep m_readKind m_readWet m_keptWet m_keptSun m_openFirst m_planHours m_readings m_readCells m_readHours m_readCracked)) (rest := [.int x2, .ref a_m_wet]) (st1 := [.int q18_1, .int x2, .ref a_m_wet]) Cc hK hA hP hD hS hl.1 (ctX5_wetBehind l D cI cS a_m a_m_sorts a_m_sheetLong a_m_cells a_m_kind a_m_wet a_m_readKind a_m_readWet a_m_keptWet a_m_readCells a_m_readHours a_m_readCracked m_fault m_trace m_sorts m_sheetLong m_cells m_sun m_wide m_deep m_hour m_kind m_wet m_at m_readSun m_readWide m_readDeep m_readKind m_readWet m_keptWet m_keptSun m_openFirst m_planHours m_readings m_readCells m_readHours m_readCracked x2 x1 n q18_1 hq3) ⟨tw_643, tw_640, tw_642, tp_22, tw_6⟩ mdX5_wetBehind ⟨rfl, rfl, Nat.le_of_ble_eq_true rfl, Nat.le_of_ble_eq_true rfl⟩ rfl dX5_dryBy_18 rfl (Nat.le_of_ble_eq_true rfl) ⟨Nat.zero_le _, Nat.zero_le _⟩ rfl rfl rfl [0, 1, 2, 3, 4, 5, 6, 7, 8, 9, 10, 11] [] [0, 1, 2, 3, 4, 5, 6, 7, 8, 9, 10, 11] rfl rfl (by decide) rfl (fun H locs hP hD hS => ?_)
      obtain ⟨hin, hf⟩ := gd_some hf
      refine va_iast hx hb hK hP hD hS 5 0 rfl rfl hin dX5_dryBy_21 (fun H locs hP hD hS => ?_)
      have hP : va_P D classes (W_m cI cS a_m a_m_sorts a_m_sheetLong a_m_cells a_m_kind a_m_wet a_m_readKind a_m_readWet a_m_keptWet a_m_readCells a_m_readHours a_m_readCracked m_fault m_trace m_sorts m_sheetLong m_cells m_sun m_wide m_deep m_hour m_kind (upd m_wet x2.toNatClampNeg q18_1) m_at m_readSun m_readWide m_readDeep m_readKind m_readWet m_keptWet m_keptSun m_openFirst m_planHours m_readings m_readCells m_readHours m_readCracked) H := hP
      have hD : va_D A (W_m cI cS a_m a_m_sorts a_m_sheetLong a_m_cells a_m_kind a_m_wet a_m_readKind a_m_readWet a_m_keptWet a_m_readCells a_m_readHours a_m_readCracked m_fault m_trace m_sorts m_sheetLong m_cells m_sun m_wide m_deep m_hour m_kind (upd m_wet x2.toNatClampNeg q18_1) m_at m_readSun m_readWide m_readDeep m_readKind m_readWet m_keptWet m_keptSun m_openFirst m_planHours m_readings m_readCells m_readHours m_readCracked) := hD
      refine lv_iinc (v := (x2 + 1)) (lv' := [(2, .int (x2 + 1)), (0, .ref a_m), (1, .int x1)]) hx hb dX5_dryBy_22 hl (k := 2) rfl rfl (by decide) rfl (fun ls hl => ?_)
      refine lv_goto (tgt := 2) hx hb dX5_dryBy_25 (by decide) ?_
      exact ih _ _ _ _ _ _ _ _ hf _ _ _ hP hD hS (lv_sub hl [1, 2, 0] rfl)
set_option maxHeartbeats 4000000 in
set_option maxRecDepth 100000 in
theorem ctX5_dryBy (l : Launch) (D : va_G) (cI cS : ClassId) (a_m a_m_sorts a_m_sheetLong a_m_cells a_m_kind a_m_wet a_m_readKind a_m_readWet a_m_keptWet a_m_readCells a_m_readHours a_m_readCracked : Nat) (m_fault : Int32) (m_trace : Int32) (m_sorts : Nat → Int32) (m_sheetLong : Nat → Int32) (m_cells : Nat → Int32) (m_sun : Int32) (m_wide : Int32) (m_deep : Int32) (m_hour : Int32) (m_kind : Nat → Int32) (m_wet : Nat → Int32) (m_at : Int32) (m_readSun : Int32) (m_readWide : Int32) (m_readDeep : Int32) (m_readKind : Nat → Int32) (m_readWet : Nat → Int32) (m_keptWet : Nat → Int32) (m_keptSun : Int32) (m_openFirst : Int32) (m_planHours : Int32) (m_readings : Int32) (m_readCells : Nat → Int32) (m_readHours : Nat → Int32) (m_readCracked : Nat → Int32) (p1 : Int32) (n : Nat) (m_wet' : Nat → Int32) (hf : fX5_dryBy n m_sun m_wide m_deep m_kind m_wet p1 = some (m_wet')) : Ct l D (tysA cI cS) yX5_dryBy cX5_dryBy 3 none (Rm 2) [.ref a_m, .int p1] (W_m cI cS a_m a_m_sorts a_m_sheetLong a_m_cells a_m_kind a_m_wet a_m_readKind a_m_readWet a_m_keptWet a_m_readCells a_m_readHours a_m_readCracked m_fault m_trace m_sorts m_sheetLong m_cells m_sun m_wide m_deep m_hour m_kind m_wet m_at m_readSun m_readWide m_readDeep m_readKind m_readWet m_keptWet m_keptSun m_openFirst m_planHours m_readings m_readCells m_readHours m_readCracked) none (W_m cI cS a_m a_m_sorts a_m_sheetLong a_m_cells a_m_kind a_m_wet a_m_readKind a_m_readWet a_m_keptWet a_m_readCells a_m_readHours a_m_readCracked m_fault m_trace m_sorts m_sheetLong m_cells m_sun m_wide m_deep m_hour m_kind m_wet' m_at m_readSun m_readWide m_readDeep m_readKind m_readWet m_keptWet m_keptSun m_openFirst m_planHours m_readings m_readCells m_readHours m_readCracked) := by
  refine Ct_of (by decide) (Nat.le_of_ble_eq_true rfl) ?_
  intro p e s m args below meth c A ls Cc hK hA hP hD hS hl
  have hl : lv_has ls 3 [(0, .ref a_m), (1, .int p1)] := hl
  obtain ⟨hx, hb, hr, hml, hown, hts, hlk, hnw⟩ := id Cc
  unfold fX5_dryBy at hf
  refine lv_iconst (v := (0 : Int32)) hx hb dX5_dryBy_0 (by decide) ?_
  refine lv_istore_n (lv' := [(2, .int (0 : Int32)), (0, .ref a_m), (1, .int p1)]) hx hb dX5_dryBy_1 rfl hl (by decide) rfl (fun ls hl => ?_)
  exact bX5_dryBy_2 a_m a_m_sorts a_m_sheetLong a_m_cells a_m_kind a_m_wet a_m_readKind a_m_readWet a_m_keptWet a_m_readCells a_m_readHours a_m_readCracked m_fault m_trace m_sorts m_sheetLong m_cells m_hour m_at m_readSun m_readWide m_readDeep m_readKind m_readWet m_keptWet m_keptSun m_openFirst m_planHours m_readings m_readCells m_readHours m_readCracked Cc hK hA n n _ _ _ _ _ _ _ _ hf _ _ _ hP hD hS (lv_sub hl [1, 2, 0] rfl)
-- X5_dry
def fX5_dry (n : Nat) (m_sun : Int32) (m_wide : Int32) (m_deep : Int32) (m_hour : Int32) (m_kind : Nat → Int32) (m_wet : Nat → Int32) (p1 : Int32) : Option (Int32 × Int32 × (Nat → Int32)) := (fX5_within n p1 (1 : Int32) (30 : Int32)).bind fun q4_1 => if q4_1 = 0 then some ((-2 : Int32), m_hour, m_wet) else if m_wide = 0 then some ((-3 : Int32), m_hour, m_wet) else (fX5_crackedBehind n m_sun m_wide m_deep m_kind m_wet (0 : Int32)).bind fun q25_1 => (fX5_size n q25_1).bind fun q28_2 => (fX5_dryBy n m_sun m_wide m_deep m_kind m_wet p1).bind fun q34_3 => (fX5_crackedBehind n m_sun m_wide m_deep m_kind q34_3 (0 : Int32)).bind fun q49_4 => (fX5_size n q49_4).bind fun q52_5 => some ((q52_5 - q28_2), (m_hour + p1), q34_3)
theorem mdX5_dry : yX5_dry.cls = RX5 ∧ yX5_dry.cls ≠ "java/lang/invoke/MethodHandle" ∧ yX5_dry.cls ≠ "java/lang/invoke/VarHandle" ∧ (parseMethodDescriptor yX5_dry.desc).map (fun d => d.parameters.length) = some 1 := by decide +kernel
set_option maxHeartbeats 4000000 in
set_option maxRecDepth 100000 in
theorem ctX5_dry (l : Launch) (D : va_G) (cI cS : ClassId) (a_m a_m_sorts a_m_sheetLong a_m_cells a_m_kind a_m_wet a_m_readKind a_m_readWet a_m_keptWet a_m_readCells a_m_readHours a_m_readCracked : Nat) (m_fault : Int32) (m_trace : Int32) (m_sorts : Nat → Int32) (m_sheetLong : Nat → Int32) (m_cells : Nat → Int32) (m_sun : Int32) (m_wide : Int32) (m_deep : Int32) (m_hour : Int32) (m_kind : Nat → Int32) (m_wet : Nat → Int32) (m_at : Int32) (m_readSun : Int32) (m_readWide : Int32) (m_readDeep : Int32) (m_readKind : Nat → Int32) (m_readWet : Nat → Int32) (m_keptWet : Nat → Int32) (m_keptSun : Int32) (m_openFirst : Int32) (m_planHours : Int32) (m_readings : Int32) (m_readCells : Nat → Int32) (m_readHours : Nat → Int32) (m_readCracked : Nat → Int32) (p1 : Int32) (n : Nat) (r : Int32) (m_hour' : Int32) (m_wet' : Nat → Int32) (hf : fX5_dry n m_sun m_wide m_deep m_hour m_kind m_wet p1 = some (r, m_hour', m_wet')) : Ct l D (tysA cI cS) yX5_dry cX5_dry 3 (some .int) (Rm 3) [.ref a_m, .int p1] (W_m cI cS a_m a_m_sorts a_m_sheetLong a_m_cells a_m_kind a_m_wet a_m_readKind a_m_readWet a_m_keptWet a_m_readCells a_m_readHours a_m_readCracked m_fault m_trace m_sorts m_sheetLong m_cells m_sun m_wide m_deep m_hour m_kind m_wet m_at m_readSun m_readWide m_readDeep m_readKind m_readWet m_keptWet m_keptSun m_openFirst m_planHours m_readings m_readCells m_readHours m_readCracked) (some (.int r)) (W_m cI cS a_m a_m_sorts a_m_sheetLong a_m_cells a_m_kind a_m_wet a_m_readKind a_m_readWet a_m_keptWet a_m_readCells a_m_readHours a_m_readCracked m_fault m_trace m_sorts m_sheetLong m_cells m_sun m_wide m_deep m_hour' m_kind m_wet' m_at m_readSun m_readWide m_readDeep m_readKind m_readWet m_keptWet m_keptSun m_openFirst m_planHours m_readings m_readCells m_readHours m_readCracked) := by
  refine Ct_of (by decide) (Nat.le_of_ble_eq_true rfl) ?_
  intro p e s m args below meth c A ls Cc hK hA hP hD hS hl
  have hl : lv_has ls 3 [(0, .ref a_m), (1, .int p1)] := hl
  obtain ⟨hx, hb, hr, hml, hown, hts, hlk, hnw⟩ := id Cc
  unfold fX5_dry at hf
  refine lv_iload_n hx hb dX5_dry_0 rfl (lv_at hl 1 rfl) ?_
  refine lv_iconst (v := (1 : Int32)) hx hb dX5_dry_1 (by decide) ?_
  refine lv_bipush (v := (30 : Int32)) hx hb dX5_dry_2 (by decide) ?_
  obtain ⟨q4_1, hq1, hf⟩ := Option.bind_eq_some_iff.mp hf
  refine cSt (ws' := (W_m cI cS a_m a_m_sorts a_m_sheetLong a_m_cells a_m_kind a_m_wet a_m_readKind a_m_readWet a_m_keptWet a_m_readCells a_m_readHours a_m_readCracked m_fault m_trace m_sorts m_sheetLong m_cells m_sun m_wide m_deep m_hour m_kind m_wet m_at m_readSun m_readWide m_readDeep m_readKind m_readWet m_keptWet m_keptSun m_openFirst m_planHours m_readings m_readCells m_readHours m_readCracked)) (rest := []) (st1 := [.int q4_1]) Cc hK hA hP hD hS hl.1 (ctX5_within l D cI cS   p1 (1 : Int32) (30 : Int32) n q4_1 hq1) ⟨tw_588, tw_586, tw_587, tw_6⟩ mdX5_within ⟨rfl, rfl, Nat.le_of_ble_eq_true rfl, Nat.le_of_ble_eq_true rfl⟩ rfl dX5_dry_4 rfl (Nat.le_of_ble_eq_true rfl) ⟨Nat.zero_le _, Nat.zero_le _⟩ rfl [] [0, 1, 2, 3, 4, 5, 6, 7, 8, 9, 10, 11] [0, 1, 2, 3, 4, 5, 6, 7, 8, 9, 10, 11] rfl rfl (by decide) rfl (fun H locs hP hD hS => ?_)
  refine lv_if_ne (tgt := 13) hx hb dX5_dry_7 (by decide) (fun hc2 => ?_) (fun hc2 => ?_)
  · replace hf := (if_neg hc2).symm.trans hf
    refine lv_aload_n hx hb dX5_dry_13 rfl (lv_at hl 0 rfl) ?_
    refine va_get (D := D) (ci := 5) (v := .int m_wide) (C := RX5) (T := TX5) (N := 25) hx hb hts inX5 hown hK hP 0 rfl rfl 6 (by decide) (hts _ tw_509) (fun _ h9 => h9) rfl dX5_dry_14 ?_
    refine lv_if_ne (tgt := 23) hx hb dX5_dry_17 (by decide) (fun hc3 => ?_) (fun hc3 => ?_)
    · replace hf := (if_neg hc3).symm.trans hf
      refine lv_aload_n hx hb dX5_dry_23 rfl (lv_at hl 0 rfl) ?_
      refine lv_iconst (v := (0 : Int32)) hx hb dX5_dry_24 (by decide) ?_
      obtain ⟨q25_1, hq4, hf⟩ := Option.bind_eq_some_iff.mp hf
      refine cV (ws' := (W_m cI cS a_m a_m_sorts a_m_sheetLong a_m_cells a_m_kind a_m_wet a_m_readKind a_m_readWet a_m_keptWet a_m_readCells a_m_readHours a_m_readCracked m_fault m_trace m_sorts m_sheetLong m_cells m_sun m_wide m_deep m_hour m_kind m_wet m_at m_readSun m_readWide m_readDeep m_readKind m_readWet m_keptWet m_keptSun m_openFirst m_planHours m_readings m_readCells m_readHours m_readCracked)) (rest := []) (st1 := [.int q25_1]) Cc hK hA hP hD hS hl.1 (ctX5_crackedBehind l D cI cS a_m a_m_sorts a_m_sheetLong a_m_cells a_m_kind a_m_wet a_m_readKind a_m_readWet a_m_keptWet a_m_readCells a_m_readHours a_m_readCracked m_fault m_trace m_sorts m_sheetLong m_cells m_sun m_wide m_deep m_hour m_kind m_wet m_at m_readSun m_readWide m_readDeep m_readKind m_readWet m_keptWet m_keptSun m_openFirst m_planHours m_readings m_readCells m_readHours m_readCracked (0 : Int32) n q25_1 hq4) ⟨tw_639, tw_636, tw_638, tp_21, tw_6⟩ mdX5_crackedBehind ⟨rfl, rfl, Nat.le_of_ble_eq_true rfl, Nat.le_of_ble_eq_true rfl⟩ rfl dX5_dry_25 rfl (Nat.le_of_ble_eq_true rfl) ⟨Nat.zero_le _, Nat.zero_le _⟩ rfl rfl rfl [0, 1, 2, 3, 4, 5, 6, 7, 8, 9, 10, 11] [] [0, 1, 2, 3, 4, 5, 6, 7, 8, 9, 10, 11] rfl rfl (by decide) rfl (fun H locs hP hD hS => ?_)
      obtain ⟨q28_2, hq5, hf⟩ := Option.bind_eq_some_iff.mp hf
      refine cSt (ws' := (W_m cI cS a_m a_m_sorts a_m_sheetLong a_m_cells a_m_kind a_m_wet a_m_readKind a_m_readWet a_m_keptWet a_m_readCells a_m_readHours a_m_readCracked m_fault m_trace m_sorts m_sheetLong m_cells m_sun m_wide m_deep m_hour m_kind m_wet m_at m_readSun m_readWide m_readDeep m_readKind m_readWet m_keptWet m_keptSun m_openFirst m_planHours m_readings m_readCells m_readHours m_readCracked)) (rest := []) (st1 := [.int q28_2]) Cc hK hA hP hD hS hl.1 (ctX5_size l D cI cS   q25_1 n q28_2 hq5) ⟨tw_657, tw_655, tw_656, tw_6⟩ mdX5_size ⟨rfl, rfl, Nat.le_of_ble_eq_true rfl, Nat.le_of_ble_eq_true rfl⟩ rfl dX5_dry_28 rfl (Nat.le_of_ble_eq_true rfl) ⟨Nat.zero_le _, Nat.zero_le _⟩ rfl [] [0, 1, 2, 3, 4, 5, 6, 7, 8, 9, 10, 11] [0, 1, 2, 3, 4, 5, 6, 7, 8, 9, 10, 11] rfl rfl (by decide) rfl (fun H locs hP hD hS => ?_)
      refine lv_istore_n (lv' := [(2, .int q28_2), (0, .ref a_m), (1, .int p1)]) hx hb dX5_dry_31 rfl hl (by decide) rfl (fun ls hl => ?_)
      refine lv_aload_n hx hb dX5_dry_32 rfl (lv_at hl 1 rfl) ?_
      refine lv_iload_n hx hb dX5_dry_33 rfl (lv_at hl 2 rfl) ?_
      obtain ⟨q34_3, hq6, hf⟩ := Option.bind_eq_some_iff.mp hf
      refine cV (ws' := (W_m cI cS a_m a_m_sorts a_m_sheetLong a_m_cells a_m_kind a_m_wet a_m_readKind a_m_readWet a_m_keptWet a_m_readCells a_m_readHours a_m_readCracked m_fault m_trace m_sorts m_sheetLong m_cells m_sun m_wide m_deep m_hour m_kind q34_3 m_at m_readSun m_readWide m_readDeep m_readKind m_readWet m_keptWet m_keptSun m_openFirst m_planHours m_readings m_readCells m_readHours m_readCracked)) (rest := []) (st1 := []) Cc hK hA hP hD hS hl.1 (ctX5_dryBy l D cI cS a_m a_m_sorts a_m_sheetLong a_m_cells a_m_kind a_m_wet a_m_readKind a_m_readWet a_m_keptWet a_m_readCells a_m_readHours a_m_readCracked m_fault m_trace m_sorts m_sheetLong m_cells m_sun m_wide m_deep m_hour m_kind m_wet m_at m_readSun m_readWide m_readDeep m_readKind m_readWet m_keptWet m_keptSun m_openFirst m_planHours m_readings m_readCells m_readHours m_readCracked p1 n q34_3 hq6) ⟨tw_676, tw_673, tw_675, tp_25, tw_6⟩ mdX5_dryBy ⟨rfl, rfl, Nat.le_of_ble_eq_true rfl, Nat.le_of_ble_eq_true rfl⟩ rfl dX5_dry_34 rfl (Nat.le_of_ble_eq_true rfl) ⟨Nat.zero_le _, Nat.zero_le _⟩ rfl rfl rfl [0, 1, 2, 3, 4, 5, 6, 7, 8, 9, 10, 11] [] [0, 1, 2, 3, 4, 5, 6, 7, 8, 9, 10, 11] rfl rfl (by decide) rfl (fun H locs hP hD hS => ?_)
      refine lv_aload_n hx hb dX5_dry_37 rfl (lv_at hl 1 rfl) ?_
      refine lv_dup hx hb dX5_dry_38 rfl ?_
      refine va_get (D := D) (ci := 5) (v := .int m_hour) (C := RX5) (T := TX5) (N := 25) hx hb hts inX5 hown hK hP 0 rfl rfl 8 (by decide) (hts _ tw_511) (fun _ h9 => h9) rfl dX5_dry_39 ?_
      refine lv_iload_n hx hb dX5_dry_42 rfl (lv_at hl 2 rfl) ?_
      refine lv_iadd hx hb dX5_dry_43 ?_
      refine va_put (D := D) (ci := 5) (v := .int (m_hour + p1)) (ty := .int) (C := RX5) (T := TX5) (N := 25) hx hb hts inX5 tyX5 tyX5_ok nmX5 hown hK hP hD hS 0 rfl rfl 8 (by decide) (hts _ tw_511) (fun _ h9 => h9) rfl (tyX5_ok 8 (by decide)) rfl rfl (Nat.le_of_ble_eq_true rfl) dX5_dry_44 (fun H locs hP hD hS => ?_)
      have hP : va_P D classes (W_m cI cS a_m a_m_sorts a_m_sheetLong a_m_cells a_m_kind a_m_wet a_m_readKind a_m_readWet a_m_keptWet a_m_readCells a_m_readHours a_m_readCracked m_fault m_trace m_sorts m_sheetLong m_cells m_sun m_wide m_deep (m_hour + p1) m_kind q34_3 m_at m_readSun m_readWide m_readDeep m_readKind m_readWet m_keptWet m_keptSun m_openFirst m_planHours m_readings m_readCells m_readHours m_readCracked) H := hP
      have hD : va_D A (W_m cI cS a_m a_m_sorts a_m_sheetLong a_m_cells a_m_kind a_m_wet a_m_readKind a_m_readWet a_m_keptWet a_m_readCells a_m_readHours a_m_readCracked m_fault m_trace m_sorts m_sheetLong m_cells m_sun m_wide m_deep (m_hour + p1) m_kind q34_3 m_at m_readSun m_readWide m_readDeep m_readKind m_readWet m_keptWet m_keptSun m_openFirst m_planHours m_readings m_readCells m_readHours m_readCracked) := hD
      refine lv_aload_n hx hb dX5_dry_47 rfl (lv_at hl 1 rfl) ?_
      refine lv_iconst (v := (0 : Int32)) hx hb dX5_dry_48 (by decide) ?_
      obtain ⟨q49_4, hq7, hf⟩ := Option.bind_eq_some_iff.mp hf
      refine cV (ws' := (W_m cI cS a_m a_m_sorts a_m_sheetLong a_m_cells a_m_kind a_m_wet a_m_readKind a_m_readWet a_m_keptWet a_m_readCells a_m_readHours a_m_readCracked m_fault m_trace m_sorts m_sheetLong m_cells m_sun m_wide m_deep (m_hour + p1) m_kind q34_3 m_at m_readSun m_readWide m_readDeep m_readKind m_readWet m_keptWet m_keptSun m_openFirst m_planHours m_readings m_readCells m_readHours m_readCracked)) (rest := []) (st1 := [.int q49_4]) Cc hK hA hP hD hS hl.1 (ctX5_crackedBehind l D cI cS a_m a_m_sorts a_m_sheetLong a_m_cells a_m_kind a_m_wet a_m_readKind a_m_readWet a_m_keptWet a_m_readCells a_m_readHours a_m_readCracked m_fault m_trace m_sorts m_sheetLong m_cells m_sun m_wide m_deep (m_hour + p1) m_kind q34_3 m_at m_readSun m_readWide m_readDeep m_readKind m_readWet m_keptWet m_keptSun m_openFirst m_planHours m_readings m_readCells m_readHours m_readCracked (0 : Int32) n q49_4 hq7) ⟨tw_639, tw_636, tw_638, tp_21, tw_6⟩ mdX5_crackedBehind ⟨rfl, rfl, Nat.le_of_ble_eq_true rfl, Nat.le_of_ble_eq_true rfl⟩ rfl dX5_dry_49 rfl (Nat.le_of_ble_eq_true rfl) ⟨Nat.zero_le _, Nat.zero_le _⟩ rfl rfl rfl [0, 1, 2, 3, 4, 5, 6, 7, 8, 9, 10, 11] [] [0, 1, 2, 3, 4, 5, 6, 7, 8, 9, 10, 11] rfl rfl (by decide) rfl (fun H locs hP hD hS => ?_)
      obtain ⟨q52_5, hq8, hf⟩ := Option.bind_eq_some_iff.mp hf
      refine cSt (ws' := (W_m cI cS a_m a_m_sorts a_m_sheetLong a_m_cells a_m_kind a_m_wet a_m_readKind a_m_readWet a_m_keptWet a_m_readCells a_m_readHours a_m_readCracked m_fault m_trace m_sorts m_sheetLong m_cells m_sun m_wide m_deep (m_hour + p1) m_kind q34_3 m_at m_readSun m_readWide m_readDeep m_readKind m_readWet m_keptWet m_keptSun m_openFirst m_planHours m_readings m_readCells m_readHours m_readCracked)) (rest := []) (st1 := [.int q52_5]) Cc hK hA hP hD hS hl.1 (ctX5_size l D cI cS   q49_4 n q52_5 hq8) ⟨tw_657, tw_655, tw_656, tw_6⟩ mdX5_size ⟨rfl, rfl, Nat.le_of_ble_eq_true rfl, Nat.le_of_ble_eq_true rfl⟩ rfl dX5_dry_52 rfl (Nat.le_of_ble_eq_true rfl) ⟨Nat.zero_le _, Nat.zero_le _⟩ rfl [] [0, 1, 2, 3, 4, 5, 6, 7, 8, 9, 10, 11] [0, 1, 2, 3, 4, 5, 6, 7, 8, 9, 10, 11] rfl rfl (by decide) rfl (fun H locs hP hD hS => ?_)
      refine lv_iload_n hx hb dX5_dry_55 rfl (lv_at hl 0 rfl) ?_
      refine lv_isub hx hb dX5_dry_56 ?_
      replace hf := Option.some.inj hf
      obtain ⟨er0, er1⟩ := Prod.mk.inj hf
      obtain ⟨er2, er3⟩ := Prod.mk.inj er1
      clear hf er1
      subst er0
      subst er2
      subst er3
      exact rt_i Cc hK hP hD hS dX5_dry_57
    · replace hf := (if_pos hc3).symm.trans hf
      refine lv_bipush (v := (-3 : Int32)) hx hb dX5_dry_20 (by decide) ?_
      replace hf := Option.some.inj hf
      obtain ⟨er0, er1⟩ := Prod.mk.inj hf
      obtain ⟨er2, er3⟩ := Prod.mk.inj er1
      clear hf er1
      subst er0
      subst er2
      subst er3
      exact rt_i Cc hK hP hD hS dX5_dry_22
  · replace hf := (if_pos hc2).symm.trans hf
    refine lv_bipush (v := (-2 : Int32)) hx hb dX5_dry_10 (by decide) ?_
    replace hf := Option.some.inj hf
    obtain ⟨er0, er1⟩ := Prod.mk.inj hf
    obtain ⟨er2, er3⟩ := Prod.mk.inj er1
    clear hf er1
    subst er0
    subst er2
    subst er3
    exact rt_i Cc hK hP hD hS dX5_dry_12
-- X5_pouredOn
def fX5_pouredOn (n : Nat) (m_wet : Nat → Int32) (p1 : Int32) (p2 : Int32) : Option (Int32 × (Nat → Int32)) := gd p1 12 (if ((m_wet p1.toNatClampNeg) + p2) ≤ (9 : Int32) then gd p1 12 (gd p1 12 (gd p1 12 (some (((upd m_wet p1.toNatClampNeg ((m_wet p1.toNatClampNeg) + p2)) p1.toNatClampNeg), (upd m_wet p1.toNatClampNeg ((m_wet p1.toNatClampNeg) + p2)))))) else gd p1 12 (gd p1 12 (some (((upd m_wet p1.toNatClampNeg (9 : Int32)) p1.toNatClampNeg), (upd m_wet p1.toNatClampNeg (9 : Int32))))))
theorem mdX5_pouredOn : yX5_pouredOn.cls = RX5 ∧ yX5_pouredOn.cls ≠ "java/lang/invoke/MethodHandle" ∧ yX5_pouredOn.cls ≠ "java/lang/invoke/VarHandle" ∧ (parseMethodDescriptor yX5_pouredOn.desc).map (fun d => d.parameters.length) = some 2 := by decide +kernel
set_option maxHeartbeats 4000000 in
set_option maxRecDepth 100000 in
theorem ctX5_pouredOn (l : Launch) (D : va_G) (cI cS : ClassId) (a_m a_m_sorts a_m_sheetLong a_m_cells a_m_kind a_m_wet a_m_readKind a_m_readWet a_m_keptWet a_m_readCells a_m_readHours a_m_readCracked : Nat) (m_fault : Int32) (m_trace : Int32) (m_sorts : Nat → Int32) (m_sheetLong : Nat → Int32) (m_cells : Nat → Int32) (m_sun : Int32) (m_wide : Int32) (m_deep : Int32) (m_hour : Int32) (m_kind : Nat → Int32) (m_wet : Nat → Int32) (m_at : Int32) (m_readSun : Int32) (m_readWide : Int32) (m_readDeep : Int32) (m_readKind : Nat → Int32) (m_readWet : Nat → Int32) (m_keptWet : Nat → Int32) (m_keptSun : Int32) (m_openFirst : Int32) (m_planHours : Int32) (m_readings : Int32) (m_readCells : Nat → Int32) (m_readHours : Nat → Int32) (m_readCracked : Nat → Int32) (p1 : Int32) (p2 : Int32) (n : Nat) (r : Int32) (m_wet' : Nat → Int32) (hf : fX5_pouredOn n m_wet p1 p2 = some (r, m_wet')) : Ct l D (tysA cI cS) yX5_pouredOn cX5_pouredOn 3 (some .int) (Rm 0) [.ref a_m, .int p1, .int p2] (W_m cI cS a_m a_m_sorts a_m_sheetLong a_m_cells a_m_kind a_m_wet a_m_readKind a_m_readWet a_m_keptWet a_m_readCells a_m_readHours a_m_readCracked m_fault m_trace m_sorts m_sheetLong m_cells m_sun m_wide m_deep m_hour m_kind m_wet m_at m_readSun m_readWide m_readDeep m_readKind m_readWet m_keptWet m_keptSun m_openFirst m_planHours m_readings m_readCells m_readHours m_readCracked) (some (.int r)) (W_m cI cS a_m a_m_sorts a_m_sheetLong a_m_cells a_m_kind a_m_wet a_m_readKind a_m_readWet a_m_keptWet a_m_readCells a_m_readHours a_m_readCracked m_fault m_trace m_sorts m_sheetLong m_cells m_sun m_wide m_deep m_hour m_kind m_wet' m_at m_readSun m_readWide m_readDeep m_readKind m_readWet m_keptWet m_keptSun m_openFirst m_planHours m_readings m_readCells m_readHours m_readCracked) := by
  refine Ct_of (by decide) (Nat.le_of_ble_eq_true rfl) ?_
  intro p e s m args below meth c A ls Cc hK hA hP hD hS hl
  have hl : lv_has ls 3 [(0, .ref a_m), (1, .int p1), (2, .int p2)] := hl
  obtain ⟨hx, hb, hr, hml, hown, hts, hlk, hnw⟩ := id Cc
  unfold fX5_pouredOn at hf
  refine lv_aload_n hx hb dX5_pouredOn_0 rfl (lv_at hl 0 rfl) ?_
  refine va_get (D := D) (ci := 5) (v := .ref a_m_wet) (C := RX5) (T := TX5) (N := 25) hx hb hts inX5 hown hK hP 0 rfl rfl 10 (by decide) (hts _ tw_513) (fun _ h9 => h9) rfl dX5_pouredOn_1 ?_
  refine lv_iload_n hx hb dX5_pouredOn_4 rfl (lv_at hl 1 rfl) ?_
  refine lv_aload_n hx hb dX5_pouredOn_5 rfl (lv_at hl 0 rfl) ?_
  refine va_get (D := D) (ci := 5) (v := .ref a_m_wet) (C := RX5) (T := TX5) (N := 25) hx hb hts inX5 hown hK hP 0 rfl rfl 10 (by decide) (hts _ tw_513) (fun _ h9 => h9) rfl dX5_pouredOn_6 ?_
  refine lv_iload_n hx hb dX5_pouredOn_9 rfl (lv_at hl 1 rfl) ?_
  obtain ⟨hin, hf⟩ := gd_some hf
  refine va_iald hx hb hK hP 5 0 rfl rfl hin dX5_pouredOn_10 ?_
  refine lv_iload_n hx hb dX5_pouredOn_11 rfl (lv_at hl 2 rfl) ?_
  refine lv_iadd hx hb dX5_pouredOn_12 ?_
  refine lv_bipush (v := (9 : Int32)) hx hb dX5_pouredOn_13 (by decide) ?_
  refine lv_icmp_le (tgt := 23) hx hb dX5_pouredOn_15 (by decide) (fun hc1 => ?_) (fun hc1 => ?_)
  · replace hf := (if_pos hc1).symm.trans hf
    refine lv_aload_n hx hb dX5_pouredOn_23 rfl (lv_at hl 0 rfl) ?_
    refine va_get (D := D) (ci := 5) (v := .ref a_m_wet) (C := RX5) (T := TX5) (N := 25) hx hb hts inX5 hown hK hP 0 rfl rfl 10 (by decide) (hts _ tw_513) (fun _ h9 => h9) rfl dX5_pouredOn_24 ?_
    refine lv_iload_n hx hb dX5_pouredOn_27 rfl (lv_at hl 1 rfl) ?_
    obtain ⟨hin, hf⟩ := gd_some hf
    refine va_iald hx hb hK hP 5 0 rfl rfl hin dX5_pouredOn_28 ?_
    refine lv_iload_n hx hb dX5_pouredOn_29 rfl (lv_at hl 2 rfl) ?_
    refine lv_iadd hx hb dX5_pouredOn_30 ?_
    obtain ⟨hin, hf⟩ := gd_some hf
    refine va_iast hx hb hK hP hD hS 5 0 rfl rfl hin dX5_pouredOn_31 (fun H locs hP hD hS => ?_)
    have hP : va_P D classes (W_m cI cS a_m a_m_sorts a_m_sheetLong a_m_cells a_m_kind a_m_wet a_m_readKind a_m_readWet a_m_keptWet a_m_readCells a_m_readHours a_m_readCracked m_fault m_trace m_sorts m_sheetLong m_cells m_sun m_wide m_deep m_hour m_kind (upd m_wet p1.toNatClampNeg ((m_wet p1.toNatClampNeg) + p2)) m_at m_readSun m_readWide m_readDeep m_readKind m_readWet m_keptWet m_keptSun m_openFirst m_planHours m_readings m_readCells m_readHours m_readCracked) H := hP
    have hD : va_D A (W_m cI cS a_m a_m_sorts a_m_sheetLong a_m_cells a_m_kind a_m_wet a_m_readKind a_m_readWet a_m_keptWet a_m_readCells a_m_readHours a_m_readCracked m_fault m_trace m_sorts m_sheetLong m_cells m_sun m_wide m_deep m_hour m_kind (upd m_wet p1.toNatClampNeg ((m_wet p1.toNatClampNeg) + p2)) m_at m_readSun m_readWide m_readDeep m_readKind m_readWet m_keptWet m_keptSun m_openFirst m_planHours m_readings m_readCells m_readHours m_readCracked) := hD
    refine lv_aload_n hx hb dX5_pouredOn_32 rfl (lv_at hl 0 rfl) ?_
    refine va_get (D := D) (ci := 5) (v := .ref a_m_wet) (C := RX5) (T := TX5) (N := 25) hx hb hts inX5 hown hK hP 0 rfl rfl 10 (by decide) (hts _ tw_513) (fun _ h9 => h9) rfl dX5_pouredOn_33 ?_
    refine lv_iload_n hx hb dX5_pouredOn_36 rfl (lv_at hl 1 rfl) ?_
    obtain ⟨hin, hf⟩ := gd_some hf
    refine va_iald hx hb hK hP 5 0 rfl rfl hin dX5_pouredOn_37 ?_
    replace hf := Option.some.inj hf
    obtain ⟨er0, er1⟩ := Prod.mk.inj hf
    clear hf 
    subst er0
    subst er1
    exact rt_i Cc hK hP hD hS dX5_pouredOn_38
  · replace hf := (if_neg hc1).symm.trans hf
    refine lv_bipush (v := (9 : Int32)) hx hb dX5_pouredOn_18 (by decide) ?_
    refine lv_goto (tgt := 31) hx hb dX5_pouredOn_20 (by decide) ?_
    obtain ⟨hin, hf⟩ := gd_some hf
    refine va_iast hx hb hK hP hD hS 5 0 rfl rfl hin dX5_pouredOn_31 (fun H locs hP hD hS => ?_)
    have hP : va_P D classes (W_m cI cS a_m a_m_sorts a_m_sheetLong a_m_cells a_m_kind a_m_wet a_m_readKind a_m_readWet a_m_keptWet a_m_readCells a_m_readHours a_m_readCracked m_fault m_trace m_sorts m_sheetLong m_cells m_sun m_wide m_deep m_hour m_kind (upd m_wet p1.toNatClampNeg (9 : Int32)) m_at m_readSun m_readWide m_readDeep m_readKind m_readWet m_keptWet m_keptSun m_openFirst m_planHours m_readings m_readCells m_readHours m_readCracked) H := hP
    have hD : va_D A (W_m cI cS a_m a_m_sorts a_m_sheetLong a_m_cells a_m_kind a_m_wet a_m_readKind a_m_readWet a_m_keptWet a_m_readCells a_m_readHours a_m_readCracked m_fault m_trace m_sorts m_sheetLong m_cells m_sun m_wide m_deep m_hour m_kind (upd m_wet p1.toNatClampNeg (9 : Int32)) m_at m_readSun m_readWide m_readDeep m_readKind m_readWet m_keptWet m_keptSun m_openFirst m_planHours m_readings m_readCells m_readHours m_readCracked) := hD
    refine lv_aload_n hx hb dX5_pouredOn_32 rfl (lv_at hl 0 rfl) ?_
    refine va_get (D := D) (ci := 5) (v := .ref a_m_wet) (C := RX5) (T := TX5) (N := 25) hx hb hts inX5 hown hK hP 0 rfl rfl 10 (by decide) (hts _ tw_513) (fun _ h9 => h9) rfl dX5_pouredOn_33 ?_
    refine lv_iload_n hx hb dX5_pouredOn_36 rfl (lv_at hl 1 rfl) ?_
    obtain ⟨hin, hf⟩ := gd_some hf
    refine va_iald hx hb hK hP 5 0 rfl rfl hin dX5_pouredOn_37 ?_
    replace hf := Option.some.inj hf
    obtain ⟨er0, er1⟩ := Prod.mk.inj hf
    clear hf 
    subst er0
    subst er1
    exact rt_i Cc hK hP hD hS dX5_pouredOn_38
-- X5_pour
def fX5_pour (n : Nat) (m_wide : Int32) (m_deep : Int32) (m_wet : Nat → Int32) (p1 : Int32) (p2 : Int32) : Option (Int32 × (Nat → Int32)) := (fX5_isCell n m_wide m_deep p1).bind fun q2_1 => if q2_1 = 0 then some ((-1 : Int32), m_wet) else (fX5_within n p2 (1 : Int32) (9 : Int32)).bind fun q14_1 => if q14_1 = 0 then some ((-2 : Int32), m_wet) else gd p1 12 (if (m_wet p1.toNatClampNeg) = 0 then some ((-3 : Int32), m_wet) else (fX5_pouredOn n m_wet p1 p2).bind fun q40_1 => some (q40_1.1, q40_1.2))
theorem mdX5_pour : yX5_pour.cls = RX5 ∧ yX5_pour.cls ≠ "java/lang/invoke/MethodHandle" ∧ yX5_pour.cls ≠ "java/lang/invoke/VarHandle" ∧ (parseMethodDescriptor yX5_pour.desc).map (fun d => d.parameters.length) = some 2 := by decide +kernel
set_option maxHeartbeats 4000000 in
set_option maxRecDepth 100000 in
theorem ctX5_pour (l : Launch) (D : va_G) (cI cS : ClassId) (a_m a_m_sorts a_m_sheetLong a_m_cells a_m_kind a_m_wet a_m_readKind a_m_readWet a_m_keptWet a_m_readCells a_m_readHours a_m_readCracked : Nat) (m_fault : Int32) (m_trace : Int32) (m_sorts : Nat → Int32) (m_sheetLong : Nat → Int32) (m_cells : Nat → Int32) (m_sun : Int32) (m_wide : Int32) (m_deep : Int32) (m_hour : Int32) (m_kind : Nat → Int32) (m_wet : Nat → Int32) (m_at : Int32) (m_readSun : Int32) (m_readWide : Int32) (m_readDeep : Int32) (m_readKind : Nat → Int32) (m_readWet : Nat → Int32) (m_keptWet : Nat → Int32) (m_keptSun : Int32) (m_openFirst : Int32) (m_planHours : Int32) (m_readings : Int32) (m_readCells : Nat → Int32) (m_readHours : Nat → Int32) (m_readCracked : Nat → Int32) (p1 : Int32) (p2 : Int32) (n : Nat) (r : Int32) (m_wet' : Nat → Int32) (hf : fX5_pour n m_wide m_deep m_wet p1 p2 = some (r, m_wet')) : Ct l D (tysA cI cS) yX5_pour cX5_pour 3 (some .int) (Rm 2) [.ref a_m, .int p1, .int p2] (W_m cI cS a_m a_m_sorts a_m_sheetLong a_m_cells a_m_kind a_m_wet a_m_readKind a_m_readWet a_m_keptWet a_m_readCells a_m_readHours a_m_readCracked m_fault m_trace m_sorts m_sheetLong m_cells m_sun m_wide m_deep m_hour m_kind m_wet m_at m_readSun m_readWide m_readDeep m_readKind m_readWet m_keptWet m_keptSun m_openFirst m_planHours m_readings m_readCells m_readHours m_readCracked) (some (.int r)) (W_m cI cS a_m a_m_sorts a_m_sheetLong a_m_cells a_m_kind a_m_wet a_m_readKind a_m_readWet a_m_keptWet a_m_readCells a_m_readHours a_m_readCracked m_fault m_trace m_sorts m_sheetLong m_cells m_sun m_wide m_deep m_hour m_kind m_wet' m_at m_readSun m_readWide m_readDeep m_readKind m_readWet m_keptWet m_keptSun m_openFirst m_planHours m_readings m_readCells m_readHours m_readCracked) := by
  refine Ct_of (by decide) (Nat.le_of_ble_eq_true rfl) ?_
  intro p e s m args below meth c A ls Cc hK hA hP hD hS hl
  have hl : lv_has ls 3 [(0, .ref a_m), (1, .int p1), (2, .int p2)] := hl
  obtain ⟨hx, hb, hr, hml, hown, hts, hlk, hnw⟩ := id Cc
  unfold fX5_pour at hf
  refine lv_aload_n hx hb dX5_pour_0 rfl (lv_at hl 0 rfl) ?_
  refine lv_iload_n hx hb dX5_pour_1 rfl (lv_at hl 1 rfl) ?_
  obtain ⟨q2_1, hq1, hf⟩ := Option.bind_eq_some_iff.mp hf
  refine cV (ws' := (W_m cI cS a_m a_m_sorts a_m_sheetLong a_m_cells a_m_kind a_m_wet a_m_readKind a_m_readWet a_m_keptWet a_m_readCells a_m_readHours a_m_readCracked m_fault m_trace m_sorts m_sheetLong m_cells m_sun m_wide m_deep m_hour m_kind m_wet m_at m_readSun m_readWide m_readDeep m_readKind m_readWet m_keptWet m_keptSun m_openFirst m_planHours m_readings m_readCells m_readHours m_readCracked)) (rest := []) (st1 := [.int q2_1]) Cc hK hA hP hD hS hl.1 (ctX5_isCell l D cI cS a_m a_m_sorts a_m_sheetLong a_m_cells a_m_kind a_m_wet a_m_readKind a_m_readWet a_m_keptWet a_m_readCells a_m_readHours a_m_readCracked m_fault m_trace m_sorts m_sheetLong m_cells m_sun m_wide m_deep m_hour m_kind m_wet m_at m_readSun m_readWide m_readDeep m_readKind m_readWet m_keptWet m_keptSun m_openFirst m_planHours m_readings m_readCells m_readHours m_readCracked p1 n q2_1 hq1) ⟨tw_627, tw_624, tw_626, tp_18, tw_6⟩ mdX5_isCell ⟨rfl, rfl, Nat.le_of_ble_eq_true rfl, Nat.le_of_ble_eq_true rfl⟩ rfl dX5_pour_2 rfl (Nat.le_of_ble_eq_true rfl) ⟨Nat.zero_le _, Nat.zero_le _⟩ rfl rfl rfl [0, 1, 2, 3, 4, 5, 6, 7, 8, 9, 10, 11] [] [0, 1, 2, 3, 4, 5, 6, 7, 8, 9, 10, 11] rfl rfl (by decide) rfl (fun H locs hP hD hS => ?_)
  refine lv_if_ne (tgt := 10) hx hb dX5_pour_5 (by decide) (fun hc2 => ?_) (fun hc2 => ?_)
  · replace hf := (if_neg hc2).symm.trans hf
    refine lv_iload_n hx hb dX5_pour_10 rfl (lv_at hl 2 rfl) ?_
    refine lv_iconst (v := (1 : Int32)) hx hb dX5_pour_11 (by decide) ?_
    refine lv_bipush (v := (9 : Int32)) hx hb dX5_pour_12 (by decide) ?_
    obtain ⟨q14_1, hq3, hf⟩ := Option.bind_eq_some_iff.mp hf
    refine cSt (ws' := (W_m cI cS a_m a_m_sorts a_m_sheetLong a_m_cells a_m_kind a_m_wet a_m_readKind a_m_readWet a_m_keptWet a_m_readCells a_m_readHours a_m_readCracked m_fault m_trace m_sorts m_sheetLong m_cells m_sun m_wide m_deep m_hour m_kind m_wet m_at m_readSun m_readWide m_readDeep m_readKind m_readWet m_keptWet m_keptSun m_openFirst m_planHours m_readings m_readCells m_readHours m_readCracked)) (rest := []) (st1 := [.int q14_1]) Cc hK hA hP hD hS hl.1 (ctX5_within l D cI cS   p2 (1 : Int32) (9 : Int32) n q14_1 hq3) ⟨tw_588, tw_586, tw_587, tw_6⟩ mdX5_within ⟨rfl, rfl, Nat.le_of_ble_eq_true rfl, Nat.le_of_ble_eq_true rfl⟩ rfl dX5_pour_14 rfl (Nat.le_of_ble_eq_true rfl) ⟨Nat.zero_le _, Nat.zero_le _⟩ rfl [] [0, 1, 2, 3, 4, 5, 6, 7, 8, 9, 10, 11] [0, 1, 2, 3, 4, 5, 6, 7, 8, 9, 10, 11] rfl rfl (by decide) rfl (fun H locs hP hD hS => ?_)
    refine lv_if_ne (tgt := 23) hx hb dX5_pour_17 (by decide) (fun hc4 => ?_) (fun hc4 => ?_)
    · replace hf := (if_neg hc4).symm.trans hf
      refine lv_aload_n hx hb dX5_pour_23 rfl (lv_at hl 0 rfl) ?_
      refine va_get (D := D) (ci := 5) (v := .ref a_m_wet) (C := RX5) (T := TX5) (N := 25) hx hb hts inX5 hown hK hP 0 rfl rfl 10 (by decide) (hts _ tw_513) (fun _ h9 => h9) rfl dX5_pour_24 ?_
      refine lv_iload_n hx hb dX5_pour_27 rfl (lv_at hl 1 rfl) ?_
      obtain ⟨hin, hf⟩ := gd_some hf
      refine va_iald hx hb hK hP 5 0 rfl rfl hin dX5_pour_28 ?_
      refine lv_if_ne (tgt := 37) hx hb dX5_pour_29 (by decide) (fun hc5 => ?_) (fun hc5 => ?_)
      · replace hf := (if_neg hc5).symm.trans hf
        refine lv_aload_n hx hb dX5_pour_37 rfl (lv_at hl 0 rfl) ?_
        refine lv_iload_n hx hb dX5_pour_38 rfl (lv_at hl 1 rfl) ?_
        refine lv_iload_n hx hb dX5_pour_39 rfl (lv_at hl 2 rfl) ?_
        obtain ⟨q40_1, hq6, hf⟩ := Option.bind_eq_some_iff.mp hf
        refine cV (ws' := (W_m cI cS a_m a_m_sorts a_m_sheetLong a_m_cells a_m_kind a_m_wet a_m_readKind a_m_readWet a_m_keptWet a_m_readCells a_m_readHours a_m_readCracked m_fault m_trace m_sorts m_sheetLong m_cells m_sun m_wide m_deep m_hour m_kind q40_1.2 m_at m_readSun m_readWide m_readDeep m_readKind m_readWet m_keptWet m_keptSun m_openFirst m_planHours m_readings m_readCells m_readHours m_readCracked)) (rest := []) (st1 := [.int q40_1.1]) Cc hK hA hP hD hS hl.1 (ctX5_pouredOn l D cI cS a_m a_m_sorts a_m_sheetLong a_m_cells a_m_kind a_m_wet a_m_readKind a_m_readWet a_m_keptWet a_m_readCells a_m_readHours a_m_readCracked m_fault m_trace m_sorts m_sheetLong m_cells m_sun m_wide m_deep m_hour m_kind m_wet m_at m_readSun m_readWide m_readDeep m_readKind m_readWet m_keptWet m_keptSun m_openFirst m_planHours m_readings m_readCells m_readHours m_readCracked p1 p2 n q40_1.1 q40_1.2 hq6) ⟨tw_684, tw_681, tw_683, tp_26, tw_6⟩ mdX5_pouredOn ⟨rfl, rfl, Nat.le_of_ble_eq_true rfl, Nat.le_of_ble_eq_true rfl⟩ rfl dX5_pour_40 rfl (Nat.le_of_ble_eq_true rfl) ⟨Nat.zero_le _, Nat.zero_le _⟩ rfl rfl rfl [0, 1, 2, 3, 4, 5, 6, 7, 8, 9, 10, 11] [] [0, 1, 2, 3, 4, 5, 6, 7, 8, 9, 10, 11] rfl rfl (by decide) rfl (fun H locs hP hD hS => ?_)
        replace hf := Option.some.inj hf
        obtain ⟨er0, er1⟩ := Prod.mk.inj hf
        clear hf 
        subst er0
        subst er1
        exact rt_i Cc hK hP hD hS dX5_pour_43
      · replace hf := (if_pos hc5).symm.trans hf
        refine lv_bipush (v := (-3 : Int32)) hx hb dX5_pour_32 (by decide) ?_
        refine lv_goto (tgt := 43) hx hb dX5_pour_34 (by decide) ?_
        replace hf := Option.some.inj hf
        obtain ⟨er0, er1⟩ := Prod.mk.inj hf
        clear hf 
        subst er0
        subst er1
        exact rt_i Cc hK hP hD hS dX5_pour_43
    · replace hf := (if_pos hc4).symm.trans hf
      refine lv_bipush (v := (-2 : Int32)) hx hb dX5_pour_20 (by decide) ?_
      replace hf := Option.some.inj hf
      obtain ⟨er0, er1⟩ := Prod.mk.inj hf
      clear hf 
      subst er0
      subst er1
      exact rt_i Cc hK hP hD hS dX5_pour_22
  · replace hf := (if_pos hc2).symm.trans hf
    refine lv_iconst (v := (-1 : Int32)) hx hb dX5_pour_8 (by decide) ?_
    replace hf := Option.some.inj hf
    obtain ⟨er0, er1⟩ := Prod.mk.inj hf
    clear hf 
    subst er0
    subst er1
    exact rt_i Cc hK hP hD hS dX5_pour_9
-- X5_cracks
def fX5_cracks_63 (n : Nat) : Nat → Int32 → Int32 → Int32 → (Nat → Int32) → (Nat → Int32) → Int32 → Int32 → Int32 → Int32 → Option (Int32)
  | 0, _, _, _, _, _, _, _, _, _ => none
  | k + 1, m_sun, m_wide, m_deep, m_kind, m_wet, x1, x3, x4, x5 => (fX5_cellsOf n m_wide m_deep).bind fun q66_1 => if q66_1 ≤ x5 then if x1 = (2 : Int32) then some (x3) else some (x4) else (fX5_pieceOf n m_sun m_wide m_deep m_kind m_wet x5).bind fun q75_1 => (fX5_isOf n q75_1 x5).bind fun q84_2 => if q84_2 = 0 then fX5_cracks_63 n k m_sun m_wide m_deep m_kind m_wet x1 (x3 + (0 : Int32)) x4 (x5 + 1) else if (q75_1 &&& (((1 : Int32) <<< (x5 &&& 31)) - (1 : Int32))) = 0 then (fX5_size n q75_1).bind fun q129_1 => if q129_1 ≤ x4 then fX5_cracks_63 n k m_sun m_wide m_deep m_kind m_wet x1 (x3 + (1 : Int32)) x4 (x5 + 1) else (fX5_size n q75_1).bind fun q139_1 => fX5_cracks_63 n k m_sun m_wide m_deep m_kind m_wet x1 (x3 + (1 : Int32)) q139_1 (x5 + 1) else fX5_cracks_63 n k m_sun m_wide m_deep m_kind m_wet x1 (x3 + (0 : Int32)) x4 (x5 + 1)
def fX5_cracks (n : Nat) (m_sun : Int32) (m_wide : Int32) (m_deep : Int32) (m_kind : Nat → Int32) (m_wet : Nat → Int32) (p1 : Int32) : Option (Int32) := (fX5_within n p1 (0 : Int32) (3 : Int32)).bind fun q3_1 => if q3_1 = 0 then some ((-2 : Int32)) else if m_wide = 0 then some ((-3 : Int32)) else (fX5_crackedBehind n m_sun m_wide m_deep m_kind m_wet (0 : Int32)).bind fun q24_1 => if (2 : Int32) ≤ p1 then fX5_cracks_63 n n m_sun m_wide m_deep m_kind m_wet p1 (0 : Int32) (0 : Int32) (0 : Int32) else if p1 = 0 then some (q24_1) else (fX5_isOpen n m_wide m_deep q24_1).bind fun q43_1 => if q43_1 = 0 then some ((0 : Int32)) else some ((1 : Int32))
theorem mdX5_cracks : yX5_cracks.cls = RX5 ∧ yX5_cracks.cls ≠ "java/lang/invoke/MethodHandle" ∧ yX5_cracks.cls ≠ "java/lang/invoke/VarHandle" ∧ (parseMethodDescriptor yX5_cracks.desc).map (fun d => d.parameters.length) = some 1 := by decide +kernel
set_option maxHeartbeats 4000000 in
set_option maxRecDepth 100000 in
theorem bX5_cracks_63 {p : Program} {l : Launch} {e : Env} {s : State} {m : MethodId} {args : Array Value} {below : List Frame} {meth : Method} {c : Code} {A : Nat → Prop} {D : va_G} {cI cS : ClassId} (a_m a_m_sorts a_m_sheetLong a_m_cells a_m_kind a_m_wet a_m_readKind a_m_readWet a_m_keptWet a_m_readCells a_m_readHours a_m_readCracked : Nat) (m_fault : Int32) (m_trace : Int32) (m_sorts : Nat → Int32) (m_sheetLong : Nat → Int32) (m_cells : Nat → Int32) (m_hour : Int32) (m_at : Int32) (m_readSun : Int32) (m_readWide : Int32) (m_readDeep : Int32) (m_readKind : Nat → Int32) (m_readWet : Nat → Int32) (m_keptWet : Nat → Int32) (m_keptSun : Int32) (m_openFirst : Int32) (m_planHours : Int32) (m_readings : Int32) (m_readCells : Nat → Int32) (m_readHours : Nat → Int32) (m_readCracked : Nat → Int32) (Cc : Cx p s m args meth c RX5 cX5_cracks 8 (some .int)) (hK : va_K D classes (tysA cI cS) s) (hA : ∀ q, s.heap.size ≤ q → A q) (n : Nat) : ∀ (k : Nat) (m_sun : Int32) (m_wide : Int32) (m_deep : Int32) (m_kind : Nat → Int32) (m_wet : Nat → Int32) (x1 : Int32) (x3 : Int32) (x4 : Int32) (x5 : Int32) (r : Int32), fX5_cracks_63 n k m_sun m_wide m_deep m_kind m_wet x1 x3 x4 x5 = some (r) → ∀ (H : Heap) (locs : List Loc) (ls : Array Slot), va_P D classes (W_m cI cS a_m a_m_sorts a_m_sheetLong a_m_cells a_m_kind a_m_wet a_m_readKind a_m_readWet a_m_keptWet a_m_readCells a_m_readHours a_m_readCracked m_fault m_trace m_sorts m_sheetLong m_cells m_sun m_wide m_deep m_hour m_kind m_wet m_at m_readSun m_readWide m_readDeep m_readKind m_readWet m_keptWet m_keptSun m_openFirst m_planHours m_readings m_readCells m_readHours m_readCracked) H → va_D A (W_m cI cS a_m a_m_sorts a_m_sheetLong a_m_cells a_m_kind a_m_wet a_m_readKind a_m_readWet a_m_keptWet a_m_readCells a_m_readHours a_m_readCracked m_fault m_trace m_sorts m_sheetLong m_cells m_sun m_wide m_deep m_hour m_kind m_wet m_at m_readSun m_readWide m_readDeep m_readKind m_readWet m_keptWet m_keptSun m_openFirst m_planHours m_readings m_readCells m_readHours m_readCracked) → va_S A s.heap H locs → lv_has ls 8 [(0, .ref a_m), (1, .int x1), (3, .int x3), (4, .int x4), (5, .int x5)] → W p l e (Rm 4) s m args below meth c H locs 0 0 (MQ below (QW D (tysA cI cS) (some (.int r)) (W_m cI cS a_m a_m_sorts a_m_sheetLong a_m_cells a_m_kind a_m_wet a_m_readKind a_m_readWet a_m_keptWet a_m_readCells a_m_readHours a_m_readCracked m_fault m_trace m_sorts m_sheetLong m_cells m_sun m_wide m_deep m_hour m_kind m_wet m_at m_readSun m_readWide m_readDeep m_readKind m_readWet m_keptWet m_keptSun m_openFirst m_planHours m_readings m_readCells m_readHours m_readCracked) A) args s 0 0 A) (F0 m 63 ls []) := by
  obtain ⟨hx, hb, hr, hml, hown, hts, hlk, hnw⟩ := id Cc
  intro k
  induction k with
  | zero =>
    intro m_sun m_wide m_deep m_kind m_wet x1 x3 x4 x5 r hf
    rw [fX5_cracks_63] at hf
    cases hf
  | succ k ih =>
    intro m_sun m_wide m_deep m_kind m_wet x1 x3 x4 x5 r hf H locs ls hP hD hS hl
    rw [fX5_cracks_63] at hf
    refine lv_iload hx hb dX5_cracks_63 (lv_at hl 4 rfl) ?_
    refine lv_aload_n hx hb dX5_cracks_65 rfl (lv_at hl 0 rfl) ?_
    obtain ⟨q66_1, hq6, hf⟩ := Option.bind_eq_some_iff.mp hf
    refine cV (ws' := (W_m cI cS a_m a_m_sorts a_m_sheetLong a_m_cells a_m_kind a_m_wet a_m_readKind a_m_readWet a_m_keptWet a_m_readCells a_m_readHours a_m_readCracked m_fault m_trace m_sorts m_sheetLong m_cells m_sun m_wide m_deep m_hour m_kind m_wet m_at m_readSun m_readWide m_readDeep m_readKind m_readWet m_keptWet m_keptSun m_openFirst m_planHours m_readings m_readCells m_readHours m_readCracked)) (rest := [.int x5]) (st1 := [.int q66_1, .int x5]) Cc hK hA hP hD hS hl.1 (ctX5_cellsOf l D cI cS a_m a_m_sorts a_m_sheetLong a_m_cells a_m_kind a_m_wet a_m_readKind a_m_readWet a_m_keptWet a_m_readCells a_m_readHours a_m_readCracked m_fault m_trace m_sorts m_sheetLong m_cells m_sun m_wide m_deep m_hour m_kind m_wet m_at m_readSun m_readWide m_readDeep m_readKind m_readWet m_keptWet m_keptSun m_openFirst m_planHours m_readings m_readCells m_readHours m_readCracked  n q66_1 hq6) ⟨tw_619, tw_616, tw_618, tp_17, tw_6⟩ mdX5_cellsOf ⟨rfl, rfl, Nat.le_of_ble_eq_true rfl, Nat.le_of_ble_eq_true rfl⟩ rfl dX5_cracks_66 rfl (Nat.le_of_ble_eq_true rfl) ⟨Nat.zero_le _, Nat.zero_le _⟩ rfl rfl rfl [0, 1, 2, 3, 4, 5, 6, 7, 8, 9, 10, 11] [] [0, 1, 2, 3, 4, 5, 6, 7, 8, 9, 10, 11] rfl rfl (by decide) rfl (fun H locs hP hD hS => ?_)
    refine lv_icmp_ge (tgt := 155) hx hb dX5_cracks_69 (by decide) (fun hc7 => ?_) (fun hc7 => ?_)
    · replace hf := (if_pos hc7).symm.trans hf
      refine lv_iload_n hx hb dX5_cracks_155 rfl (lv_at hl 1 rfl) ?_
      refine lv_iconst (v := (2 : Int32)) hx hb dX5_cracks_156 (by decide) ?_
      refine lv_icmp_ne (tgt := 164) hx hb dX5_cracks_157 (by decide) (fun hc8 => ?_) (fun hc8 => ?_)
      · replace hf := (if_neg hc8).symm.trans hf
        refine lv_iload hx hb dX5_cracks_164 (lv_at hl 3 rfl) ?_
        obtain rfl := Option.some.inj hf
        exact rt_i Cc hK hP hD hS dX5_cracks_166
      · replace hf := (if_pos hc8).symm.trans hf
        refine lv_iload_n hx hb dX5_cracks_160 rfl (lv_at hl 2 rfl) ?_
        refine lv_goto (tgt := 166) hx hb dX5_cracks_161 (by decide) ?_
        obtain rfl := Option.some.inj hf
        exact rt_i Cc hK hP hD hS dX5_cracks_166
    · replace hf := (if_neg hc7).symm.trans hf
      refine lv_aload_n hx hb dX5_cracks_72 rfl (lv_at hl 0 rfl) ?_
      refine lv_iload hx hb dX5_cracks_73 (lv_at hl 4 rfl) ?_
      obtain ⟨q75_1, hq9, hf⟩ := Option.bind_eq_some_iff.mp hf
      refine cV (ws' := (W_m cI cS a_m a_m_sorts a_m_sheetLong a_m_cells a_m_kind a_m_wet a_m_readKind a_m_readWet a_m_keptWet a_m_readCells a_m_readHours a_m_readCracked m_fault m_trace m_sorts m_sheetLong m_cells m_sun m_wide m_deep m_hour m_kind m_wet m_at m_readSun m_readWide m_readDeep m_readKind m_readWet m_keptWet m_keptSun m_openFirst m_planHours m_readings m_readCells m_readHours m_readCracked)) (rest := []) (st1 := [.int q75_1]) Cc hK hA hP hD hS hl.1 (ctX5_pieceOf l D cI cS a_m a_m_sorts a_m_sheetLong a_m_cells a_m_kind a_m_wet a_m_readKind a_m_readWet a_m_keptWet a_m_readCells a_m_readHours a_m_readCracked m_fault m_trace m_sorts m_sheetLong m_cells m_sun m_wide m_deep m_hour m_kind m_wet m_at m_readSun m_readWide m_readDeep m_readKind m_readWet m_keptWet m_keptSun m_openFirst m_planHours m_readings m_readCells m_readHours m_readCracked x5 n q75_1 hq9) ⟨tw_635, tw_632, tw_634, tp_20, tw_6⟩ mdX5_pieceOf ⟨rfl, rfl, Nat.le_of_ble_eq_true rfl, Nat.le_of_ble_eq_true rfl⟩ rfl dX5_cracks_75 rfl (Nat.le_of_ble_eq_true rfl) ⟨Nat.zero_le _, Nat.zero_le _⟩ rfl rfl rfl [0, 1, 2, 3, 4, 5, 6, 7, 8, 9, 10, 11] [] [0, 1, 2, 3, 4, 5, 6, 7, 8, 9, 10, 11] rfl rfl (by decide) rfl (fun H locs hP hD hS => ?_)
      refine lv_istore (lv' := [(6, .int q75_1), (0, .ref a_m), (1, .int x1), (3, .int x3), (4, .int x4), (5, .int x5)]) hx hb dX5_cracks_78 hl (by decide) rfl (fun ls hl => ?_)
      refine lv_iload hx hb dX5_cracks_80 (lv_at hl 0 rfl) ?_
      refine lv_iload hx hb dX5_cracks_82 (lv_at hl 5 rfl) ?_
      obtain ⟨q84_2, hq10, hf⟩ := Option.bind_eq_some_iff.mp hf
      refine cSt (ws' := (W_m cI cS a_m a_m_sorts a_m_sheetLong a_m_cells a_m_kind a_m_wet a_m_readKind a_m_readWet a_m_keptWet a_m_readCells a_m_readHours a_m_readCracked m_fault m_trace m_sorts m_sheetLong m_cells m_sun m_wide m_deep m_hour m_kind m_wet m_at m_readSun m_readWide m_readDeep m_readKind m_readWet m_keptWet m_keptSun m_openFirst m_planHours m_readings m_readCells m_readHours m_readCracked)) (rest := []) (st1 := [.int q84_2]) Cc hK hA hP hD hS hl.1 (ctX5_isOf l D cI cS   q75_1 x5 n q84_2 hq10) ⟨tw_650, tw_648, tw_649, tw_6⟩ mdX5_isOf ⟨rfl, rfl, Nat.le_of_ble_eq_true rfl, Nat.le_of_ble_eq_true rfl⟩ rfl dX5_cracks_84 rfl (Nat.le_of_ble_eq_true rfl) ⟨Nat.zero_le _, Nat.zero_le _⟩ rfl [] [0, 1, 2, 3, 4, 5, 6, 7, 8, 9, 10, 11] [0, 1, 2, 3, 4, 5, 6, 7, 8, 9, 10, 11] rfl rfl (by decide) rfl (fun H locs hP hD hS => ?_)
      refine lv_if_eq (tgt := 106) hx hb dX5_cracks_87 (by decide) (fun hc11 => ?_) (fun hc11 => ?_)
      · replace hf := (if_pos hc11).symm.trans hf
        refine lv_iconst (v := (0 : Int32)) hx hb dX5_cracks_106 (by decide) ?_
        refine lv_istore (lv' := [(7, .int (0 : Int32)), (6, .int q75_1), (0, .ref a_m), (1, .int x1), (3, .int x3), (4, .int x4), (5, .int x5)]) hx hb dX5_cracks_107 hl (by decide) rfl (fun ls hl => ?_)
        refine lv_iload_n hx hb dX5_cracks_109 rfl (lv_at hl 4 rfl) ?_
        refine lv_iload hx hb dX5_cracks_110 (lv_at hl 0 rfl) ?_
        refine lv_if_eq (tgt := 119) hx hb dX5_cracks_112 (by decide) (fun _ => ?_) (fun hc => absurd hc (by decide))
        refine lv_iconst (v := (0 : Int32)) hx hb dX5_cracks_119 (by decide) ?_
        refine lv_iadd hx hb dX5_cracks_120 ?_
        refine lv_istore_n (lv' := [(3, .int (x3 + (0 : Int32))), (7, .int (0 : Int32)), (6, .int q75_1), (0, .ref a_m), (1, .int x1), (4, .int x4), (5, .int x5)]) hx hb dX5_cracks_121 rfl hl (by decide) rfl (fun ls hl => ?_)
        refine lv_iload hx hb dX5_cracks_122 (lv_at hl 1 rfl) ?_
        refine lv_if_eq (tgt := 145) hx hb dX5_cracks_124 (by decide) (fun _ => ?_) (fun hc => absurd hc (by decide))
        refine lv_iload hx hb dX5_cracks_145 (lv_at hl 5 rfl) ?_
        refine lv_istore (lv' := [(4, .int x4), (3, .int (x3 + (0 : Int32))), (7, .int (0 : Int32)), (6, .int q75_1), (0, .ref a_m), (1, .int x1), (5, .int x5)]) hx hb dX5_cracks_147 hl (by decide) rfl (fun ls hl => ?_)
        refine lv_iinc (v := (x5 + 1)) (lv' := [(5, .int (x5 + 1)), (4, .int x4), (3, .int (x3 + (0 : Int32))), (7, .int (0 : Int32)), (6, .int q75_1), (0, .ref a_m), (1, .int x1)]) hx hb dX5_cracks_149 hl (k := 6) rfl rfl (by decide) rfl (fun ls hl => ?_)
        refine lv_goto (tgt := 63) hx hb dX5_cracks_152 (by decide) ?_
        exact ih _ _ _ _ _ _ _ _ _ _ hf _ _ _ hP hD hS (lv_sub hl [5, 6, 2, 1, 0] rfl)
      · replace hf := (if_neg hc11).symm.trans hf
        refine lv_iload hx hb dX5_cracks_90 (lv_at hl 0 rfl) ?_
        refine lv_iconst (v := (1 : Int32)) hx hb dX5_cracks_92 (by decide) ?_
        refine lv_iload hx hb dX5_cracks_93 (lv_at hl 5 rfl) ?_
        refine lv_ishl hx hb dX5_cracks_95 ?_
        refine lv_iconst (v := (1 : Int32)) hx hb dX5_cracks_96 (by decide) ?_
        refine lv_isub hx hb dX5_cracks_97 ?_
        refine lv_iand hx hb dX5_cracks_98 ?_
        refine lv_if_ne (tgt := 106) hx hb dX5_cracks_99 (by decide) (fun hc12 => ?_) (fun hc12 => ?_)
        · replace hf := (if_neg hc12).symm.trans hf
          refine lv_iconst (v := (0 : Int32)) hx hb dX5_cracks_106 (by decide) ?_
          refine lv_istore (lv' := [(7, .int (0 : Int32)), (6, .int q75_1), (0, .ref a_m), (1, .int x1), (3, .int x3), (4, .int x4), (5, .int x5)]) hx hb dX5_cracks_107 hl (by decide) rfl (fun ls hl => ?_)
          refine lv_iload_n hx hb dX5_cracks_109 rfl (lv_at hl 4 rfl) ?_
          refine lv_iload hx hb dX5_cracks_110 (lv_at hl 0 rfl) ?_
          refine lv_if_eq (tgt := 119) hx hb dX5_cracks_112 (by decide) (fun _ => ?_) (fun hc => absurd hc (by decide))
          refine lv_iconst (v := (0 : Int32)) hx hb dX5_cracks_119 (by decide) ?_
          refine lv_iadd hx hb dX5_cracks_120 ?_
          refine lv_istore_n (lv' := [(3, .int (x3 + (0 : Int32))), (7, .int (0 : Int32)), (6, .int q75_1), (0, .ref a_m), (1, .int x1), (4, .int x4), (5, .int x5)]) hx hb dX5_cracks_121 rfl hl (by decide) rfl (fun ls hl => ?_)
          refine lv_iload hx hb dX5_cracks_122 (lv_at hl 1 rfl) ?_
          refine lv_if_eq (tgt := 145) hx hb dX5_cracks_124 (by decide) (fun _ => ?_) (fun hc => absurd hc (by decide))
          refine lv_iload hx hb dX5_cracks_145 (lv_at hl 5 rfl) ?_
          refine lv_istore (lv' := [(4, .int x4), (3, .int (x3 + (0 : Int32))), (7, .int (0 : Int32)), (6, .int q75_1), (0, .ref a_m), (1, .int x1), (5, .int x5)]) hx hb dX5_cracks_147 hl (by decide) rfl (fun ls hl => ?_)
          refine lv_iinc (v := (x5 + 1)) (lv' := [(5, .int (x5 + 1)), (4, .int x4), (3, .int (x3 + (0 : Int32))), (7, .int (0 : Int32)), (6, .int q75_1), (0, .ref a_m), (1, .int x1)]) hx hb dX5_cracks_149 hl (k := 6) rfl rfl (by decide) rfl (fun ls hl => ?_)
          refine lv_goto (tgt := 63) hx hb dX5_cracks_152 (by decide) ?_
          exact ih _ _ _ _ _ _ _ _ _ _ hf _ _ _ hP hD hS (lv_sub hl [5, 6, 2, 1, 0] rfl)
        · replace hf := (if_pos hc12).symm.trans hf
          refine lv_iconst (v := (1 : Int32)) hx hb dX5_cracks_102 (by decide) ?_
          refine lv_goto (tgt := 107) hx hb dX5_cracks_103 (by decide) ?_
          refine lv_istore (lv' := [(7, .int (1 : Int32)), (6, .int q75_1), (0, .ref a_m), (1, .int x1), (3, .int x3), (4, .int x4), (5, .int x5)]) hx hb dX5_cracks_107 hl (by decide) rfl (fun ls hl => ?_)
          refine lv_iload_n hx hb dX5_cracks_109 rfl (lv_at hl 4 rfl) ?_
          refine lv_iload hx hb dX5_cracks_110 (lv_at hl 0 rfl) ?_
          refine lv_if_eq (tgt := 119) hx hb dX5_cracks_112 (by decide) (fun hc => absurd hc (by decide)) (fun _ => ?_)
          refine lv_iconst (v := (1 : Int32)) hx hb dX5_cracks_115 (by decide) ?_
          refine lv_goto (tgt := 120) hx hb dX5_cracks_116 (by decide) ?_
          refine lv_iadd hx hb dX5_cracks_120 ?_
          refine lv_istore_n (lv' := [(3, .int (x3 + (1 : Int32))), (7, .int (1 : Int32)), (6, .int q75_1), (0, .ref a_m), (1, .int x1), (4, .int x4), (5, .int x5)]) hx hb dX5_cracks_121 rfl hl (by decide) rfl (fun ls hl => ?_)
          refine lv_iload hx hb dX5_cracks_122 (lv_at hl 1 rfl) ?_
          refine lv_if_eq (tgt := 145) hx hb dX5_cracks_124 (by decide) (fun hc => absurd hc (by decide)) (fun _ => ?_)
          refine lv_iload hx hb dX5_cracks_127 (lv_at hl 2 rfl) ?_
          obtain ⟨q129_1, hq13, hf⟩ := Option.bind_eq_some_iff.mp hf
          refine cSt (ws' := (W_m cI cS a_m a_m_sorts a_m_sheetLong a_m_cells a_m_kind a_m_wet a_m_readKind a_m_readWet a_m_keptWet a_m_readCells a_m_readHours a_m_readCracked m_fault m_trace m_sorts m_sheetLong m_cells m_sun m_wide m_deep m_hour m_kind m_wet m_at m_readSun m_readWide m_readDeep m_readKind m_readWet m_keptWet m_keptSun m_openFirst m_planHours m_readings m_readCells m_readHours m_readCracked)) (rest := []) (st1 := [.int q129_1]) Cc hK hA hP hD hS hl.1 (ctX5_size l D cI cS   q75_1 n q129_1 hq13) ⟨tw_657, tw_655, tw_656, tw_6⟩ mdX5_size ⟨rfl, rfl, Nat.le_of_ble_eq_true rfl, Nat.le_of_ble_eq_true rfl⟩ rfl dX5_cracks_129 rfl (Nat.le_of_ble_eq_true rfl) ⟨Nat.zero_le _, Nat.zero_le _⟩ rfl [] [0, 1, 2, 3, 4, 5, 6, 7, 8, 9, 10, 11] [0, 1, 2, 3, 4, 5, 6, 7, 8, 9, 10, 11] rfl rfl (by decide) rfl (fun H locs hP hD hS => ?_)
          refine lv_iload hx hb dX5_cracks_132 (lv_at hl 5 rfl) ?_
          refine lv_icmp_le (tgt := 145) hx hb dX5_cracks_134 (by decide) (fun hc14 => ?_) (fun hc14 => ?_)
          · replace hf := (if_pos hc14).symm.trans hf
            refine lv_iload hx hb dX5_cracks_145 (lv_at hl 5 rfl) ?_
            refine lv_istore (lv' := [(4, .int x4), (3, .int (x3 + (1 : Int32))), (7, .int (1 : Int32)), (6, .int q75_1), (0, .ref a_m), (1, .int x1), (5, .int x5)]) hx hb dX5_cracks_147 hl (by decide) rfl (fun ls hl => ?_)
            refine lv_iinc (v := (x5 + 1)) (lv' := [(5, .int (x5 + 1)), (4, .int x4), (3, .int (x3 + (1 : Int32))), (7, .int (1 : Int32)), (6, .int q75_1), (0, .ref a_m), (1, .int x1)]) hx hb dX5_cracks_149 hl (k := 6) rfl rfl (by decide) rfl (fun ls hl => ?_)
            refine lv_goto (tgt := 63) hx hb dX5_cracks_152 (by decide) ?_
            exact ih _ _ _ _ _ _ _ _ _ _ hf _ _ _ hP hD hS (lv_sub hl [5, 6, 2, 1, 0] rfl)
          · replace hf := (if_neg hc14).symm.trans hf
            refine lv_iload hx hb dX5_cracks_137 (lv_at hl 2 rfl) ?_
            obtain ⟨q139_1, hq15, hf⟩ := Option.bind_eq_some_iff.mp hf
            refine cSt (ws' := (W_m cI cS a_m a_m_sorts a_m_sheetLong a_m_cells a_m_kind a_m_wet a_m_readKind a_m_readWet a_m_keptWet a_m_readCells a_m_readHours a_m_readCracked m_fault m_trace m_sorts m_sheetLong m_cells m_sun m_wide m_deep m_hour m_kind m_wet m_at m_readSun m_readWide m_readDeep m_readKind m_readWet m_keptWet m_keptSun m_openFirst m_planHours m_readings m_readCells m_readHours m_readCracked)) (rest := []) (st1 := [.int q139_1]) Cc hK hA hP hD hS hl.1 (ctX5_size l D cI cS   q75_1 n q139_1 hq15) ⟨tw_657, tw_655, tw_656, tw_6⟩ mdX5_size ⟨rfl, rfl, Nat.le_of_ble_eq_true rfl, Nat.le_of_ble_eq_true rfl⟩ rfl dX5_cracks_139 rfl (Nat.le_of_ble_eq_true rfl) ⟨Nat.zero_le _, Nat.zero_le _⟩ rfl [] [0, 1, 2, 3, 4, 5, 6, 7, 8, 9, 10, 11] [0, 1, 2, 3, 4, 5, 6, 7, 8, 9, 10, 11] rfl rfl (by decide) rfl (fun H locs hP hD hS => ?_)
            refine lv_goto (tgt := 147) hx hb dX5_cracks_142 (by decide) ?_
            refine lv_istore (lv' := [(4, .int q139_1), (3, .int (x3 + (1 : Int32))), (7, .int (1 : Int32)), (6, .int q75_1), (0, .ref a_m), (1, .int x1), (5, .int x5)]) hx hb dX5_cracks_147 hl (by decide) rfl (fun ls hl => ?_)
            refine lv_iinc (v := (x5 + 1)) (lv' := [(5, .int (x5 + 1)), (4, .int q139_1), (3, .int (x3 + (1 : Int32))), (7, .int (1 : Int32)), (6, .int q75_1), (0, .ref a_m), (1, .int x1)]) hx hb dX5_cracks_149 hl (k := 6) rfl rfl (by decide) rfl (fun ls hl => ?_)
            refine lv_goto (tgt := 63) hx hb dX5_cracks_152 (by decide) ?_
            exact ih _ _ _ _ _ _ _ _ _ _ hf _ _ _ hP hD hS (lv_sub hl [5, 6, 2, 1, 0] rfl)
set_option maxHeartbeats 4000000 in
set_option maxRecDepth 100000 in
theorem ctX5_cracks (l : Launch) (D : va_G) (cI cS : ClassId) (a_m a_m_sorts a_m_sheetLong a_m_cells a_m_kind a_m_wet a_m_readKind a_m_readWet a_m_keptWet a_m_readCells a_m_readHours a_m_readCracked : Nat) (m_fault : Int32) (m_trace : Int32) (m_sorts : Nat → Int32) (m_sheetLong : Nat → Int32) (m_cells : Nat → Int32) (m_sun : Int32) (m_wide : Int32) (m_deep : Int32) (m_hour : Int32) (m_kind : Nat → Int32) (m_wet : Nat → Int32) (m_at : Int32) (m_readSun : Int32) (m_readWide : Int32) (m_readDeep : Int32) (m_readKind : Nat → Int32) (m_readWet : Nat → Int32) (m_keptWet : Nat → Int32) (m_keptSun : Int32) (m_openFirst : Int32) (m_planHours : Int32) (m_readings : Int32) (m_readCells : Nat → Int32) (m_readHours : Nat → Int32) (m_readCracked : Nat → Int32) (p1 : Int32) (n : Nat) (r : Int32) (hf : fX5_cracks n m_sun m_wide m_deep m_kind m_wet p1 = some (r)) : Ct l D (tysA cI cS) yX5_cracks cX5_cracks 8 (some .int) (Rm 4) [.ref a_m, .int p1] (W_m cI cS a_m a_m_sorts a_m_sheetLong a_m_cells a_m_kind a_m_wet a_m_readKind a_m_readWet a_m_keptWet a_m_readCells a_m_readHours a_m_readCracked m_fault m_trace m_sorts m_sheetLong m_cells m_sun m_wide m_deep m_hour m_kind m_wet m_at m_readSun m_readWide m_readDeep m_readKind m_readWet m_keptWet m_keptSun m_openFirst m_planHours m_readings m_readCells m_readHours m_readCracked) (some (.int r)) (W_m cI cS a_m a_m_sorts a_m_sheetLong a_m_cells a_m_kind a_m_wet a_m_readKind a_m_readWet a_m_keptWet a_m_readCells a_m_readHours a_m_readCracked m_fault m_trace m_sorts m_sheetLong m_cells m_sun m_wide m_deep m_hour m_kind m_wet m_at m_readSun m_readWide m_readDeep m_readKind m_readWet m_keptWet m_keptSun m_openFirst m_planHours m_readings m_readCells m_readHours m_readCracked) := by
  refine Ct_of (by decide) (Nat.le_of_ble_eq_true rfl) ?_
  intro p e s m args below meth c A ls Cc hK hA hP hD hS hl
  have hl : lv_has ls 8 [(0, .ref a_m), (1, .int p1)] := hl
  obtain ⟨hx, hb, hr, hml, hown, hts, hlk, hnw⟩ := id Cc
  unfold fX5_cracks at hf
  refine lv_iload_n hx hb dX5_cracks_0 rfl (lv_at hl 1 rfl) ?_
  refine lv_iconst (v := (0 : Int32)) hx hb dX5_cracks_1 (by decide) ?_
  refine lv_iconst (v := (3 : Int32)) hx hb dX5_cracks_2 (by decide) ?_
  obtain ⟨q3_1, hq1, hf⟩ := Option.bind_eq_some_iff.mp hf
  refine cSt (ws' := (W_m cI cS a_m a_m_sorts a_m_sheetLong a_m_cells a_m_kind a_m_wet a_m_readKind a_m_readWet a_m_keptWet a_m_readCells a_m_readHours a_m_readCracked m_fault m_trace m_sorts m_sheetLong m_cells m_sun m_wide m_deep m_hour m_kind m_wet m_at m_readSun m_readWide m_readDeep m_readKind m_readWet m_keptWet m_keptSun m_openFirst m_planHours m_readings m_readCells m_readHours m_readCracked)) (rest := []) (st1 := [.int q3_1]) Cc hK hA hP hD hS hl.1 (ctX5_within l D cI cS   p1 (0 : Int32) (3 : Int32) n q3_1 hq1) ⟨tw_588, tw_586, tw_587, tw_6⟩ mdX5_within ⟨rfl, rfl, Nat.le_of_ble_eq_true rfl, Nat.le_of_ble_eq_true rfl⟩ rfl dX5_cracks_3 rfl (Nat.le_of_ble_eq_true rfl) ⟨Nat.zero_le _, Nat.zero_le _⟩ rfl [] [0, 1, 2, 3, 4, 5, 6, 7, 8, 9, 10, 11] [0, 1, 2, 3, 4, 5, 6, 7, 8, 9, 10, 11] rfl rfl (by decide) rfl (fun H locs hP hD hS => ?_)
  refine lv_if_ne (tgt := 12) hx hb dX5_cracks_6 (by decide) (fun hc2 => ?_) (fun hc2 => ?_)
  · replace hf := (if_neg hc2).symm.trans hf
    refine lv_aload_n hx hb dX5_cracks_12 rfl (lv_at hl 0 rfl) ?_
    refine va_get (D := D) (ci := 5) (v := .int m_wide) (C := RX5) (T := TX5) (N := 25) hx hb hts inX5 hown hK hP 0 rfl rfl 6 (by decide) (hts _ tw_509) (fun _ h9 => h9) rfl dX5_cracks_13 ?_
    refine lv_if_ne (tgt := 22) hx hb dX5_cracks_16 (by decide) (fun hc3 => ?_) (fun hc3 => ?_)
    · replace hf := (if_neg hc3).symm.trans hf
      refine lv_aload_n hx hb dX5_cracks_22 rfl (lv_at hl 0 rfl) ?_
      refine lv_iconst (v := (0 : Int32)) hx hb dX5_cracks_23 (by decide) ?_
      obtain ⟨q24_1, hq4, hf⟩ := Option.bind_eq_some_iff.mp hf
      refine cV (ws' := (W_m cI cS a_m a_m_sorts a_m_sheetLong a_m_cells a_m_kind a_m_wet a_m_readKind a_m_readWet a_m_keptWet a_m_readCells a_m_readHours a_m_readCracked m_fault m_trace m_sorts m_sheetLong m_cells m_sun m_wide m_deep m_hour m_kind m_wet m_at m_readSun m_readWide m_readDeep m_readKind m_readWet m_keptWet m_keptSun m_openFirst m_planHours m_readings m_readCells m_readHours m_readCracked)) (rest := []) (st1 := [.int q24_1]) Cc hK hA hP hD hS hl.1 (ctX5_crackedBehind l D cI cS a_m a_m_sorts a_m_sheetLong a_m_cells a_m_kind a_m_wet a_m_readKind a_m_readWet a_m_keptWet a_m_readCells a_m_readHours a_m_readCracked m_fault m_trace m_sorts m_sheetLong m_cells m_sun m_wide m_deep m_hour m_kind m_wet m_at m_readSun m_readWide m_readDeep m_readKind m_readWet m_keptWet m_keptSun m_openFirst m_planHours m_readings m_readCells m_readHours m_readCracked (0 : Int32) n q24_1 hq4) ⟨tw_639, tw_636, tw_638, tp_21, tw_6⟩ mdX5_crackedBehind ⟨rfl, rfl, Nat.le_of_ble_eq_true rfl, Nat.le_of_ble_eq_true rfl⟩ rfl dX5_cracks_24 rfl (Nat.le_of_ble_eq_true rfl) ⟨Nat.zero_le _, Nat.zero_le _⟩ rfl rfl rfl [0, 1, 2, 3, 4, 5, 6, 7, 8, 9, 10, 11] [] [0, 1, 2, 3, 4, 5, 6, 7, 8, 9, 10, 11] rfl rfl (by decide) rfl (fun H locs hP hD hS => ?_)
      refine lv_istore_n (lv' := [(2, .int q24_1), (0, .ref a_m), (1, .int p1)]) hx hb dX5_cracks_27 rfl hl (by decide) rfl (fun ls hl => ?_)
      refine lv_iload_n hx hb dX5_cracks_28 rfl (lv_at hl 2 rfl) ?_
      refine lv_iconst (v := (2 : Int32)) hx hb dX5_cracks_29 (by decide) ?_
      refine lv_icmp_ge (tgt := 55) hx hb dX5_cracks_30 (by decide) (fun hc5 => ?_) (fun hc5 => ?_)
      · replace hf := (if_pos hc5).symm.trans hf
        refine lv_iconst (v := (0 : Int32)) hx hb dX5_cracks_55 (by decide) ?_
        refine lv_istore_n (lv' := [(3, .int (0 : Int32)), (2, .int q24_1), (0, .ref a_m), (1, .int p1)]) hx hb dX5_cracks_56 rfl hl (by decide) rfl (fun ls hl => ?_)
        refine lv_iconst (v := (0 : Int32)) hx hb dX5_cracks_57 (by decide) ?_
        refine lv_istore (lv' := [(4, .int (0 : Int32)), (3, .int (0 : Int32)), (2, .int q24_1), (0, .ref a_m), (1, .int p1)]) hx hb dX5_cracks_58 hl (by decide) rfl (fun ls hl => ?_)
        refine lv_iconst (v := (0 : Int32)) hx hb dX5_cracks_60 (by decide) ?_
        refine lv_istore (lv' := [(5, .int (0 : Int32)), (4, .int (0 : Int32)), (3, .int (0 : Int32)), (2, .int q24_1), (0, .ref a_m), (1, .int p1)]) hx hb dX5_cracks_61 hl (by decide) rfl (fun ls hl => ?_)
        exact bX5_cracks_63 a_m a_m_sorts a_m_sheetLong a_m_cells a_m_kind a_m_wet a_m_readKind a_m_readWet a_m_keptWet a_m_readCells a_m_readHours a_m_readCracked m_fault m_trace m_sorts m_sheetLong m_cells m_hour m_at m_readSun m_readWide m_readDeep m_readKind m_readWet m_keptWet m_keptSun m_openFirst m_planHours m_readings m_readCells m_readHours m_readCracked Cc hK hA n n _ _ _ _ _ _ _ _ _ _ hf _ _ _ hP hD hS (lv_sub hl [4, 5, 2, 1, 0] rfl)
      · replace hf := (if_neg hc5).symm.trans hf
        refine lv_iload_n hx hb dX5_cracks_33 rfl (lv_at hl 2 rfl) ?_
        refine lv_if_ne (tgt := 41) hx hb dX5_cracks_34 (by decide) (fun hc16 => ?_) (fun hc16 => ?_)
        · replace hf := (if_neg hc16).symm.trans hf
          refine lv_aload_n hx hb dX5_cracks_41 rfl (lv_at hl 1 rfl) ?_
          refine lv_iload_n hx hb dX5_cracks_42 rfl (lv_at hl 0 rfl) ?_
          obtain ⟨q43_1, hq17, hf⟩ := Option.bind_eq_some_iff.mp hf
          refine cV (ws' := (W_m cI cS a_m a_m_sorts a_m_sheetLong a_m_cells a_m_kind a_m_wet a_m_readKind a_m_readWet a_m_keptWet a_m_readCells a_m_readHours a_m_readCracked m_fault m_trace m_sorts m_sheetLong m_cells m_sun m_wide m_deep m_hour m_kind m_wet m_at m_readSun m_readWide m_readDeep m_readKind m_readWet m_keptWet m_keptSun m_openFirst m_planHours m_readings m_readCells m_readHours m_readCracked)) (rest := []) (st1 := [.int q43_1]) Cc hK hA hP hD hS hl.1 (ctX5_isOpen l D cI cS a_m a_m_sorts a_m_sheetLong a_m_cells a_m_kind a_m_wet a_m_readKind a_m_readWet a_m_keptWet a_m_readCells a_m_readHours a_m_readCracked m_fault m_trace m_sorts m_sheetLong m_cells m_sun m_wide m_deep m_hour m_kind m_wet m_at m_readSun m_readWide m_readDeep m_readKind m_readWet m_keptWet m_keptSun m_openFirst m_planHours m_readings m_readCells m_readHours m_readCracked q24_1 n q43_1 hq17) ⟨tw_692, tw_689, tw_691, tp_27, tw_6⟩ mdX5_isOpen ⟨rfl, rfl, Nat.le_of_ble_eq_true rfl, Nat.le_of_ble_eq_true rfl⟩ rfl dX5_cracks_43 rfl (Nat.le_of_ble_eq_true rfl) ⟨Nat.zero_le _, Nat.zero_le _⟩ rfl rfl rfl [0, 1, 2, 3, 4, 5, 6, 7, 8, 9, 10, 11] [] [0, 1, 2, 3, 4, 5, 6, 7, 8, 9, 10, 11] rfl rfl (by decide) rfl (fun H locs hP hD hS => ?_)
          refine lv_if_eq (tgt := 53) hx hb dX5_cracks_46 (by decide) (fun hc18 => ?_) (fun hc18 => ?_)
          · replace hf := (if_pos hc18).symm.trans hf
            refine lv_iconst (v := (0 : Int32)) hx hb dX5_cracks_53 (by decide) ?_
            obtain rfl := Option.some.inj hf
            exact rt_i Cc hK hP hD hS dX5_cracks_54
          · replace hf := (if_neg hc18).symm.trans hf
            refine lv_iconst (v := (1 : Int32)) hx hb dX5_cracks_49 (by decide) ?_
            refine lv_goto (tgt := 54) hx hb dX5_cracks_50 (by decide) ?_
            obtain rfl := Option.some.inj hf
            exact rt_i Cc hK hP hD hS dX5_cracks_54
        · replace hf := (if_pos hc16).symm.trans hf
          refine lv_iload_n hx hb dX5_cracks_37 rfl (lv_at hl 0 rfl) ?_
          refine lv_goto (tgt := 54) hx hb dX5_cracks_38 (by decide) ?_
          obtain rfl := Option.some.inj hf
          exact rt_i Cc hK hP hD hS dX5_cracks_54
    · replace hf := (if_pos hc3).symm.trans hf
      refine lv_bipush (v := (-3 : Int32)) hx hb dX5_cracks_19 (by decide) ?_
      obtain rfl := Option.some.inj hf
      exact rt_i Cc hK hP hD hS dX5_cracks_21
  · replace hf := (if_pos hc2).symm.trans hf
    refine lv_bipush (v := (-2 : Int32)) hx hb dX5_cracks_9 (by decide) ?_
    obtain rfl := Option.some.inj hf
    exact rt_i Cc hK hP hD hS dX5_cracks_11
-- X5_way
def fX5_way_70 (n : Nat) (K : Int32 → Int32 → Int32 → (Nat → Int32) → (Nat → Int32) → Int32 → Int32 → Int32 → Int32 → Option (Int32)) : Nat → Int32 → Int32 → Int32 → (Nat → Int32) → (Nat → Int32) → Int32 → Int32 → Int32 → Int32 → Int32 → Int32 → Option (Int32)
  | 0, _, _, _, _, _, _, _, _, _, _, _ => none
  | k + 1, m_sun, m_wide, m_deep, m_kind, m_wet, x2, x3, x4, x5, x6, x7 => (fX5_cellsOf n m_wide m_deep).bind fun q73_1 => if q73_1 ≤ x7 then K m_sun m_wide m_deep m_kind m_wet x2 x3 x5 x6 else (fX5_isOf n x3 x7).bind fun q84_1 => if q84_1 = 0 then fX5_way_70 n K k m_sun m_wide m_deep m_kind m_wet x2 x3 x4 x5 (x6 ||| (0 : Int32)) (x7 + 1) else (fX5_besides n m_wide m_deep x7).bind fun q93_1 => if (q93_1 &&& x4) = 0 then fX5_way_70 n K k m_sun m_wide m_deep m_kind m_wet x2 x3 x4 x5 (x6 ||| (0 : Int32)) (x7 + 1) else fX5_way_70 n K k m_sun m_wide m_deep m_kind m_wet x2 x3 x4 x5 (x6 ||| ((1 : Int32) <<< (x7 &&& 31))) (x7 + 1)
def fX5_way_34 (n : Nat) : Nat → Int32 → Int32 → Int32 → (Nat → Int32) → (Nat → Int32) → Int32 → Int32 → Int32 → Int32 → Option (Int32)
  | 0, _, _, _, _, _, _, _, _, _ => none
  | k + 1, m_sun, m_wide, m_deep, m_kind, m_wet, x2, x3, x4, x5 => (fX5_cellsOf n m_wide m_deep).bind fun q37_1 => if q37_1 ≤ x5 then some ((-9 : Int32)) else (fX5_isOf n x3 x2).bind fun q45_1 => if q45_1 = 0 then some ((-9 : Int32)) else (fX5_isOf n x4 x2).bind fun q54_1 => if q54_1 = 0 then fX5_way_70 n (fun m_sun m_wide m_deep m_kind m_wet x2 x3 x5 x6 => fX5_way_34 n k m_sun m_wide m_deep m_kind m_wet x2 x3 x6 (x5 + 1)) n m_sun m_wide m_deep m_kind m_wet x2 x3 x4 x5 x4 (0 : Int32) else some (x5)
def fX5_way (n : Nat) (m_sun : Int32) (m_wide : Int32) (m_deep : Int32) (m_kind : Nat → Int32) (m_wet : Nat → Int32) (p1 : Int32) (p2 : Int32) : Option (Int32) := (fX5_isCell n m_wide m_deep p1).bind fun q2_1 => if q2_1 = 0 then some ((-1 : Int32)) else (fX5_isCell n m_wide m_deep p2).bind fun q10_1 => if q10_1 = 0 then some ((-1 : Int32)) else (fX5_crackedBehind n m_sun m_wide m_deep m_kind m_wet (0 : Int32)).bind fun q20_1 => fX5_way_34 n n m_sun m_wide m_deep m_kind m_wet p2 q20_1 (q20_1 &&& ((1 : Int32) <<< (p1 &&& 31))) (0 : Int32)
theorem mdX5_way : yX5_way.cls = RX5 ∧ yX5_way.cls ≠ "java/lang/invoke/MethodHandle" ∧ yX5_way.cls ≠ "java/lang/invoke/VarHandle" ∧ (parseMethodDescriptor yX5_way.desc).map (fun d => d.parameters.length) = some 2 := by decide +kernel
set_option maxHeartbeats 4000000 in
set_option maxRecDepth 100000 in
theorem bX5_way_70 {p : Program} {l : Launch} {e : Env} {s : State} {m : MethodId} {args : Array Value} {below : List Frame} {meth : Method} {c : Code} {A : Nat → Prop} {D : va_G} {cI cS : ClassId} (a_m a_m_sorts a_m_sheetLong a_m_cells a_m_kind a_m_wet a_m_readKind a_m_readWet a_m_keptWet a_m_readCells a_m_readHours a_m_readCracked : Nat) (m_fault : Int32) (m_trace : Int32) (m_sorts : Nat → Int32) (m_sheetLong : Nat → Int32) (m_cells : Nat → Int32) (m_hour : Int32) (m_at : Int32) (m_readSun : Int32) (m_readWide : Int32) (m_readDeep : Int32) (m_readKind : Nat → Int32) (m_readWet : Nat → Int32) (m_keptWet : Nat → Int32) (m_keptSun : Int32) (m_openFirst : Int32) (m_planHours : Int32) (m_readings : Int32) (m_readCells : Nat → Int32) (m_readHours : Nat → Int32) (m_readCracked : Nat → Int32) (Cc : Cx p s m args meth c RX5 cX5_way 8 (some .int)) (hK : va_K D classes (tysA cI cS) s) (hA : ∀ q, s.heap.size ≤ q → A q) (n : Nat) (K : Int32 → Int32 → Int32 → (Nat → Int32) → (Nat → Int32) → Int32 → Int32 → Int32 → Int32 → Option (Int32)) (r : Int32) (hKK : ∀ (m_sun : Int32) (m_wide : Int32) (m_deep : Int32) (m_kind : Nat → Int32) (m_wet : Nat → Int32) (x2 : Int32) (x3 : Int32) (x5 : Int32) (x6 : Int32), K m_sun m_wide m_deep m_kind m_wet x2 x3 x5 x6 = some (r) → ∀ (H : Heap) (locs : List Loc) (ls : Array Slot), va_P D classes (W_m cI cS a_m a_m_sorts a_m_sheetLong a_m_cells a_m_kind a_m_wet a_m_readKind a_m_readWet a_m_keptWet a_m_readCells a_m_readHours a_m_readCracked m_fault m_trace m_sorts m_sheetLong m_cells m_sun m_wide m_deep m_hour m_kind m_wet m_at m_readSun m_readWide m_readDeep m_readKind m_readWet m_keptWet m_keptSun m_openFirst m_planHours m_readings m_readCells m_readHours m_readCracked) H → va_D A (W_m cI cS a_m a_m_sorts a_m_sheetLong a_m_cells a_m_kind a_m_wet a_m_readKind a_m_readWet a_m_keptWet a_m_readCells a_m_readHours a_m_readCracked m_fault m_trace m_sorts m_sheetLong m_cells m_sun m_wide m_deep m_hour m_kind m_wet m_at m_readSun m_readWide m_readDeep m_readKind m_readWet m_keptWet m_keptSun m_openFirst m_planHours m_readings m_readCells m_readHours m_readCracked) → va_S A s.heap H locs → lv_has ls 8 [(0, .ref a_m), (2, .int x2), (3, .int x3), (5, .int x5), (6, .int x6)] → W p l e (Rm 3) s m args below meth c H locs 0 0 (MQ below (QW D (tysA cI cS) (some (.int r)) (W_m cI cS a_m a_m_sorts a_m_sheetLong a_m_cells a_m_kind a_m_wet a_m_readKind a_m_readWet a_m_keptWet a_m_readCells a_m_readHours a_m_readCracked m_fault m_trace m_sorts m_sheetLong m_cells m_sun m_wide m_deep m_hour m_kind m_wet m_at m_readSun m_readWide m_readDeep m_readKind m_readWet m_keptWet m_keptSun m_openFirst m_planHours m_readings m_readCells m_readHours m_readCracked) A) args s 0 0 A) (F0 m 119 ls [])) : ∀ (k : Nat) (m_sun : Int32) (m_wide : Int32) (m_deep : Int32) (m_kind : Nat → Int32) (m_wet : Nat → Int32) (x2 : Int32) (x3 : Int32) (x4 : Int32) (x5 : Int32) (x6 : Int32) (x7 : Int32), fX5_way_70 n K k m_sun m_wide m_deep m_kind m_wet x2 x3 x4 x5 x6 x7 = some (r) → ∀ (H : Heap) (locs : List Loc) (ls : Array Slot), va_P D classes (W_m cI cS a_m a_m_sorts a_m_sheetLong a_m_cells a_m_kind a_m_wet a_m_readKind a_m_readWet a_m_keptWet a_m_readCells a_m_readHours a_m_readCracked m_fault m_trace m_sorts m_sheetLong m_cells m_sun m_wide m_deep m_hour m_kind m_wet m_at m_readSun m_readWide m_readDeep m_readKind m_readWet m_keptWet m_keptSun m_openFirst m_planHours m_readings m_readCells m_readHours m_readCracked) H → va_D A (W_m cI cS a_m a_m_sorts a_m_sheetLong a_m_cells a_m_kind a_m_wet a_m_readKind a_m_readWet a_m_keptWet a_m_readCells a_m_readHours a_m_readCracked m_fault m_trace m_sorts m_sheetLong m_cells m_sun m_wide m_deep m_hour m_kind m_wet m_at m_readSun m_readWide m_readDeep m_readKind m_readWet m_keptWet m_keptSun m_openFirst m_planHours m_readings m_readCells m_readHours m_readCracked) → va_S A s.heap H locs → lv_has ls 8 [(0, .ref a_m), (2, .int x2), (3, .int x3), (4, .int x4), (5, .int x5), (6, .int x6), (7, .int x7)] → W p l e (Rm 3) s m args below meth c H locs 0 0 (MQ below (QW D (tysA cI cS) (some (.int r)) (W_m cI cS a_m a_m_sorts a_m_sheetLong a_m_cells a_m_kind a_m_wet a_m_readKind a_m_readWet a_m_keptWet a_m_readCells a_m_readHours a_m_readCracked m_fault m_trace m_sorts m_sheetLong m_cells m_sun m_wide m_deep m_hour m_kind m_wet m_at m_readSun m_readWide m_readDeep m_readKind m_readWet m_keptWet m_keptSun m_openFirst m_planHours m_readings m_readCells m_readHours m_readCracked) A) args s 0 0 A) (F0 m 70 ls []) := by
  obtain ⟨hx, hb, hr, hml, hown, hts, hlk, hnw⟩ := id Cc
  intro k
  induction k with
  | zero =>
    intro m_sun m_wide m_deep m_kind m_wet x2 x3 x4 x5 x6 x7 hf
    rw [fX5_way_70] at hf
    cases hf
  | succ k ih =>
    intro m_sun m_wide m_deep m_kind m_wet x2 x3 x4 x5 x6 x7 hf H locs ls hP hD hS hl
    rw [fX5_way_70] at hf
    refine lv_iload hx hb dX5_way_70 (lv_at hl 6 rfl) ?_
    refine lv_aload_n hx hb dX5_way_72 rfl (lv_at hl 0 rfl) ?_
    obtain ⟨q73_1, hq12, hf⟩ := Option.bind_eq_some_iff.mp hf
    refine cV (ws' := (W_m cI cS a_m a_m_sorts a_m_sheetLong a_m_cells a_m_kind a_m_wet a_m_readKind a_m_readWet a_m_keptWet a_m_readCells a_m_readHours a_m_readCracked m_fault m_trace m_sorts m_sheetLong m_cells m_sun m_wide m_deep m_hour m_kind m_wet m_at m_readSun m_readWide m_readDeep m_readKind m_readWet m_keptWet m_keptSun m_openFirst m_planHours m_readings m_readCells m_readHours m_readCracked)) (rest := [.int x7]) (st1 := [.int q73_1, .int x7]) Cc hK hA hP hD hS hl.1 (ctX5_cellsOf l D cI cS a_m a_m_sorts a_m_sheetLong a_m_cells a_m_kind a_m_wet a_m_readKind a_m_readWet a_m_keptWet a_m_readCells a_m_readHours a_m_readCracked m_fault m_trace m_sorts m_sheetLong m_cells m_sun m_wide m_deep m_hour m_kind m_wet m_at m_readSun m_readWide m_readDeep m_readKind m_readWet m_keptWet m_keptSun m_openFirst m_planHours m_readings m_readCells m_readHours m_readCracked  n q73_1 hq12) ⟨tw_619, tw_616, tw_618, tp_17, tw_6⟩ mdX5_cellsOf ⟨rfl, rfl, Nat.le_of_ble_eq_true rfl, Nat.le_of_ble_eq_true rfl⟩ rfl dX5_way_73 rfl (Nat.le_of_ble_eq_true rfl) ⟨Nat.zero_le _, Nat.zero_le _⟩ rfl rfl rfl [0, 1, 2, 3, 4, 5, 6, 7, 8, 9, 10, 11] [] [0, 1, 2, 3, 4, 5, 6, 7, 8, 9, 10, 11] rfl rfl (by decide) rfl (fun H locs hP hD hS => ?_)
    refine lv_icmp_ge (tgt := 119) hx hb dX5_way_76 (by decide) (fun hc13 => ?_) (fun hc13 => ?_)
    · replace hf := (if_pos hc13).symm.trans hf
      exact hKK _ _ _ _ _ _ _ _ _ hf _ _ _ hP hD hS (lv_sub hl [0, 1, 2, 4, 5] rfl)
    · replace hf := (if_neg hc13).symm.trans hf
      refine lv_iload hx hb dX5_way_79 (lv_at hl 5 rfl) ?_
      refine lv_iload_n hx hb dX5_way_81 rfl (lv_at hl 2 rfl) ?_
      refine lv_iload hx hb dX5_way_82 (lv_at hl 6 rfl) ?_
      obtain ⟨q84_1, hq14, hf⟩ := Option.bind_eq_some_iff.mp hf
      refine cSt (ws' := (W_m cI cS a_m a_m_sorts a_m_sheetLong a_m_cells a_m_kind a_m_wet a_m_readKind a_m_readWet a_m_keptWet a_m_readCells a_m_readHours a_m_readCracked m_fault m_trace m_sorts m_sheetLong m_cells m_sun m_wide m_deep m_hour m_kind m_wet m_at m_readSun m_readWide m_readDeep m_readKind m_readWet m_keptWet m_keptSun m_openFirst m_planHours m_readings m_readCells m_readHours m_readCracked)) (rest := [.int x6]) (st1 := [.int q84_1, .int x6]) Cc hK hA hP hD hS hl.1 (ctX5_isOf l D cI cS   x3 x7 n q84_1 hq14) ⟨tw_650, tw_648, tw_649, tw_6⟩ mdX5_isOf ⟨rfl, rfl, Nat.le_of_ble_eq_true rfl, Nat.le_of_ble_eq_true rfl⟩ rfl dX5_way_84 rfl (Nat.le_of_ble_eq_true rfl) ⟨Nat.zero_le _, Nat.zero_le _⟩ rfl [] [0, 1, 2, 3, 4, 5, 6, 7, 8, 9, 10, 11] [0, 1, 2, 3, 4, 5, 6, 7, 8, 9, 10, 11] rfl rfl (by decide) rfl (fun H locs hP hD hS => ?_)
      refine lv_if_eq (tgt := 109) hx hb dX5_way_87 (by decide) (fun hc15 => ?_) (fun hc15 => ?_)
      · replace hf := (if_pos hc15).symm.trans hf
        refine lv_iconst (v := (0 : Int32)) hx hb dX5_way_109 (by decide) ?_
        refine lv_ior hx hb dX5_way_110 ?_
        refine lv_istore (lv' := [(6, .int (x6 ||| (0 : Int32))), (0, .ref a_m), (2, .int x2), (3, .int x3), (4, .int x4), (5, .int x5), (7, .int x7)]) hx hb dX5_way_111 hl (by decide) rfl (fun ls hl => ?_)
        refine lv_iinc (v := (x7 + 1)) (lv' := [(7, .int (x7 + 1)), (6, .int (x6 ||| (0 : Int32))), (0, .ref a_m), (2, .int x2), (3, .int x3), (4, .int x4), (5, .int x5)]) hx hb dX5_way_113 hl (k := 6) rfl rfl (by decide) rfl (fun ls hl => ?_)
        refine lv_goto (tgt := 70) hx hb dX5_way_116 (by decide) ?_
        exact ih _ _ _ _ _ _ _ _ _ _ _ hf _ _ _ hP hD hS (lv_sub hl [2, 3, 4, 5, 6, 1, 0] rfl)
      · replace hf := (if_neg hc15).symm.trans hf
        refine lv_aload_n hx hb dX5_way_90 rfl (lv_at hl 0 rfl) ?_
        refine lv_iload hx hb dX5_way_91 (lv_at hl 6 rfl) ?_
        obtain ⟨q93_1, hq16, hf⟩ := Option.bind_eq_some_iff.mp hf
        refine cV (ws' := (W_m cI cS a_m a_m_sorts a_m_sheetLong a_m_cells a_m_kind a_m_wet a_m_readKind a_m_readWet a_m_keptWet a_m_readCells a_m_readHours a_m_readCracked m_fault m_trace m_sorts m_sheetLong m_cells m_sun m_wide m_deep m_hour m_kind m_wet m_at m_readSun m_readWide m_readDeep m_readKind m_readWet m_keptWet m_keptSun m_openFirst m_planHours m_readings m_readCells m_readHours m_readCracked)) (rest := [.int x6]) (st1 := [.int q93_1, .int x6]) Cc hK hA hP hD hS hl.1 (ctX5_besides l D cI cS a_m a_m_sorts a_m_sheetLong a_m_cells a_m_kind a_m_wet a_m_readKind a_m_readWet a_m_keptWet a_m_readCells a_m_readHours a_m_readCracked m_fault m_trace m_sorts m_sheetLong m_cells m_sun m_wide m_deep m_hour m_kind m_wet m_at m_readSun m_readWide m_readDeep m_readKind m_readWet m_keptWet m_keptSun m_openFirst m_planHours m_readings m_readCells m_readHours m_readCracked x7 n q93_1 hq16) ⟨tw_654, tw_651, tw_653, tp_24, tw_6⟩ mdX5_besides ⟨rfl, rfl, Nat.le_of_ble_eq_true rfl, Nat.le_of_ble_eq_true rfl⟩ rfl dX5_way_93 rfl (Nat.le_of_ble_eq_true rfl) ⟨Nat.zero_le _, Nat.zero_le _⟩ rfl rfl rfl [0, 1, 2, 3, 4, 5, 6, 7, 8, 9, 10, 11] [] [0, 1, 2, 3, 4, 5, 6, 7, 8, 9, 10, 11] rfl rfl (by decide) rfl (fun H locs hP hD hS => ?_)
        refine lv_iload hx hb dX5_way_96 (lv_at hl 3 rfl) ?_
        refine lv_iand hx hb dX5_way_98 ?_
        refine lv_if_eq (tgt := 109) hx hb dX5_way_99 (by decide) (fun hc17 => ?_) (fun hc17 => ?_)
        · replace hf := (if_pos hc17).symm.trans hf
          refine lv_iconst (v := (0 : Int32)) hx hb dX5_way_109 (by decide) ?_
          refine lv_ior hx hb dX5_way_110 ?_
          refine lv_istore (lv' := [(6, .int (x6 ||| (0 : Int32))), (0, .ref a_m), (2, .int x2), (3, .int x3), (4, .int x4), (5, .int x5), (7, .int x7)]) hx hb dX5_way_111 hl (by decide) rfl (fun ls hl => ?_)
          refine lv_iinc (v := (x7 + 1)) (lv' := [(7, .int (x7 + 1)), (6, .int (x6 ||| (0 : Int32))), (0, .ref a_m), (2, .int x2), (3, .int x3), (4, .int x4), (5, .int x5)]) hx hb dX5_way_113 hl (k := 6) rfl rfl (by decide) rfl (fun ls hl => ?_)
          refine lv_goto (tgt := 70) hx hb dX5_way_116 (by decide) ?_
          exact ih _ _ _ _ _ _ _ _ _ _ _ hf _ _ _ hP hD hS (lv_sub hl [2, 3, 4, 5, 6, 1, 0] rfl)
        · replace hf := (if_neg hc17).symm.trans hf
          refine lv_iconst (v := (1 : Int32)) hx hb dX5_way_102 (by decide) ?_
          refine lv_iload hx hb dX5_way_103 (lv_at hl 6 rfl) ?_
          refine lv_ishl hx hb dX5_way_105 ?_
          refine lv_goto (tgt := 110) hx hb dX5_way_106 (by decide) ?_
          refine lv_ior hx hb dX5_way_110 ?_
          refine lv_istore (lv' := [(6, .int (x6 ||| ((1 : Int32) <<< (x7 &&& 31)))), (0, .ref a_m), (2, .int x2), (3, .int x3), (4, .int x4), (5, .int x5), (7, .int x7)]) hx hb dX5_way_111 hl (by decide) rfl (fun ls hl => ?_)
          refine lv_iinc (v := (x7 + 1)) (lv' := [(7, .int (x7 + 1)), (6, .int (x6 ||| ((1 : Int32) <<< (x7 &&& 31)))), (0, .ref a_m), (2, .int x2), (3, .int x3), (4, .int x4), (5, .int x5)]) hx hb dX5_way_113 hl (k := 6) rfl rfl (by decide) rfl (fun ls hl => ?_)
          refine lv_goto (tgt := 70) hx hb dX5_way_116 (by decide) ?_
          exact ih _ _ _ _ _ _ _ _ _ _ _ hf _ _ _ hP hD hS (lv_sub hl [2, 3, 4, 5, 6, 1, 0] rfl)
set_option maxHeartbeats 4000000 in
set_option maxRecDepth 100000 in
theorem bX5_way_34 {p : Program} {l : Launch} {e : Env} {s : State} {m : MethodId} {args : Array Value} {below : List Frame} {meth : Method} {c : Code} {A : Nat → Prop} {D : va_G} {cI cS : ClassId} (a_m a_m_sorts a_m_sheetLong a_m_cells a_m_kind a_m_wet a_m_readKind a_m_readWet a_m_keptWet a_m_readCells a_m_readHours a_m_readCracked : Nat) (m_fault : Int32) (m_trace : Int32) (m_sorts : Nat → Int32) (m_sheetLong : Nat → Int32) (m_cells : Nat → Int32) (m_hour : Int32) (m_at : Int32) (m_readSun : Int32) (m_readWide : Int32) (m_readDeep : Int32) (m_readKind : Nat → Int32) (m_readWet : Nat → Int32) (m_keptWet : Nat → Int32) (m_keptSun : Int32) (m_openFirst : Int32) (m_planHours : Int32) (m_readings : Int32) (m_readCells : Nat → Int32) (m_readHours : Nat → Int32) (m_readCracked : Nat → Int32) (Cc : Cx p s m args meth c RX5 cX5_way 8 (some .int)) (hK : va_K D classes (tysA cI cS) s) (hA : ∀ q, s.heap.size ≤ q → A q) (n : Nat) : ∀ (k : Nat) (m_sun : Int32) (m_wide : Int32) (m_deep : Int32) (m_kind : Nat → Int32) (m_wet : Nat → Int32) (x2 : Int32) (x3 : Int32) (x4 : Int32) (x5 : Int32) (r : Int32), fX5_way_34 n k m_sun m_wide m_deep m_kind m_wet x2 x3 x4 x5 = some (r) → ∀ (H : Heap) (locs : List Loc) (ls : Array Slot), va_P D classes (W_m cI cS a_m a_m_sorts a_m_sheetLong a_m_cells a_m_kind a_m_wet a_m_readKind a_m_readWet a_m_keptWet a_m_readCells a_m_readHours a_m_readCracked m_fault m_trace m_sorts m_sheetLong m_cells m_sun m_wide m_deep m_hour m_kind m_wet m_at m_readSun m_readWide m_readDeep m_readKind m_readWet m_keptWet m_keptSun m_openFirst m_planHours m_readings m_readCells m_readHours m_readCracked) H → va_D A (W_m cI cS a_m a_m_sorts a_m_sheetLong a_m_cells a_m_kind a_m_wet a_m_readKind a_m_readWet a_m_keptWet a_m_readCells a_m_readHours a_m_readCracked m_fault m_trace m_sorts m_sheetLong m_cells m_sun m_wide m_deep m_hour m_kind m_wet m_at m_readSun m_readWide m_readDeep m_readKind m_readWet m_keptWet m_keptSun m_openFirst m_planHours m_readings m_readCells m_readHours m_readCracked) → va_S A s.heap H locs → lv_has ls 8 [(0, .ref a_m), (2, .int x2), (3, .int x3), (4, .int x4), (5, .int x5)] → W p l e (Rm 3) s m args below meth c H locs 0 0 (MQ below (QW D (tysA cI cS) (some (.int r)) (W_m cI cS a_m a_m_sorts a_m_sheetLong a_m_cells a_m_kind a_m_wet a_m_readKind a_m_readWet a_m_keptWet a_m_readCells a_m_readHours a_m_readCracked m_fault m_trace m_sorts m_sheetLong m_cells m_sun m_wide m_deep m_hour m_kind m_wet m_at m_readSun m_readWide m_readDeep m_readKind m_readWet m_keptWet m_keptSun m_openFirst m_planHours m_readings m_readCells m_readHours m_readCracked) A) args s 0 0 A) (F0 m 34 ls []) := by
  obtain ⟨hx, hb, hr, hml, hown, hts, hlk, hnw⟩ := id Cc
  intro k
  induction k with
  | zero =>
    intro m_sun m_wide m_deep m_kind m_wet x2 x3 x4 x5 r hf
    rw [fX5_way_34] at hf
    cases hf
  | succ k ih =>
    intro m_sun m_wide m_deep m_kind m_wet x2 x3 x4 x5 r hf H locs ls hP hD hS hl
    rw [fX5_way_34] at hf
    refine lv_iload hx hb dX5_way_34 (lv_at hl 4 rfl) ?_
    refine lv_aload_n hx hb dX5_way_36 rfl (lv_at hl 0 rfl) ?_
    obtain ⟨q37_1, hq6, hf⟩ := Option.bind_eq_some_iff.mp hf
    refine cV (ws' := (W_m cI cS a_m a_m_sorts a_m_sheetLong a_m_cells a_m_kind a_m_wet a_m_readKind a_m_readWet a_m_keptWet a_m_readCells a_m_readHours a_m_readCracked m_fault m_trace m_sorts m_sheetLong m_cells m_sun m_wide m_deep m_hour m_kind m_wet m_at m_readSun m_readWide m_readDeep m_readKind m_readWet m_keptWet m_keptSun m_openFirst m_planHours m_readings m_readCells m_readHours m_readCracked)) (rest := [.int x5]) (st1 := [.int q37_1, .int x5]) Cc hK hA hP hD hS hl.1 (ctX5_cellsOf l D cI cS a_m a_m_sorts a_m_sheetLong a_m_cells a_m_kind a_m_wet a_m_readKind a_m_readWet a_m_keptWet a_m_readCells a_m_readHours a_m_readCracked m_fault m_trace m_sorts m_sheetLong m_cells m_sun m_wide m_deep m_hour m_kind m_wet m_at m_readSun m_readWide m_readDeep m_readKind m_readWet m_keptWet m_keptSun m_openFirst m_planHours m_readings m_readCells m_readHours m_readCracked  n q37_1 hq6) ⟨tw_619, tw_616, tw_618, tp_17, tw_6⟩ mdX5_cellsOf ⟨rfl, rfl, Nat.le_of_ble_eq_true rfl, Nat.le_of_ble_eq_true rfl⟩ rfl dX5_way_37 rfl (Nat.le_of_ble_eq_true rfl) ⟨Nat.zero_le _, Nat.zero_le _⟩ rfl rfl rfl [0, 1, 2, 3, 4, 5, 6, 7, 8, 9, 10, 11] [] [0, 1, 2, 3, 4, 5, 6, 7, 8, 9, 10, 11] rfl rfl (by decide) rfl (fun H locs hP hD hS => ?_)
    refine lv_icmp_ge (tgt := 129) hx hb dX5_way_40 (by decide) (fun hc7 => ?_) (fun hc7 => ?_)
    · replace hf := (if_pos hc7).symm.trans hf
      refine lv_bipush (v := (-9 : Int32)) hx hb dX5_way_129 (by decide) ?_
      obtain rfl := Option.some.inj hf
      exact rt_i Cc hK hP hD hS dX5_way_131
    · replace hf := (if_neg hc7).symm.trans hf
      refine lv_iload_n hx hb dX5_way_43 rfl (lv_at hl 2 rfl) ?_
      refine lv_iload_n hx hb dX5_way_44 rfl (lv_at hl 1 rfl) ?_
      obtain ⟨q45_1, hq8, hf⟩ := Option.bind_eq_some_iff.mp hf
      refine cSt (ws' := (W_m cI cS a_m a_m_sorts a_m_sheetLong a_m_cells a_m_kind a_m_wet a_m_readKind a_m_readWet a_m_keptWet a_m_readCells a_m_readHours a_m_readCracked m_fault m_trace m_sorts m_sheetLong m_cells m_sun m_wide m_deep m_hour m_kind m_wet m_at m_readSun m_readWide m_readDeep m_readKind m_readWet m_keptWet m_keptSun m_openFirst m_planHours m_readings m_readCells m_readHours m_readCracked)) (rest := []) (st1 := [.int q45_1]) Cc hK hA hP hD hS hl.1 (ctX5_isOf l D cI cS   x3 x2 n q45_1 hq8) ⟨tw_650, tw_648, tw_649, tw_6⟩ mdX5_isOf ⟨rfl, rfl, Nat.le_of_ble_eq_true rfl, Nat.le_of_ble_eq_true rfl⟩ rfl dX5_way_45 rfl (Nat.le_of_ble_eq_true rfl) ⟨Nat.zero_le _, Nat.zero_le _⟩ rfl [] [0, 1, 2, 3, 4, 5, 6, 7, 8, 9, 10, 11] [0, 1, 2, 3, 4, 5, 6, 7, 8, 9, 10, 11] rfl rfl (by decide) rfl (fun H locs hP hD hS => ?_)
      refine lv_if_eq (tgt := 129) hx hb dX5_way_48 (by decide) (fun hc9 => ?_) (fun hc9 => ?_)
      · replace hf := (if_pos hc9).symm.trans hf
        refine lv_bipush (v := (-9 : Int32)) hx hb dX5_way_129 (by decide) ?_
        obtain rfl := Option.some.inj hf
        exact rt_i Cc hK hP hD hS dX5_way_131
      · replace hf := (if_neg hc9).symm.trans hf
        refine lv_iload hx hb dX5_way_51 (lv_at hl 3 rfl) ?_
        refine lv_iload_n hx hb dX5_way_53 rfl (lv_at hl 1 rfl) ?_
        obtain ⟨q54_1, hq10, hf⟩ := Option.bind_eq_some_iff.mp hf
        refine cSt (ws' := (W_m cI cS a_m a_m_sorts a_m_sheetLong a_m_cells a_m_kind a_m_wet a_m_readKind a_m_readWet a_m_keptWet a_m_readCells a_m_readHours a_m_readCracked m_fault m_trace m_sorts m_sheetLong m_cells m_sun m_wide m_deep m_hour m_kind m_wet m_at m_readSun m_readWide m_readDeep m_readKind m_readWet m_keptWet m_keptSun m_openFirst m_planHours m_readings m_readCells m_readHours m_readCracked)) (rest := []) (st1 := [.int q54_1]) Cc hK hA hP hD hS hl.1 (ctX5_isOf l D cI cS   x4 x2 n q54_1 hq10) ⟨tw_650, tw_648, tw_649, tw_6⟩ mdX5_isOf ⟨rfl, rfl, Nat.le_of_ble_eq_true rfl, Nat.le_of_ble_eq_true rfl⟩ rfl dX5_way_54 rfl (Nat.le_of_ble_eq_true rfl) ⟨Nat.zero_le _, Nat.zero_le _⟩ rfl [] [0, 1, 2, 3, 4, 5, 6, 7, 8, 9, 10, 11] [0, 1, 2, 3, 4, 5, 6, 7, 8, 9, 10, 11] rfl rfl (by decide) rfl (fun H locs hP hD hS => ?_)
        refine lv_if_eq (tgt := 63) hx hb dX5_way_57 (by decide) (fun hc11 => ?_) (fun hc11 => ?_)
        · replace hf := (if_pos hc11).symm.trans hf
          refine lv_iload hx hb dX5_way_63 (lv_at hl 3 rfl) ?_
          refine lv_istore (lv' := [(6, .int x4), (0, .ref a_m), (2, .int x2), (3, .int x3), (4, .int x4), (5, .int x5)]) hx hb dX5_way_65 hl (by decide) rfl (fun ls hl => ?_)
          refine lv_iconst (v := (0 : Int32)) hx hb dX5_way_67 (by decide) ?_
          refine lv_istore (lv' := [(7, .int (0 : Int32)), (6, .int x4), (0, .ref a_m), (2, .int x2), (3, .int x3), (4, .int x4), (5, .int x5)]) hx hb dX5_way_68 hl (by decide) rfl (fun ls hl => ?_)
          refine bX5_way_70 a_m a_m_sorts a_m_sheetLong a_m_cells a_m_kind a_m_wet a_m_readKind a_m_readWet a_m_keptWet a_m_readCells a_m_readHours a_m_readCracked m_fault m_trace m_sorts m_sheetLong m_cells m_hour m_at m_readSun m_readWide m_readDeep m_readKind m_readWet m_keptWet m_keptSun m_openFirst m_planHours m_readings m_readCells m_readHours m_readCracked Cc hK hA n _ _ ?_ n _ _ _ _ _ _ _ _ _ _ _ hf _ _ _ hP hD hS (lv_sub hl [2, 3, 4, 5, 6, 1, 0] rfl)
          clear hf hP hD hS hl
          intro m_sun m_wide m_deep m_kind m_wet x2 x3 x5 x6 hf H locs ls hP hD hS hl
          try dsimp only at hf
          refine lv_iload hx hb dX5_way_119 (lv_at hl 4 rfl) ?_
          refine lv_istore (lv' := [(4, .int x6), (0, .ref a_m), (2, .int x2), (3, .int x3), (5, .int x5), (6, .int x6)]) hx hb dX5_way_121 hl (by decide) rfl (fun ls hl => ?_)
          refine lv_iinc (v := (x5 + 1)) (lv' := [(5, .int (x5 + 1)), (4, .int x6), (0, .ref a_m), (2, .int x2), (3, .int x3), (6, .int x6)]) hx hb dX5_way_123 hl (k := 4) rfl rfl (by decide) rfl (fun ls hl => ?_)
          refine lv_goto (tgt := 34) hx hb dX5_way_126 (by decide) ?_
          exact ih _ _ _ _ _ _ _ _ _ _ hf _ _ _ hP hD hS (lv_sub hl [2, 3, 4, 1, 0] rfl)
        · replace hf := (if_neg hc11).symm.trans hf
          refine lv_iload hx hb dX5_way_60 (lv_at hl 4 rfl) ?_
          obtain rfl := Option.some.inj hf
          exact rt_i Cc hK hP hD hS dX5_way_62
set_option maxHeartbeats 4000000 in
set_option maxRecDepth 100000 in
theorem ctX5_way (l : Launch) (D : va_G) (cI cS : ClassId) (a_m a_m_sorts a_m_sheetLong a_m_cells a_m_kind a_m_wet a_m_readKind a_m_readWet a_m_keptWet a_m_readCells a_m_readHours a_m_readCracked : Nat) (m_fault : Int32) (m_trace : Int32) (m_sorts : Nat → Int32) (m_sheetLong : Nat → Int32) (m_cells : Nat → Int32) (m_sun : Int32) (m_wide : Int32) (m_deep : Int32) (m_hour : Int32) (m_kind : Nat → Int32) (m_wet : Nat → Int32) (m_at : Int32) (m_readSun : Int32) (m_readWide : Int32) (m_readDeep : Int32) (m_readKind : Nat → Int32) (m_readWet : Nat → Int32) (m_keptWet : Nat → Int32) (m_keptSun : Int32) (m_openFirst : Int32) (m_planHours : Int32) (m_readings : Int32) (m_readCells : Nat → Int32) (m_readHours : Nat → Int32) (m_readCracked : Nat → Int32) (p1 : Int32) (p2 : Int32) (n : Nat) (r : Int32) (hf : fX5_way n m_sun m_wide m_deep m_kind m_wet p1 p2 = some (r)) : Ct l D (tysA cI cS) yX5_way cX5_way 8 (some .int) (Rm 3) [.ref a_m, .int p1, .int p2] (W_m cI cS a_m a_m_sorts a_m_sheetLong a_m_cells a_m_kind a_m_wet a_m_readKind a_m_readWet a_m_keptWet a_m_readCells a_m_readHours a_m_readCracked m_fault m_trace m_sorts m_sheetLong m_cells m_sun m_wide m_deep m_hour m_kind m_wet m_at m_readSun m_readWide m_readDeep m_readKind m_readWet m_keptWet m_keptSun m_openFirst m_planHours m_readings m_readCells m_readHours m_readCracked) (some (.int r)) (W_m cI cS a_m a_m_sorts a_m_sheetLong a_m_cells a_m_kind a_m_wet a_m_readKind a_m_readWet a_m_keptWet a_m_readCells a_m_readHours a_m_readCracked m_fault m_trace m_sorts m_sheetLong m_cells m_sun m_wide m_deep m_hour m_kind m_wet m_at m_readSun m_readWide m_readDeep m_readKind m_readWet m_keptWet m_keptSun m_openFirst m_planHours m_readings m_readCells m_readHours m_readCracked) := by
  refine Ct_of (by decide) (Nat.le_of_ble_eq_true rfl) ?_
  intro p e s m args below meth c A ls Cc hK hA hP hD hS hl
  have hl : lv_has ls 8 [(0, .ref a_m), (1, .int p1), (2, .int p2)] := hl
  obtain ⟨hx, hb, hr, hml, hown, hts, hlk, hnw⟩ := id Cc
  unfold fX5_way at hf
  refine lv_aload_n hx hb dX5_way_0 rfl (lv_at hl 0 rfl) ?_
  refine lv_iload_n hx hb dX5_way_1 rfl (lv_at hl 1 rfl) ?_
  obtain ⟨q2_1, hq1, hf⟩ := Option.bind_eq_some_iff.mp hf
  refine cV (ws' := (W_m cI cS a_m a_m_sorts a_m_sheetLong a_m_cells a_m_kind a_m_wet a_m_readKind a_m_readWet a_m_keptWet a_m_readCells a_m_readHours a_m_readCracked m_fault m_trace m_sorts m_sheetLong m_cells m_sun m_wide m_deep m_hour m_kind m_wet m_at m_readSun m_readWide m_readDeep m_readKind m_readWet m_keptWet m_keptSun m_openFirst m_planHours m_readings m_readCells m_readHours m_readCracked)) (rest := []) (st1 := [.int q2_1]) Cc hK hA hP hD hS hl.1 (ctX5_isCell l D cI cS a_m a_m_sorts a_m_sheetLong a_m_cells a_m_kind a_m_wet a_m_readKind a_m_readWet a_m_keptWet a_m_readCells a_m_readHours a_m_readCracked m_fault m_trace m_sorts m_sheetLong m_cells m_sun m_wide m_deep m_hour m_kind m_wet m_at m_readSun m_readWide m_readDeep m_readKind m_readWet m_keptWet m_keptSun m_openFirst m_planHours m_readings m_readCells m_readHours m_readCracked p1 n q2_1 hq1) ⟨tw_627, tw_624, tw_626, tp_18, tw_6⟩ mdX5_isCell ⟨rfl, rfl, Nat.le_of_ble_eq_true rfl, Nat.le_of_ble_eq_true rfl⟩ rfl dX5_way_2 rfl (Nat.le_of_ble_eq_true rfl) ⟨Nat.zero_le _, Nat.zero_le _⟩ rfl rfl rfl [0, 1, 2, 3, 4, 5, 6, 7, 8, 9, 10, 11] [] [0, 1, 2, 3, 4, 5, 6, 7, 8, 9, 10, 11] rfl rfl (by decide) rfl (fun H locs hP hD hS => ?_)
  refine lv_if_eq (tgt := 16) hx hb dX5_way_5 (by decide) (fun hc2 => ?_) (fun hc2 => ?_)
  · replace hf := (if_pos hc2).symm.trans hf
    refine lv_iconst (v := (-1 : Int32)) hx hb dX5_way_16 (by decide) ?_
    obtain rfl := Option.some.inj hf
    exact rt_i Cc hK hP hD hS dX5_way_17
  · replace hf := (if_neg hc2).symm.trans hf
    refine lv_aload_n hx hb dX5_way_8 rfl (lv_at hl 0 rfl) ?_
    refine lv_iload_n hx hb dX5_way_9 rfl (lv_at hl 2 rfl) ?_
    obtain ⟨q10_1, hq3, hf⟩ := Option.bind_eq_some_iff.mp hf
    refine cV (ws' := (W_m cI cS a_m a_m_sorts a_m_sheetLong a_m_cells a_m_kind a_m_wet a_m_readKind a_m_readWet a_m_keptWet a_m_readCells a_m_readHours a_m_readCracked m_fault m_trace m_sorts m_sheetLong m_cells m_sun m_wide m_deep m_hour m_kind m_wet m_at m_readSun m_readWide m_readDeep m_readKind m_readWet m_keptWet m_keptSun m_openFirst m_planHours m_readings m_readCells m_readHours m_readCracked)) (rest := []) (st1 := [.int q10_1]) Cc hK hA hP hD hS hl.1 (ctX5_isCell l D cI cS a_m a_m_sorts a_m_sheetLong a_m_cells a_m_kind a_m_wet a_m_readKind a_m_readWet a_m_keptWet a_m_readCells a_m_readHours a_m_readCracked m_fault m_trace m_sorts m_sheetLong m_cells m_sun m_wide m_deep m_hour m_kind m_wet m_at m_readSun m_readWide m_readDeep m_readKind m_readWet m_keptWet m_keptSun m_openFirst m_planHours m_readings m_readCells m_readHours m_readCracked p2 n q10_1 hq3) ⟨tw_627, tw_624, tw_626, tp_18, tw_6⟩ mdX5_isCell ⟨rfl, rfl, Nat.le_of_ble_eq_true rfl, Nat.le_of_ble_eq_true rfl⟩ rfl dX5_way_10 rfl (Nat.le_of_ble_eq_true rfl) ⟨Nat.zero_le _, Nat.zero_le _⟩ rfl rfl rfl [0, 1, 2, 3, 4, 5, 6, 7, 8, 9, 10, 11] [] [0, 1, 2, 3, 4, 5, 6, 7, 8, 9, 10, 11] rfl rfl (by decide) rfl (fun H locs hP hD hS => ?_)
    refine lv_if_ne (tgt := 18) hx hb dX5_way_13 (by decide) (fun hc4 => ?_) (fun hc4 => ?_)
    · replace hf := (if_neg hc4).symm.trans hf
      refine lv_aload_n hx hb dX5_way_18 rfl (lv_at hl 0 rfl) ?_
      refine lv_iconst (v := (0 : Int32)) hx hb dX5_way_19 (by decide) ?_
      obtain ⟨q20_1, hq5, hf⟩ := Option.bind_eq_some_iff.mp hf
      refine cV (ws' := (W_m cI cS a_m a_m_sorts a_m_sheetLong a_m_cells a_m_kind a_m_wet a_m_readKind a_m_readWet a_m_keptWet a_m_readCells a_m_readHours a_m_readCracked m_fault m_trace m_sorts m_sheetLong m_cells m_sun m_wide m_deep m_hour m_kind m_wet m_at m_readSun m_readWide m_readDeep m_readKind m_readWet m_keptWet m_keptSun m_openFirst m_planHours m_readings m_readCells m_readHours m_readCracked)) (rest := []) (st1 := [.int q20_1]) Cc hK hA hP hD hS hl.1 (ctX5_crackedBehind l D cI cS a_m a_m_sorts a_m_sheetLong a_m_cells a_m_kind a_m_wet a_m_readKind a_m_readWet a_m_keptWet a_m_readCells a_m_readHours a_m_readCracked m_fault m_trace m_sorts m_sheetLong m_cells m_sun m_wide m_deep m_hour m_kind m_wet m_at m_readSun m_readWide m_readDeep m_readKind m_readWet m_keptWet m_keptSun m_openFirst m_planHours m_readings m_readCells m_readHours m_readCracked (0 : Int32) n q20_1 hq5) ⟨tw_639, tw_636, tw_638, tp_21, tw_6⟩ mdX5_crackedBehind ⟨rfl, rfl, Nat.le_of_ble_eq_true rfl, Nat.le_of_ble_eq_true rfl⟩ rfl dX5_way_20 rfl (Nat.le_of_ble_eq_true rfl) ⟨Nat.zero_le _, Nat.zero_le _⟩ rfl rfl rfl [0, 1, 2, 3, 4, 5, 6, 7, 8, 9, 10, 11] [] [0, 1, 2, 3, 4, 5, 6, 7, 8, 9, 10, 11] rfl rfl (by decide) rfl (fun H locs hP hD hS => ?_)
      refine lv_istore_n (lv' := [(3, .int q20_1), (0, .ref a_m), (1, .int p1), (2, .int p2)]) hx hb dX5_way_23 rfl hl (by decide) rfl (fun ls hl => ?_)
      refine lv_iload_n hx hb dX5_way_24 rfl (lv_at hl 0 rfl) ?_
      refine lv_iconst (v := (1 : Int32)) hx hb dX5_way_25 (by decide) ?_
      refine lv_iload_n hx hb dX5_way_26 rfl (lv_at hl 2 rfl) ?_
      refine lv_ishl hx hb dX5_way_27 ?_
      refine lv_iand hx hb dX5_way_28 ?_
      refine lv_istore (lv' := [(4, .int (q20_1 &&& ((1 : Int32) <<< (p1 &&& 31)))), (3, .int q20_1), (0, .ref a_m), (1, .int p1), (2, .int p2)]) hx hb dX5_way_29 hl (by decide) rfl (fun ls hl => ?_)
      refine lv_iconst (v := (0 : Int32)) hx hb dX5_way_31 (by decide) ?_
      refine lv_istore (lv' := [(5, .int (0 : Int32)), (4, .int (q20_1 &&& ((1 : Int32) <<< (p1 &&& 31)))), (3, .int q20_1), (0, .ref a_m), (1, .int p1), (2, .int p2)]) hx hb dX5_way_32 hl (by decide) rfl (fun ls hl => ?_)
      exact bX5_way_34 a_m a_m_sorts a_m_sheetLong a_m_cells a_m_kind a_m_wet a_m_readKind a_m_readWet a_m_keptWet a_m_readCells a_m_readHours a_m_readCracked m_fault m_trace m_sorts m_sheetLong m_cells m_hour m_at m_readSun m_readWide m_readDeep m_readKind m_readWet m_keptWet m_keptSun m_openFirst m_planHours m_readings m_readCells m_readHours m_readCracked Cc hK hA n n _ _ _ _ _ _ _ _ _ _ hf _ _ _ hP hD hS (lv_sub hl [3, 5, 2, 1, 0] rfl)
    · replace hf := (if_pos hc4).symm.trans hf
      refine lv_iconst (v := (-1 : Int32)) hx hb dX5_way_16 (by decide) ?_
      obtain rfl := Option.some.inj hf
      exact rt_i Cc hK hP hD hS dX5_way_17
-- X5_keep
def fX5_keep_10 (n : Nat) : Nat → Int32 → Int32 → Int32 → (Nat → Int32) → (Nat → Int32) → Int32 → Int32 → Option ((Nat → Int32) × Int32)
  | 0, _, _, _, _, _, _, _ => none
  | k + 1, m_sun, m_wide, m_deep, m_wet, m_keptWet, m_keptSun, x1 => (fX5_cellsOf n m_wide m_deep).bind fun q12_1 => if q12_1 ≤ x1 then some (m_keptWet, m_keptSun) else gd x1 12 (gd x1 12 (fX5_keep_10 n k m_sun m_wide m_deep m_wet (upd m_keptWet x1.toNatClampNeg (m_wet x1.toNatClampNeg)) m_keptSun (x1 + 1)))
def fX5_keep (n : Nat) (m_sun : Int32) (m_wide : Int32) (m_deep : Int32) (m_wet : Nat → Int32) (m_keptWet : Nat → Int32) (m_keptSun : Int32)  : Option ((Nat → Int32) × Int32) := fX5_keep_10 n n m_sun m_wide m_deep m_wet m_keptWet m_sun (0 : Int32)
theorem mdX5_keep : yX5_keep.cls = RX5 ∧ yX5_keep.cls ≠ "java/lang/invoke/MethodHandle" ∧ yX5_keep.cls ≠ "java/lang/invoke/VarHandle" ∧ (parseMethodDescriptor yX5_keep.desc).map (fun d => d.parameters.length) = some 0 := by decide +kernel
set_option maxHeartbeats 4000000 in
set_option maxRecDepth 100000 in
theorem bX5_keep_10 {p : Program} {l : Launch} {e : Env} {s : State} {m : MethodId} {args : Array Value} {below : List Frame} {meth : Method} {c : Code} {A : Nat → Prop} {D : va_G} {cI cS : ClassId} (a_m a_m_sorts a_m_sheetLong a_m_cells a_m_kind a_m_wet a_m_readKind a_m_readWet a_m_keptWet a_m_readCells a_m_readHours a_m_readCracked : Nat) (m_fault : Int32) (m_trace : Int32) (m_sorts : Nat → Int32) (m_sheetLong : Nat → Int32) (m_cells : Nat → Int32) (m_hour : Int32) (m_kind : Nat → Int32) (m_at : Int32) (m_readSun : Int32) (m_readWide : Int32) (m_readDeep : Int32) (m_readKind : Nat → Int32) (m_readWet : Nat → Int32) (m_openFirst : Int32) (m_planHours : Int32) (m_readings : Int32) (m_readCells : Nat → Int32) (m_readHours : Nat → Int32) (m_readCracked : Nat → Int32) (Cc : Cx p s m args meth c RX5 cX5_keep 2 none) (hK : va_K D classes (tysA cI cS) s) (hA : ∀ q, s.heap.size ≤ q → A q) (n : Nat) : ∀ (k : Nat) (m_sun : Int32) (m_wide : Int32) (m_deep : Int32) (m_wet : Nat → Int32) (m_keptWet : Nat → Int32) (m_keptSun : Int32) (x1 : Int32) (m_keptWet' : Nat → Int32) (m_keptSun' : Int32), fX5_keep_10 n k m_sun m_wide m_deep m_wet m_keptWet m_keptSun x1 = some (m_keptWet', m_keptSun') → ∀ (H : Heap) (locs : List Loc) (ls : Array Slot), va_P D classes (W_m cI cS a_m a_m_sorts a_m_sheetLong a_m_cells a_m_kind a_m_wet a_m_readKind a_m_readWet a_m_keptWet a_m_readCells a_m_readHours a_m_readCracked m_fault m_trace m_sorts m_sheetLong m_cells m_sun m_wide m_deep m_hour m_kind m_wet m_at m_readSun m_readWide m_readDeep m_readKind m_readWet m_keptWet m_keptSun m_openFirst m_planHours m_readings m_readCells m_readHours m_readCracked) H → va_D A (W_m cI cS a_m a_m_sorts a_m_sheetLong a_m_cells a_m_kind a_m_wet a_m_readKind a_m_readWet a_m_keptWet a_m_readCells a_m_readHours a_m_readCracked m_fault m_trace m_sorts m_sheetLong m_cells m_sun m_wide m_deep m_hour m_kind m_wet m_at m_readSun m_readWide m_readDeep m_readKind m_readWet m_keptWet m_keptSun m_openFirst m_planHours m_readings m_readCells m_readHours m_readCracked) → va_S A s.heap H locs → lv_has ls 2 [(0, .ref a_m), (1, .int x1)] → W p l e (Rm 1) s m args below meth c H locs 0 0 (MQ below (QW D (tysA cI cS) none (W_m cI cS a_m a_m_sorts a_m_sheetLong a_m_cells a_m_kind a_m_wet a_m_readKind a_m_readWet a_m_keptWet a_m_readCells a_m_readHours a_m_readCracked m_fault m_trace m_sorts m_sheetLong m_cells m_sun m_wide m_deep m_hour m_kind m_wet m_at m_readSun m_readWide m_readDeep m_readKind m_readWet m_keptWet' m_keptSun' m_openFirst m_planHours m_readings m_readCells m_readHours m_readCracked) A) args s 0 0 A) (F0 m 10 ls []) := by
  obtain ⟨hx, hb, hr, hml, hown, hts, hlk, hnw⟩ := id Cc
  intro k
  induction k with
  | zero =>
    intro m_sun m_wide m_deep m_wet m_keptWet m_keptSun x1 m_keptWet' m_keptSun' hf
    rw [fX5_keep_10] at hf
    cases hf
  | succ k ih =>
    intro m_sun m_wide m_deep m_wet m_keptWet m_keptSun x1 m_keptWet' m_keptSun' hf H locs ls hP hD hS hl
    rw [fX5_keep_10] at hf
    refine lv_iload_n hx hb dX5_keep_10 rfl (lv_at hl 1 rfl) ?_
    refine lv_aload_n hx hb dX5_keep_11 rfl (lv_at hl 0 rfl) ?_
    obtain ⟨q12_1, hq1, hf⟩ := Option.bind_eq_some_iff.mp hf
    refine cV (ws' := (W_m cI cS a_m a_m_sorts a_m_sheetLong a_m_cells a_m_kind a_m_wet a_m_readKind a_m_readWet a_m_keptWet a_m_readCells a_m_readHours a_m_readCracked m_fault m_trace m_sorts m_sheetLong m_cells m_sun m_wide m_deep m_hour m_kind m_wet m_at m_readSun m_readWide m_readDeep m_readKind m_readWet m_keptWet m_keptSun m_openFirst m_planHours m_readings m_readCells m_readHours m_readCracked)) (rest := [.int x1]) (st1 := [.int q12_1, .int x1]) Cc hK hA hP hD hS hl.1 (ctX5_cellsOf l D cI cS a_m a_m_sorts a_m_sheetLong a_m_cells a_m_kind a_m_wet a_m_readKind a_m_readWet a_m_keptWet a_m_readCells a_m_readHours a_m_readCracked m_fault m_trace m_sorts m_sheetLong m_cells m_sun m_wide m_deep m_hour m_kind m_wet m_at m_readSun m_readWide m_readDeep m_readKind m_readWet m_keptWet m_keptSun m_openFirst m_planHours m_readings m_readCells m_readHours m_readCracked  n q12_1 hq1) ⟨tw_619, tw_616, tw_618, tp_17, tw_6⟩ mdX5_cellsOf ⟨rfl, rfl, Nat.le_of_ble_eq_true rfl, Nat.le_of_ble_eq_true rfl⟩ rfl dX5_keep_12 rfl (Nat.le_of_ble_eq_true rfl) ⟨Nat.zero_le _, Nat.zero_le _⟩ rfl rfl rfl [0, 1, 2, 3, 4, 5, 6, 7, 8, 9, 10, 11] [] [0, 1, 2, 3, 4, 5, 6, 7, 8, 9, 10, 11] rfl rfl (by decide) rfl (fun H locs hP hD hS => ?_)
    refine lv_icmp_ge (tgt := 36) hx hb dX5_keep_15 (by decide) (fun hc2 => ?_) (fun hc2 => ?_)
    · replace hf := (if_pos hc2).symm.trans hf
      replace hf := Option.some.inj hf
      obtain ⟨er0, er1⟩ := Prod.mk.inj hf
      clear hf 
      subst er0
      subst er1
      exact rt_v Cc hK hP hD hS dX5_keep_36
    · replace hf := (if_neg hc2).symm.trans hf
      refine lv_aload_n hx hb dX5_keep_18 rfl (lv_at hl 0 rfl) ?_
      refine va_get (D := D) (ci := 5) (v := .ref a_m_keptWet) (C := RX5) (T := TX5) (N := 25) hx hb hts inX5 hown hK hP 0 rfl rfl 17 (by decide) (hts _ tw_520) (fun _ h9 => h9) rfl dX5_keep_19 ?_
      refine lv_iload_n hx hb dX5_keep_22 rfl (lv_at hl 1 rfl) ?_
      refine lv_aload_n hx hb dX5_keep_23 rfl (lv_at hl 0 rfl) ?_
      refine va_get (D := D) (ci := 5) (v := .ref a_m_wet) (C := RX5) (T := TX5) (N := 25) hx hb hts inX5 hown hK hP 0 rfl rfl 10 (by decide) (hts _ tw_513) (fun _ h9 => h9) rfl dX5_keep_24 ?_
      refine lv_iload_n hx hb dX5_keep_27 rfl (lv_at hl 1 rfl) ?_
      obtain ⟨hin, hf⟩ := gd_some hf
      refine va_iald hx hb hK hP 5 0 rfl rfl hin dX5_keep_28 ?_
      obtain ⟨hin, hf⟩ := gd_some hf
      refine va_iast hx hb hK hP hD hS 8 0 rfl rfl hin dX5_keep_29 (fun H locs hP hD hS => ?_)
      have hP : va_P D classes (W_m cI cS a_m a_m_sorts a_m_sheetLong a_m_cells a_m_kind a_m_wet a_m_readKind a_m_readWet a_m_keptWet a_m_readCells a_m_readHours a_m_readCracked m_fault m_trace m_sorts m_sheetLong m_cells m_sun m_wide m_deep m_hour m_kind m_wet m_at m_readSun m_readWide m_readDeep m_readKind m_readWet (upd m_keptWet x1.toNatClampNeg (m_wet x1.toNatClampNeg)) m_keptSun m_openFirst m_planHours m_readings m_readCells m_readHours m_readCracked) H := hP
      have hD : va_D A (W_m cI cS a_m a_m_sorts a_m_sheetLong a_m_cells a_m_kind a_m_wet a_m_readKind a_m_readWet a_m_keptWet a_m_readCells a_m_readHours a_m_readCracked m_fault m_trace m_sorts m_sheetLong m_cells m_sun m_wide m_deep m_hour m_kind m_wet m_at m_readSun m_readWide m_readDeep m_readKind m_readWet (upd m_keptWet x1.toNatClampNeg (m_wet x1.toNatClampNeg)) m_keptSun m_openFirst m_planHours m_readings m_readCells m_readHours m_readCracked) := hD
      refine lv_iinc (v := (x1 + 1)) (lv' := [(1, .int (x1 + 1)), (0, .ref a_m)]) hx hb dX5_keep_30 hl (k := 1) rfl rfl (by decide) rfl (fun ls hl => ?_)
      refine lv_goto (tgt := 10) hx hb dX5_keep_33 (by decide) ?_
      exact ih _ _ _ _ _ _ _ _ _ hf _ _ _ hP hD hS (lv_sub hl [1, 0] rfl)
set_option maxHeartbeats 4000000 in
set_option maxRecDepth 100000 in
theorem ctX5_keep (l : Launch) (D : va_G) (cI cS : ClassId) (a_m a_m_sorts a_m_sheetLong a_m_cells a_m_kind a_m_wet a_m_readKind a_m_readWet a_m_keptWet a_m_readCells a_m_readHours a_m_readCracked : Nat) (m_fault : Int32) (m_trace : Int32) (m_sorts : Nat → Int32) (m_sheetLong : Nat → Int32) (m_cells : Nat → Int32) (m_sun : Int32) (m_wide : Int32) (m_deep : Int32) (m_hour : Int32) (m_kind : Nat → Int32) (m_wet : Nat → Int32) (m_at : Int32) (m_readSun : Int32) (m_readWide : Int32) (m_readDeep : Int32) (m_readKind : Nat → Int32) (m_readWet : Nat → Int32) (m_keptWet : Nat → Int32) (m_keptSun : Int32) (m_openFirst : Int32) (m_planHours : Int32) (m_readings : Int32) (m_readCells : Nat → Int32) (m_readHours : Nat → Int32) (m_readCracked : Nat → Int32)  (n : Nat) (m_keptWet' : Nat → Int32) (m_keptSun' : Int32) (hf : fX5_keep n m_sun m_wide m_deep m_wet m_keptWet m_keptSun  = some (m_keptWet', m_keptSun')) : Ct l D (tysA cI cS) yX5_keep cX5_keep 2 none (Rm 1) [.ref a_m] (W_m cI cS a_m a_m_sorts a_m_sheetLong a_m_cells a_m_kind a_m_wet a_m_readKind a_m_readWet a_m_keptWet a_m_readCells a_m_readHours a_m_readCracked m_fault m_trace m_sorts m_sheetLong m_cells m_sun m_wide m_deep m_hour m_kind m_wet m_at m_readSun m_readWide m_readDeep m_readKind m_readWet m_keptWet m_keptSun m_openFirst m_planHours m_readings m_readCells m_readHours m_readCracked) none (W_m cI cS a_m a_m_sorts a_m_sheetLong a_m_cells a_m_kind a_m_wet a_m_readKind a_m_readWet a_m_keptWet a_m_readCells a_m_readHours a_m_readCracked m_fault m_trace m_sorts m_sheetLong m_cells m_sun m_wide m_deep m_hour m_kind m_wet m_at m_readSun m_readWide m_readDeep m_readKind m_readWet m_keptWet' m_keptSun' m_openFirst m_planHours m_readings m_readCells m_readHours m_readCracked) := by
  refine Ct_of (by decide) (Nat.le_of_ble_eq_true rfl) ?_
  intro p e s m args below meth c A ls Cc hK hA hP hD hS hl
  have hl : lv_has ls 2 [(0, .ref a_m)] := hl
  obtain ⟨hx, hb, hr, hml, hown, hts, hlk, hnw⟩ := id Cc
  unfold fX5_keep at hf
  refine lv_aload_n hx hb dX5_keep_0 rfl (lv_at hl 0 rfl) ?_
  refine lv_aload_n hx hb dX5_keep_1 rfl (lv_at hl 0 rfl) ?_
  refine va_get (D := D) (ci := 5) (v := .int m_sun) (C := RX5) (T := TX5) (N := 25) hx hb hts inX5 hown hK hP 0 rfl rfl 5 (by decide) (hts _ tw_508) (fun _ h9 => h9) rfl dX5_keep_2 ?_
  refine va_put (D := D) (ci := 5) (v := .int m_sun) (ty := .int) (C := RX5) (T := TX5) (N := 25) hx hb hts inX5 tyX5 tyX5_ok nmX5 hown hK hP hD hS 0 rfl rfl 18 (by decide) (hts _ tw_521) (fun _ h9 => h9) rfl (tyX5_ok 18 (by decide)) rfl rfl (Nat.le_of_ble_eq_true rfl) dX5_keep_5 (fun H locs hP hD hS => ?_)
  have hP : va_P D classes (W_m cI cS a_m a_m_sorts a_m_sheetLong a_m_cells a_m_kind a_m_wet a_m_readKind a_m_readWet a_m_keptWet a_m_readCells a_m_readHours a_m_readCracked m_fault m_trace m_sorts m_sheetLong m_cells m_sun m_wide m_deep m_hour m_kind m_wet m_at m_readSun m_readWide m_readDeep m_readKind m_readWet m_keptWet m_sun m_openFirst m_planHours m_readings m_readCells m_readHours m_readCracked) H := hP
  have hD : va_D A (W_m cI cS a_m a_m_sorts a_m_sheetLong a_m_cells a_m_kind a_m_wet a_m_readKind a_m_readWet a_m_keptWet a_m_readCells a_m_readHours a_m_readCracked m_fault m_trace m_sorts m_sheetLong m_cells m_sun m_wide m_deep m_hour m_kind m_wet m_at m_readSun m_readWide m_readDeep m_readKind m_readWet m_keptWet m_sun m_openFirst m_planHours m_readings m_readCells m_readHours m_readCracked) := hD
  refine lv_iconst (v := (0 : Int32)) hx hb dX5_keep_8 (by decide) ?_
  refine lv_istore_n (lv' := [(1, .int (0 : Int32)), (0, .ref a_m)]) hx hb dX5_keep_9 rfl hl (by decide) rfl (fun ls hl => ?_)
  exact bX5_keep_10 a_m a_m_sorts a_m_sheetLong a_m_cells a_m_kind a_m_wet a_m_readKind a_m_readWet a_m_keptWet a_m_readCells a_m_readHours a_m_readCracked m_fault m_trace m_sorts m_sheetLong m_cells m_hour m_kind m_at m_readSun m_readWide m_readDeep m_readKind m_readWet m_openFirst m_planHours m_readings m_readCells m_readHours m_readCracked Cc hK hA n n _ _ _ _ _ _ _ _ _ hf _ _ _ hP hD hS (lv_sub hl [1, 0] rfl)
-- X5_putBack
def fX5_putBack_10 (n : Nat) : Nat → Int32 → Int32 → Int32 → (Nat → Int32) → (Nat → Int32) → Int32 → Int32 → Option (Int32 × (Nat → Int32))
  | 0, _, _, _, _, _, _, _ => none
  | k + 1, m_sun, m_wide, m_deep, m_wet, m_keptWet, m_keptSun, x1 => (fX5_cellsOf n m_wide m_deep).bind fun q12_1 => if q12_1 ≤ x1 then some (m_sun, m_wet) else gd x1 12 (gd x1 12 (fX5_putBack_10 n k m_sun m_wide m_deep (upd m_wet x1.toNatClampNeg (m_keptWet x1.toNatClampNeg)) m_keptWet m_keptSun (x1 + 1)))
def fX5_putBack (n : Nat) (m_sun : Int32) (m_wide : Int32) (m_deep : Int32) (m_wet : Nat → Int32) (m_keptWet : Nat → Int32) (m_keptSun : Int32)  : Option (Int32 × (Nat → Int32)) := fX5_putBack_10 n n m_keptSun m_wide m_deep m_wet m_keptWet m_keptSun (0 : Int32)
theorem mdX5_putBack : yX5_putBack.cls = RX5 ∧ yX5_putBack.cls ≠ "java/lang/invoke/MethodHandle" ∧ yX5_putBack.cls ≠ "java/lang/invoke/VarHandle" ∧ (parseMethodDescriptor yX5_putBack.desc).map (fun d => d.parameters.length) = some 0 := by decide +kernel
set_option maxHeartbeats 4000000 in
set_option maxRecDepth 100000 in
theorem bX5_putBack_10 {p : Program} {l : Launch} {e : Env} {s : State} {m : MethodId} {args : Array Value} {below : List Frame} {meth : Method} {c : Code} {A : Nat → Prop} {D : va_G} {cI cS : ClassId} (a_m a_m_sorts a_m_sheetLong a_m_cells a_m_kind a_m_wet a_m_readKind a_m_readWet a_m_keptWet a_m_readCells a_m_readHours a_m_readCracked : Nat) (m_fault : Int32) (m_trace : Int32) (m_sorts : Nat → Int32) (m_sheetLong : Nat → Int32) (m_cells : Nat → Int32) (m_hour : Int32) (m_kind : Nat → Int32) (m_at : Int32) (m_readSun : Int32) (m_readWide : Int32) (m_readDeep : Int32) (m_readKind : Nat → Int32) (m_readWet : Nat → Int32) (m_openFirst : Int32) (m_planHours : Int32) (m_readings : Int32) (m_readCells : Nat → Int32) (m_readHours : Nat → Int32) (m_readCracked : Nat → Int32) (Cc : Cx p s m args meth c RX5 cX5_putBack 2 none) (hK : va_K D classes (tysA cI cS) s) (hA : ∀ q, s.heap.size ≤ q → A q) (n : Nat) : ∀ (k : Nat) (m_sun : Int32) (m_wide : Int32) (m_deep : Int32) (m_wet : Nat → Int32) (m_keptWet : Nat → Int32) (m_keptSun : Int32) (x1 : Int32) (m_sun' : Int32) (m_wet' : Nat → Int32), fX5_putBack_10 n k m_sun m_wide m_deep m_wet m_keptWet m_keptSun x1 = some (m_sun', m_wet') → ∀ (H : Heap) (locs : List Loc) (ls : Array Slot), va_P D classes (W_m cI cS a_m a_m_sorts a_m_sheetLong a_m_cells a_m_kind a_m_wet a_m_readKind a_m_readWet a_m_keptWet a_m_readCells a_m_readHours a_m_readCracked m_fault m_trace m_sorts m_sheetLong m_cells m_sun m_wide m_deep m_hour m_kind m_wet m_at m_readSun m_readWide m_readDeep m_readKind m_readWet m_keptWet m_keptSun m_openFirst m_planHours m_readings m_readCells m_readHours m_readCracked) H → va_D A (W_m cI cS a_m a_m_sorts a_m_sheetLong a_m_cells a_m_kind a_m_wet a_m_readKind a_m_readWet a_m_keptWet a_m_readCells a_m_readHours a_m_readCracked m_fault m_trace m_sorts m_sheetLong m_cells m_sun m_wide m_deep m_hour m_kind m_wet m_at m_readSun m_readWide m_readDeep m_readKind m_readWet m_keptWet m_keptSun m_openFirst m_planHours m_readings m_readCells m_readHours m_readCracked) → va_S A s.heap H locs → lv_has ls 2 [(0, .ref a_m), (1, .int x1)] → W p l e (Rm 1) s m args below meth c H locs 0 0 (MQ below (QW D (tysA cI cS) none (W_m cI cS a_m a_m_sorts a_m_sheetLong a_m_cells a_m_kind a_m_wet a_m_readKind a_m_readWet a_m_keptWet a_m_readCells a_m_readHours a_m_readCracked m_fault m_trace m_sorts m_sheetLong m_cells m_sun' m_wide m_deep m_hour m_kind m_wet' m_at m_readSun m_readWide m_readDeep m_readKind m_readWet m_keptWet m_keptSun m_openFirst m_planHours m_readings m_readCells m_readHours m_readCracked) A) args s 0 0 A) (F0 m 10 ls []) := by
  obtain ⟨hx, hb, hr, hml, hown, hts, hlk, hnw⟩ := id Cc
  intro k
  induction k with
  | zero =>
    intro m_sun m_wide m_deep m_wet m_keptWet m_keptSun x1 m_sun' m_wet' hf
    rw [fX5_putBack_10] at hf
    cases hf
  | succ k ih =>
    intro m_sun m_wide m_deep m_wet m_keptWet m_keptSun x1 m_sun' m_wet' hf H locs ls hP hD hS hl
    rw [fX5_putBack_10] at hf
    refine lv_iload_n hx hb dX5_putBack_10 rfl (lv_at hl 1 rfl) ?_
    refine lv_aload_n hx hb dX5_putBack_11 rfl (lv_at hl 0 rfl) ?_
    obtain ⟨q12_1, hq1, hf⟩ := Option.bind_eq_some_iff.mp hf
    refine cV (ws' := (W_m cI cS a_m a_m_sorts a_m_sheetLong a_m_cells a_m_kind a_m_wet a_m_readKind a_m_readWet a_m_keptWet a_m_readCells a_m_readHours a_m_readCracked m_fault m_trace m_sorts m_sheetLong m_cells m_sun m_wide m_deep m_hour m_kind m_wet m_at m_readSun m_readWide m_readDeep m_readKind m_readWet m_keptWet m_keptSun m_openFirst m_planHours m_readings m_readCells m_readHours m_readCracked)) (rest := [.int x1]) (st1 := [.int q12_1, .int x1]) Cc hK hA hP hD hS hl.1 (ctX5_cellsOf l D cI cS a_m a_m_sorts a_m_sheetLong a_m_cells a_m_kind a_m_wet a_m_readKind a_m_readWet a_m_keptWet a_m_readCells a_m_readHours a_m_readCracked m_fault m_trace m_sorts m_sheetLong m_cells m_sun m_wide m_deep m_hour m_kind m_wet m_at m_readSun m_readWide m_readDeep m_readKind m_readWet m_keptWet m_keptSun m_openFirst m_planHours m_readings m_readCells m_readHours m_readCracked  n q12_1 hq1) ⟨tw_619, tw_616, tw_618, tp_17, tw_6⟩ mdX5_cellsOf ⟨rfl, rfl, Nat.le_of_ble_eq_true rfl, Nat.le_of_ble_eq_true rfl⟩ rfl dX5_putBack_12 rfl (Nat.le_of_ble_eq_true rfl) ⟨Nat.zero_le _, Nat.zero_le _⟩ rfl rfl rfl [0, 1, 2, 3, 4, 5, 6, 7, 8, 9, 10, 11] [] [0, 1, 2, 3, 4, 5, 6, 7, 8, 9, 10, 11] rfl rfl (by decide) rfl (fun H locs hP hD hS => ?_)
    refine lv_icmp_ge (tgt := 36) hx hb dX5_putBack_15 (by decide) (fun hc2 => ?_) (fun hc2 => ?_)
    · replace hf := (if_pos hc2).symm.trans hf
      replace hf := Option.some.inj hf
      obtain ⟨er0, er1⟩ := Prod.mk.inj hf
      clear hf 
      subst er0
      subst er1
      exact rt_v Cc hK hP hD hS dX5_putBack_36
    · replace hf := (if_neg hc2).symm.trans hf
      refine lv_aload_n hx hb dX5_putBack_18 rfl (lv_at hl 0 rfl) ?_
      refine va_get (D := D) (ci := 5) (v := .ref a_m_wet) (C := RX5) (T := TX5) (N := 25) hx hb hts inX5 hown hK hP 0 rfl rfl 10 (by decide) (hts _ tw_513) (fun _ h9 => h9) rfl dX5_putBack_19 ?_
      refine lv_iload_n hx hb dX5_putBack_22 rfl (lv_at hl 1 rfl) ?_
      refine lv_aload_n hx hb dX5_putBack_23 rfl (lv_at hl 0 rfl) ?_
      refine va_get (D := D) (ci := 5) (v := .ref a_m_keptWet) (C := RX5) (T := TX5) (N := 25) hx hb hts inX5 hown hK hP 0 rfl rfl 17 (by decide) (hts _ tw_520) (fun _ h9 => h9) rfl dX5_putBack_24 ?_
      refine lv_iload_n hx hb dX5_putBack_27 rfl (lv_at hl 1 rfl) ?_
      obtain ⟨hin, hf⟩ := gd_some hf
      refine va_iald hx hb hK hP 8 0 rfl rfl hin dX5_putBack_28 ?_
      obtain ⟨hin, hf⟩ := gd_some hf
      refine va_iast hx hb hK hP hD hS 5 0 rfl rfl hin dX5_putBack_29 (fun H locs hP hD hS => ?_)
      have hP : va_P D classes (W_m cI cS a_m a_m_sorts a_m_sheetLong a_m_cells a_m_kind a_m_wet a_m_readKind a_m_readWet a_m_keptWet a_m_readCells a_m_readHours a_m_readCracked m_fault m_trace m_sorts m_sheetLong m_cells m_sun m_wide m_deep m_hour m_kind (upd m_wet x1.toNatClampNeg (m_keptWet x1.toNatClampNeg)) m_at m_readSun m_readWide m_readDeep m_readKind m_readWet m_keptWet m_keptSun m_openFirst m_planHours m_readings m_readCells m_readHours m_readCracked) H := hP
      have hD : va_D A (W_m cI cS a_m a_m_sorts a_m_sheetLong a_m_cells a_m_kind a_m_wet a_m_readKind a_m_readWet a_m_keptWet a_m_readCells a_m_readHours a_m_readCracked m_fault m_trace m_sorts m_sheetLong m_cells m_sun m_wide m_deep m_hour m_kind (upd m_wet x1.toNatClampNeg (m_keptWet x1.toNatClampNeg)) m_at m_readSun m_readWide m_readDeep m_readKind m_readWet m_keptWet m_keptSun m_openFirst m_planHours m_readings m_readCells m_readHours m_readCracked) := hD
      refine lv_iinc (v := (x1 + 1)) (lv' := [(1, .int (x1 + 1)), (0, .ref a_m)]) hx hb dX5_putBack_30 hl (k := 1) rfl rfl (by decide) rfl (fun ls hl => ?_)
      refine lv_goto (tgt := 10) hx hb dX5_putBack_33 (by decide) ?_
      exact ih _ _ _ _ _ _ _ _ _ hf _ _ _ hP hD hS (lv_sub hl [1, 0] rfl)
set_option maxHeartbeats 4000000 in
set_option maxRecDepth 100000 in
theorem ctX5_putBack (l : Launch) (D : va_G) (cI cS : ClassId) (a_m a_m_sorts a_m_sheetLong a_m_cells a_m_kind a_m_wet a_m_readKind a_m_readWet a_m_keptWet a_m_readCells a_m_readHours a_m_readCracked : Nat) (m_fault : Int32) (m_trace : Int32) (m_sorts : Nat → Int32) (m_sheetLong : Nat → Int32) (m_cells : Nat → Int32) (m_sun : Int32) (m_wide : Int32) (m_deep : Int32) (m_hour : Int32) (m_kind : Nat → Int32) (m_wet : Nat → Int32) (m_at : Int32) (m_readSun : Int32) (m_readWide : Int32) (m_readDeep : Int32) (m_readKind : Nat → Int32) (m_readWet : Nat → Int32) (m_keptWet : Nat → Int32) (m_keptSun : Int32) (m_openFirst : Int32) (m_planHours : Int32) (m_readings : Int32) (m_readCells : Nat → Int32) (m_readHours : Nat → Int32) (m_readCracked : Nat → Int32)  (n : Nat) (m_sun' : Int32) (m_wet' : Nat → Int32) (hf : fX5_putBack n m_sun m_wide m_deep m_wet m_keptWet m_keptSun  = some (m_sun', m_wet')) : Ct l D (tysA cI cS) yX5_putBack cX5_putBack 2 none (Rm 1) [.ref a_m] (W_m cI cS a_m a_m_sorts a_m_sheetLong a_m_cells a_m_kind a_m_wet a_m_readKind a_m_readWet a_m_keptWet a_m_readCells a_m_readHours a_m_readCracked m_fault m_trace m_sorts m_sheetLong m_cells m_sun m_wide m_deep m_hour m_kind m_wet m_at m_readSun m_readWide m_readDeep m_readKind m_readWet m_keptWet m_keptSun m_openFirst m_planHours m_readings m_readCells m_readHours m_readCracked) none (W_m cI cS a_m a_m_sorts a_m_sheetLong a_m_cells a_m_kind a_m_wet a_m_readKind a_m_readWet a_m_keptWet a_m_readCells a_m_readHours a_m_readCracked m_fault m_trace m_sorts m_sheetLong m_cells m_sun' m_wide m_deep m_hour m_kind m_wet' m_at m_readSun m_readWide m_readDeep m_readKind m_readWet m_keptWet m_keptSun m_openFirst m_planHours m_readings m_readCells m_readHours m_readCracked) := by
  refine Ct_of (by decide) (Nat.le_of_ble_eq_true rfl) ?_
  intro p e s m args below meth c A ls Cc hK hA hP hD hS hl
  have hl : lv_has ls 2 [(0, .ref a_m)] := hl
  obtain ⟨hx, hb, hr, hml, hown, hts, hlk, hnw⟩ := id Cc
  unfold fX5_putBack at hf
  refine lv_aload_n hx hb dX5_putBack_0 rfl (lv_at hl 0 rfl) ?_
  refine lv_aload_n hx hb dX5_putBack_1 rfl (lv_at hl 0 rfl) ?_
  refine va_get (D := D) (ci := 5) (v := .int m_keptSun) (C := RX5) (T := TX5) (N := 25) hx hb hts inX5 hown hK hP 0 rfl rfl 18 (by decide) (hts _ tw_521) (fun _ h9 => h9) rfl dX5_putBack_2 ?_
  refine va_put (D := D) (ci := 5) (v := .int m_keptSun) (ty := .int) (C := RX5) (T := TX5) (N := 25) hx hb hts inX5 tyX5 tyX5_ok nmX5 hown hK hP hD hS 0 rfl rfl 5 (by decide) (hts _ tw_508) (fun _ h9 => h9) rfl (tyX5_ok 5 (by decide)) rfl rfl (Nat.le_of_ble_eq_true rfl) dX5_putBack_5 (fun H locs hP hD hS => ?_)
  have hP : va_P D classes (W_m cI cS a_m a_m_sorts a_m_sheetLong a_m_cells a_m_kind a_m_wet a_m_readKind a_m_readWet a_m_keptWet a_m_readCells a_m_readHours a_m_readCracked m_fault m_trace m_sorts m_sheetLong m_cells m_keptSun m_wide m_deep m_hour m_kind m_wet m_at m_readSun m_readWide m_readDeep m_readKind m_readWet m_keptWet m_keptSun m_openFirst m_planHours m_readings m_readCells m_readHours m_readCracked) H := hP
  have hD : va_D A (W_m cI cS a_m a_m_sorts a_m_sheetLong a_m_cells a_m_kind a_m_wet a_m_readKind a_m_readWet a_m_keptWet a_m_readCells a_m_readHours a_m_readCracked m_fault m_trace m_sorts m_sheetLong m_cells m_keptSun m_wide m_deep m_hour m_kind m_wet m_at m_readSun m_readWide m_readDeep m_readKind m_readWet m_keptWet m_keptSun m_openFirst m_planHours m_readings m_readCells m_readHours m_readCracked) := hD
  refine lv_iconst (v := (0 : Int32)) hx hb dX5_putBack_8 (by decide) ?_
  refine lv_istore_n (lv' := [(1, .int (0 : Int32)), (0, .ref a_m)]) hx hb dX5_putBack_9 rfl hl (by decide) rfl (fun ls hl => ?_)
  exact bX5_putBack_10 a_m a_m_sorts a_m_sheetLong a_m_cells a_m_kind a_m_wet a_m_readKind a_m_readWet a_m_keptWet a_m_readCells a_m_readHours a_m_readCracked m_fault m_trace m_sorts m_sheetLong m_cells m_hour m_kind m_at m_readSun m_readWide m_readDeep m_readKind m_readWet m_openFirst m_planHours m_readings m_readCells m_readHours m_readCracked Cc hK hA n n _ _ _ _ _ _ _ _ _ hf _ _ _ hP hD hS (lv_sub hl [1, 0] rfl)
-- X5_refusesPair
def fX5_refusesPair_24 (n : Nat) (m_wide : Int32) (m_deep : Int32) (x1 : Int32) (x2 : Int32) : Option (Int32) := if x1 = (1 : Int32) then (fX5_isCell n m_wide m_deep x2).bind fun q31_1 => if q31_1 = 0 then some ((-1 : Int32)) else some ((0 : Int32)) else some ((0 : Int32))
def fX5_refusesPair (n : Nat) (m_wide : Int32) (m_deep : Int32) (p1 : Int32) (p2 : Int32) : Option (Int32) := (fX5_within n p1 (0 : Int32) (2 : Int32)).bind fun q3_1 => if q3_1 = 0 then some ((-2 : Int32)) else if p1 = (1 : Int32) then fX5_refusesPair_24 n m_wide m_deep p1 p2 else (fX5_isDigit n p2).bind fun q15_1 => if q15_1 = 0 then some ((-2 : Int32)) else fX5_refusesPair_24 n m_wide m_deep p1 p2
theorem mdX5_refusesPair : yX5_refusesPair.cls = RX5 ∧ yX5_refusesPair.cls ≠ "java/lang/invoke/MethodHandle" ∧ yX5_refusesPair.cls ≠ "java/lang/invoke/VarHandle" ∧ (parseMethodDescriptor yX5_refusesPair.desc).map (fun d => d.parameters.length) = some 2 := by decide +kernel
set_option maxHeartbeats 4000000 in
set_option maxRecDepth 100000 in
theorem bX5_refusesPair_24 {p : Program} {l : Launch} {e : Env} {s : State} {m : MethodId} {args : Array Value} {below : List Frame} {meth : Method} {c : Code} {A : Nat → Prop} {D : va_G} {cI cS : ClassId} (a_m a_m_sorts a_m_sheetLong a_m_cells a_m_kind a_m_wet a_m_readKind a_m_readWet a_m_keptWet a_m_readCells a_m_readHours a_m_readCracked : Nat) (m_fault : Int32) (m_trace : Int32) (m_sorts : Nat → Int32) (m_sheetLong : Nat → Int32) (m_cells : Nat → Int32) (m_sun : Int32) (m_hour : Int32) (m_kind : Nat → Int32) (m_wet : Nat → Int32) (m_at : Int32) (m_readSun : Int32) (m_readWide : Int32) (m_readDeep : Int32) (m_readKind : Nat → Int32) (m_readWet : Nat → Int32) (m_keptWet : Nat → Int32) (m_keptSun : Int32) (m_openFirst : Int32) (m_planHours : Int32) (m_readings : Int32) (m_readCells : Nat → Int32) (m_readHours : Nat → Int32) (m_readCracked : Nat → Int32) (Cc : Cx p s m args meth c RX5 cX5_refusesPair 3 (some .int)) (hK : va_K D classes (tysA cI cS) s) (hA : ∀ q, s.heap.size ≤ q → A q) (n : Nat) : ∀ (m_wide : Int32) (m_deep : Int32) (x1 : Int32) (x2 : Int32) (r : Int32), fX5_refusesPair_24 n m_wide m_deep x1 x2 = some (r) → ∀ (H : Heap) (locs : List Loc) (ls : Array Slot), va_P D classes (W_m cI cS a_m a_m_sorts a_m_sheetLong a_m_cells a_m_kind a_m_wet a_m_readKind a_m_readWet a_m_keptWet a_m_readCells a_m_readHours a_m_readCracked m_fault m_trace m_sorts m_sheetLong m_cells m_sun m_wide m_deep m_hour m_kind m_wet m_at m_readSun m_readWide m_readDeep m_readKind m_readWet m_keptWet m_keptSun m_openFirst m_planHours m_readings m_readCells m_readHours m_readCracked) H → va_D A (W_m cI cS a_m a_m_sorts a_m_sheetLong a_m_cells a_m_kind a_m_wet a_m_readKind a_m_readWet a_m_keptWet a_m_readCells a_m_readHours a_m_readCracked m_fault m_trace m_sorts m_sheetLong m_cells m_sun m_wide m_deep m_hour m_kind m_wet m_at m_readSun m_readWide m_readDeep m_readKind m_readWet m_keptWet m_keptSun m_openFirst m_planHours m_readings m_readCells m_readHours m_readCracked) → va_S A s.heap H locs → lv_has ls 3 [(0, .ref a_m), (1, .int x1), (2, .int x2)] → W p l e (Rm 2) s m args below meth c H locs 0 0 (MQ below (QW D (tysA cI cS) (some (.int r)) (W_m cI cS a_m a_m_sorts a_m_sheetLong a_m_cells a_m_kind a_m_wet a_m_readKind a_m_readWet a_m_keptWet a_m_readCells a_m_readHours a_m_readCracked m_fault m_trace m_sorts m_sheetLong m_cells m_sun m_wide m_deep m_hour m_kind m_wet m_at m_readSun m_readWide m_readDeep m_readKind m_readWet m_keptWet m_keptSun m_openFirst m_planHours m_readings m_readCells m_readHours m_readCracked) A) args s 0 0 A) (F0 m 24 ls []) := by
  obtain ⟨hx, hb, hr, hml, hown, hts, hlk, hnw⟩ := id Cc
  intro m_wide m_deep x1 x2 r hf H locs ls hP hD hS hl
  unfold fX5_refusesPair_24 at hf
  refine lv_iload_n hx hb dX5_refusesPair_24 rfl (lv_at hl 1 rfl) ?_
  refine lv_iconst (v := (1 : Int32)) hx hb dX5_refusesPair_25 (by decide) ?_
  refine lv_icmp_ne (tgt := 41) hx hb dX5_refusesPair_26 (by decide) (fun hc4 => ?_) (fun hc4 => ?_)
  · replace hf := (if_neg hc4).symm.trans hf
    refine lv_iconst (v := (0 : Int32)) hx hb dX5_refusesPair_41 (by decide) ?_
    obtain rfl := Option.some.inj hf
    exact rt_i Cc hK hP hD hS dX5_refusesPair_42
  · replace hf := (if_pos hc4).symm.trans hf
    refine lv_aload_n hx hb dX5_refusesPair_29 rfl (lv_at hl 0 rfl) ?_
    refine lv_iload_n hx hb dX5_refusesPair_30 rfl (lv_at hl 2 rfl) ?_
    obtain ⟨q31_1, hq5, hf⟩ := Option.bind_eq_some_iff.mp hf
    refine cV (ws' := (W_m cI cS a_m a_m_sorts a_m_sheetLong a_m_cells a_m_kind a_m_wet a_m_readKind a_m_readWet a_m_keptWet a_m_readCells a_m_readHours a_m_readCracked m_fault m_trace m_sorts m_sheetLong m_cells m_sun m_wide m_deep m_hour m_kind m_wet m_at m_readSun m_readWide m_readDeep m_readKind m_readWet m_keptWet m_keptSun m_openFirst m_planHours m_readings m_readCells m_readHours m_readCracked)) (rest := []) (st1 := [.int q31_1]) Cc hK hA hP hD hS hl.1 (ctX5_isCell l D cI cS a_m a_m_sorts a_m_sheetLong a_m_cells a_m_kind a_m_wet a_m_readKind a_m_readWet a_m_keptWet a_m_readCells a_m_readHours a_m_readCracked m_fault m_trace m_sorts m_sheetLong m_cells m_sun m_wide m_deep m_hour m_kind m_wet m_at m_readSun m_readWide m_readDeep m_readKind m_readWet m_keptWet m_keptSun m_openFirst m_planHours m_readings m_readCells m_readHours m_readCracked x2 n q31_1 hq5) ⟨tw_627, tw_624, tw_626, tp_18, tw_6⟩ mdX5_isCell ⟨rfl, rfl, Nat.le_of_ble_eq_true rfl, Nat.le_of_ble_eq_true rfl⟩ rfl dX5_refusesPair_31 rfl (Nat.le_of_ble_eq_true rfl) ⟨Nat.zero_le _, Nat.zero_le _⟩ rfl rfl rfl [0, 1, 2, 3, 4, 5, 6, 7, 8, 9, 10, 11] [] [0, 1, 2, 3, 4, 5, 6, 7, 8, 9, 10, 11] rfl rfl (by decide) rfl (fun H locs hP hD hS => ?_)
    refine lv_if_ne (tgt := 41) hx hb dX5_refusesPair_34 (by decide) (fun hc6 => ?_) (fun hc6 => ?_)
    · replace hf := (if_neg hc6).symm.trans hf
      refine lv_iconst (v := (0 : Int32)) hx hb dX5_refusesPair_41 (by decide) ?_
      obtain rfl := Option.some.inj hf
      exact rt_i Cc hK hP hD hS dX5_refusesPair_42
    · replace hf := (if_pos hc6).symm.trans hf
      refine lv_iconst (v := (-1 : Int32)) hx hb dX5_refusesPair_37 (by decide) ?_
      refine lv_goto (tgt := 42) hx hb dX5_refusesPair_38 (by decide) ?_
      obtain rfl := Option.some.inj hf
      exact rt_i Cc hK hP hD hS dX5_refusesPair_42
set_option maxHeartbeats 4000000 in
set_option maxRecDepth 100000 in
theorem ctX5_refusesPair (l : Launch) (D : va_G) (cI cS : ClassId) (a_m a_m_sorts a_m_sheetLong a_m_cells a_m_kind a_m_wet a_m_readKind a_m_readWet a_m_keptWet a_m_readCells a_m_readHours a_m_readCracked : Nat) (m_fault : Int32) (m_trace : Int32) (m_sorts : Nat → Int32) (m_sheetLong : Nat → Int32) (m_cells : Nat → Int32) (m_sun : Int32) (m_wide : Int32) (m_deep : Int32) (m_hour : Int32) (m_kind : Nat → Int32) (m_wet : Nat → Int32) (m_at : Int32) (m_readSun : Int32) (m_readWide : Int32) (m_readDeep : Int32) (m_readKind : Nat → Int32) (m_readWet : Nat → Int32) (m_keptWet : Nat → Int32) (m_keptSun : Int32) (m_openFirst : Int32) (m_planHours : Int32) (m_readings : Int32) (m_readCells : Nat → Int32) (m_readHours : Nat → Int32) (m_readCracked : Nat → Int32) (p1 : Int32) (p2 : Int32) (n : Nat) (r : Int32) (hf : fX5_refusesPair n m_wide m_deep p1 p2 = some (r)) : Ct l D (tysA cI cS) yX5_refusesPair cX5_refusesPair 3 (some .int) (Rm 2) [.ref a_m, .int p1, .int p2] (W_m cI cS a_m a_m_sorts a_m_sheetLong a_m_cells a_m_kind a_m_wet a_m_readKind a_m_readWet a_m_keptWet a_m_readCells a_m_readHours a_m_readCracked m_fault m_trace m_sorts m_sheetLong m_cells m_sun m_wide m_deep m_hour m_kind m_wet m_at m_readSun m_readWide m_readDeep m_readKind m_readWet m_keptWet m_keptSun m_openFirst m_planHours m_readings m_readCells m_readHours m_readCracked) (some (.int r)) (W_m cI cS a_m a_m_sorts a_m_sheetLong a_m_cells a_m_kind a_m_wet a_m_readKind a_m_readWet a_m_keptWet a_m_readCells a_m_readHours a_m_readCracked m_fault m_trace m_sorts m_sheetLong m_cells m_sun m_wide m_deep m_hour m_kind m_wet m_at m_readSun m_readWide m_readDeep m_readKind m_readWet m_keptWet m_keptSun m_openFirst m_planHours m_readings m_readCells m_readHours m_readCracked) := by
  refine Ct_of (by decide) (Nat.le_of_ble_eq_true rfl) ?_
  intro p e s m args below meth c A ls Cc hK hA hP hD hS hl
  have hl : lv_has ls 3 [(0, .ref a_m), (1, .int p1), (2, .int p2)] := hl
  obtain ⟨hx, hb, hr, hml, hown, hts, hlk, hnw⟩ := id Cc
  unfold fX5_refusesPair at hf
  refine lv_iload_n hx hb dX5_refusesPair_0 rfl (lv_at hl 1 rfl) ?_
  refine lv_iconst (v := (0 : Int32)) hx hb dX5_refusesPair_1 (by decide) ?_
  refine lv_iconst (v := (2 : Int32)) hx hb dX5_refusesPair_2 (by decide) ?_
  obtain ⟨q3_1, hq1, hf⟩ := Option.bind_eq_some_iff.mp hf
  refine cSt (ws' := (W_m cI cS a_m a_m_sorts a_m_sheetLong a_m_cells a_m_kind a_m_wet a_m_readKind a_m_readWet a_m_keptWet a_m_readCells a_m_readHours a_m_readCracked m_fault m_trace m_sorts m_sheetLong m_cells m_sun m_wide m_deep m_hour m_kind m_wet m_at m_readSun m_readWide m_readDeep m_readKind m_readWet m_keptWet m_keptSun m_openFirst m_planHours m_readings m_readCells m_readHours m_readCracked)) (rest := []) (st1 := [.int q3_1]) Cc hK hA hP hD hS hl.1 (ctX5_within l D cI cS   p1 (0 : Int32) (2 : Int32) n q3_1 hq1) ⟨tw_588, tw_586, tw_587, tw_6⟩ mdX5_within ⟨rfl, rfl, Nat.le_of_ble_eq_true rfl, Nat.le_of_ble_eq_true rfl⟩ rfl dX5_refusesPair_3 rfl (Nat.le_of_ble_eq_true rfl) ⟨Nat.zero_le _, Nat.zero_le _⟩ rfl [] [0, 1, 2, 3, 4, 5, 6, 7, 8, 9, 10, 11] [0, 1, 2, 3, 4, 5, 6, 7, 8, 9, 10, 11] rfl rfl (by decide) rfl (fun H locs hP hD hS => ?_)
  refine lv_if_eq (tgt := 21) hx hb dX5_refusesPair_6 (by decide) (fun hc2 => ?_) (fun hc2 => ?_)
  · replace hf := (if_pos hc2).symm.trans hf
    refine lv_bipush (v := (-2 : Int32)) hx hb dX5_refusesPair_21 (by decide) ?_
    obtain rfl := Option.some.inj hf
    exact rt_i Cc hK hP hD hS dX5_refusesPair_23
  · replace hf := (if_neg hc2).symm.trans hf
    refine lv_iload_n hx hb dX5_refusesPair_9 rfl (lv_at hl 1 rfl) ?_
    refine lv_iconst (v := (1 : Int32)) hx hb dX5_refusesPair_10 (by decide) ?_
    refine lv_icmp_eq (tgt := 24) hx hb dX5_refusesPair_11 (by decide) (fun hc3 => ?_) (fun hc3 => ?_)
    · replace hf := (if_pos hc3).symm.trans hf
      exact bX5_refusesPair_24 a_m a_m_sorts a_m_sheetLong a_m_cells a_m_kind a_m_wet a_m_readKind a_m_readWet a_m_keptWet a_m_readCells a_m_readHours a_m_readCracked m_fault m_trace m_sorts m_sheetLong m_cells m_sun m_hour m_kind m_wet m_at m_readSun m_readWide m_readDeep m_readKind m_readWet m_keptWet m_keptSun m_openFirst m_planHours m_readings m_readCells m_readHours m_readCracked Cc hK hA n _ _ _ _ _ hf _ _ _ hP hD hS (lv_sub hl [0, 1, 2] rfl)
    · replace hf := (if_neg hc3).symm.trans hf
      refine lv_iload_n hx hb dX5_refusesPair_14 rfl (lv_at hl 2 rfl) ?_
      obtain ⟨q15_1, hq7, hf⟩ := Option.bind_eq_some_iff.mp hf
      refine cSt (ws' := (W_m cI cS a_m a_m_sorts a_m_sheetLong a_m_cells a_m_kind a_m_wet a_m_readKind a_m_readWet a_m_keptWet a_m_readCells a_m_readHours a_m_readCracked m_fault m_trace m_sorts m_sheetLong m_cells m_sun m_wide m_deep m_hour m_kind m_wet m_at m_readSun m_readWide m_readDeep m_readKind m_readWet m_keptWet m_keptSun m_openFirst m_planHours m_readings m_readCells m_readHours m_readCracked)) (rest := []) (st1 := [.int q15_1]) Cc hK hA hP hD hS hl.1 (ctX5_isDigit l D cI cS   p2 n q15_1 hq7) ⟨tw_664, tw_662, tw_663, tw_6⟩ mdX5_isDigit ⟨rfl, rfl, Nat.le_of_ble_eq_true rfl, Nat.le_of_ble_eq_true rfl⟩ rfl dX5_refusesPair_15 rfl (Nat.le_of_ble_eq_true rfl) ⟨Nat.zero_le _, Nat.zero_le _⟩ rfl [] [0, 1, 2, 3, 4, 5, 6, 7, 8, 9, 10, 11] [0, 1, 2, 3, 4, 5, 6, 7, 8, 9, 10, 11] rfl rfl (by decide) rfl (fun H locs hP hD hS => ?_)
      refine lv_if_ne (tgt := 24) hx hb dX5_refusesPair_18 (by decide) (fun hc8 => ?_) (fun hc8 => ?_)
      · replace hf := (if_neg hc8).symm.trans hf
        exact bX5_refusesPair_24 a_m a_m_sorts a_m_sheetLong a_m_cells a_m_kind a_m_wet a_m_readKind a_m_readWet a_m_keptWet a_m_readCells a_m_readHours a_m_readCracked m_fault m_trace m_sorts m_sheetLong m_cells m_sun m_hour m_kind m_wet m_at m_readSun m_readWide m_readDeep m_readKind m_readWet m_keptWet m_keptSun m_openFirst m_planHours m_readings m_readCells m_readHours m_readCracked Cc hK hA n _ _ _ _ _ hf _ _ _ hP hD hS (lv_sub hl [0, 1, 2] rfl)
      · replace hf := (if_pos hc8).symm.trans hf
        refine lv_bipush (v := (-2 : Int32)) hx hb dX5_refusesPair_21 (by decide) ?_
        obtain rfl := Option.some.inj hf
        exact rt_i Cc hK hP hD hS dX5_refusesPair_23
-- X5_noteOpen
def fX5_noteOpen (n : Nat) (m_sun : Int32) (m_wide : Int32) (m_deep : Int32) (m_kind : Nat → Int32) (m_wet : Nat → Int32) (m_openFirst : Int32) (m_planHours : Int32)  : Option (Int32) := if m_openFirst = (-9 : Int32) then (fX5_crackedBehind n m_sun m_wide m_deep m_kind m_wet (0 : Int32)).bind fun q12_1 => (fX5_isOpen n m_wide m_deep q12_1).bind fun q15_2 => if q15_2 = 0 then some (m_openFirst) else some (m_planHours) else some (m_openFirst)
theorem mdX5_noteOpen : yX5_noteOpen.cls = RX5 ∧ yX5_noteOpen.cls ≠ "java/lang/invoke/MethodHandle" ∧ yX5_noteOpen.cls ≠ "java/lang/invoke/VarHandle" ∧ (parseMethodDescriptor yX5_noteOpen.desc).map (fun d => d.parameters.length) = some 0 := by decide +kernel
set_option maxHeartbeats 4000000 in
set_option maxRecDepth 100000 in
theorem ctX5_noteOpen (l : Launch) (D : va_G) (cI cS : ClassId) (a_m a_m_sorts a_m_sheetLong a_m_cells a_m_kind a_m_wet a_m_readKind a_m_readWet a_m_keptWet a_m_readCells a_m_readHours a_m_readCracked : Nat) (m_fault : Int32) (m_trace : Int32) (m_sorts : Nat → Int32) (m_sheetLong : Nat → Int32) (m_cells : Nat → Int32) (m_sun : Int32) (m_wide : Int32) (m_deep : Int32) (m_hour : Int32) (m_kind : Nat → Int32) (m_wet : Nat → Int32) (m_at : Int32) (m_readSun : Int32) (m_readWide : Int32) (m_readDeep : Int32) (m_readKind : Nat → Int32) (m_readWet : Nat → Int32) (m_keptWet : Nat → Int32) (m_keptSun : Int32) (m_openFirst : Int32) (m_planHours : Int32) (m_readings : Int32) (m_readCells : Nat → Int32) (m_readHours : Nat → Int32) (m_readCracked : Nat → Int32)  (n : Nat) (m_openFirst' : Int32) (hf : fX5_noteOpen n m_sun m_wide m_deep m_kind m_wet m_openFirst m_planHours  = some (m_openFirst')) : Ct l D (tysA cI cS) yX5_noteOpen cX5_noteOpen 1 none (Rm 4) [.ref a_m] (W_m cI cS a_m a_m_sorts a_m_sheetLong a_m_cells a_m_kind a_m_wet a_m_readKind a_m_readWet a_m_keptWet a_m_readCells a_m_readHours a_m_readCracked m_fault m_trace m_sorts m_sheetLong m_cells m_sun m_wide m_deep m_hour m_kind m_wet m_at m_readSun m_readWide m_readDeep m_readKind m_readWet m_keptWet m_keptSun m_openFirst m_planHours m_readings m_readCells m_readHours m_readCracked) none (W_m cI cS a_m a_m_sorts a_m_sheetLong a_m_cells a_m_kind a_m_wet a_m_readKind a_m_readWet a_m_keptWet a_m_readCells a_m_readHours a_m_readCracked m_fault m_trace m_sorts m_sheetLong m_cells m_sun m_wide m_deep m_hour m_kind m_wet m_at m_readSun m_readWide m_readDeep m_readKind m_readWet m_keptWet m_keptSun m_openFirst' m_planHours m_readings m_readCells m_readHours m_readCracked) := by
  refine Ct_of (by decide) (Nat.le_of_ble_eq_true rfl) ?_
  intro p e s m args below meth c A ls Cc hK hA hP hD hS hl
  have hl : lv_has ls 1 [(0, .ref a_m)] := hl
  obtain ⟨hx, hb, hr, hml, hown, hts, hlk, hnw⟩ := id Cc
  unfold fX5_noteOpen at hf
  refine lv_aload_n hx hb dX5_noteOpen_0 rfl (lv_at hl 0 rfl) ?_
  refine va_get (D := D) (ci := 5) (v := .int m_openFirst) (C := RX5) (T := TX5) (N := 25) hx hb hts inX5 hown hK hP 0 rfl rfl 19 (by decide) (hts _ tw_522) (fun _ h9 => h9) rfl dX5_noteOpen_1 ?_
  refine lv_bipush (v := (-9 : Int32)) hx hb dX5_noteOpen_4 (by decide) ?_
  refine lv_icmp_ne (tgt := 29) hx hb dX5_noteOpen_6 (by decide) (fun hc1 => ?_) (fun hc1 => ?_)
  · replace hf := (if_neg hc1).symm.trans hf
    obtain rfl := Option.some.inj hf
    exact rt_v Cc hK hP hD hS dX5_noteOpen_29
  · replace hf := (if_pos hc1).symm.trans hf
    refine lv_aload_n hx hb dX5_noteOpen_9 rfl (lv_at hl 0 rfl) ?_
    refine lv_aload_n hx hb dX5_noteOpen_10 rfl (lv_at hl 0 rfl) ?_
    refine lv_iconst (v := (0 : Int32)) hx hb dX5_noteOpen_11 (by decide) ?_
    obtain ⟨q12_1, hq2, hf⟩ := Option.bind_eq_some_iff.mp hf
    refine cV (ws' := (W_m cI cS a_m a_m_sorts a_m_sheetLong a_m_cells a_m_kind a_m_wet a_m_readKind a_m_readWet a_m_keptWet a_m_readCells a_m_readHours a_m_readCracked m_fault m_trace m_sorts m_sheetLong m_cells m_sun m_wide m_deep m_hour m_kind m_wet m_at m_readSun m_readWide m_readDeep m_readKind m_readWet m_keptWet m_keptSun m_openFirst m_planHours m_readings m_readCells m_readHours m_readCracked)) (rest := [.ref a_m]) (st1 := [.int q12_1, .ref a_m]) Cc hK hA hP hD hS hl.1 (ctX5_crackedBehind l D cI cS a_m a_m_sorts a_m_sheetLong a_m_cells a_m_kind a_m_wet a_m_readKind a_m_readWet a_m_keptWet a_m_readCells a_m_readHours a_m_readCracked m_fault m_trace m_sorts m_sheetLong m_cells m_sun m_wide m_deep m_hour m_kind m_wet m_at m_readSun m_readWide m_readDeep m_readKind m_readWet m_keptWet m_keptSun m_openFirst m_planHours m_readings m_readCells m_readHours m_readCracked (0 : Int32) n q12_1 hq2) ⟨tw_639, tw_636, tw_638, tp_21, tw_6⟩ mdX5_crackedBehind ⟨rfl, rfl, Nat.le_of_ble_eq_true rfl, Nat.le_of_ble_eq_true rfl⟩ rfl dX5_noteOpen_12 rfl (Nat.le_of_ble_eq_true rfl) ⟨Nat.zero_le _, Nat.zero_le _⟩ rfl rfl rfl [0, 1, 2, 3, 4, 5, 6, 7, 8, 9, 10, 11] [] [0, 1, 2, 3, 4, 5, 6, 7, 8, 9, 10, 11] rfl rfl (by decide) rfl (fun H locs hP hD hS => ?_)
    obtain ⟨q15_2, hq3, hf⟩ := Option.bind_eq_some_iff.mp hf
    refine cV (ws' := (W_m cI cS a_m a_m_sorts a_m_sheetLong a_m_cells a_m_kind a_m_wet a_m_readKind a_m_readWet a_m_keptWet a_m_readCells a_m_readHours a_m_readCracked m_fault m_trace m_sorts m_sheetLong m_cells m_sun m_wide m_deep m_hour m_kind m_wet m_at m_readSun m_readWide m_readDeep m_readKind m_readWet m_keptWet m_keptSun m_openFirst m_planHours m_readings m_readCells m_readHours m_readCracked)) (rest := []) (st1 := [.int q15_2]) Cc hK hA hP hD hS hl.1 (ctX5_isOpen l D cI cS a_m a_m_sorts a_m_sheetLong a_m_cells a_m_kind a_m_wet a_m_readKind a_m_readWet a_m_keptWet a_m_readCells a_m_readHours a_m_readCracked m_fault m_trace m_sorts m_sheetLong m_cells m_sun m_wide m_deep m_hour m_kind m_wet m_at m_readSun m_readWide m_readDeep m_readKind m_readWet m_keptWet m_keptSun m_openFirst m_planHours m_readings m_readCells m_readHours m_readCracked q12_1 n q15_2 hq3) ⟨tw_692, tw_689, tw_691, tp_27, tw_6⟩ mdX5_isOpen ⟨rfl, rfl, Nat.le_of_ble_eq_true rfl, Nat.le_of_ble_eq_true rfl⟩ rfl dX5_noteOpen_15 rfl (Nat.le_of_ble_eq_true rfl) ⟨Nat.zero_le _, Nat.zero_le _⟩ rfl rfl rfl [0, 1, 2, 3, 4, 5, 6, 7, 8, 9, 10, 11] [] [0, 1, 2, 3, 4, 5, 6, 7, 8, 9, 10, 11] rfl rfl (by decide) rfl (fun H locs hP hD hS => ?_)
    refine lv_if_eq (tgt := 29) hx hb dX5_noteOpen_18 (by decide) (fun hc4 => ?_) (fun hc4 => ?_)
    · replace hf := (if_pos hc4).symm.trans hf
      obtain rfl := Option.some.inj hf
      exact rt_v Cc hK hP hD hS dX5_noteOpen_29
    · replace hf := (if_neg hc4).symm.trans hf
      refine lv_aload_n hx hb dX5_noteOpen_21 rfl (lv_at hl 0 rfl) ?_
      refine lv_aload_n hx hb dX5_noteOpen_22 rfl (lv_at hl 0 rfl) ?_
      refine va_get (D := D) (ci := 5) (v := .int m_planHours) (C := RX5) (T := TX5) (N := 25) hx hb hts inX5 hown hK hP 0 rfl rfl 20 (by decide) (hts _ tw_523) (fun _ h9 => h9) rfl dX5_noteOpen_23 ?_
      refine va_put (D := D) (ci := 5) (v := .int m_planHours) (ty := .int) (C := RX5) (T := TX5) (N := 25) hx hb hts inX5 tyX5 tyX5_ok nmX5 hown hK hP hD hS 0 rfl rfl 19 (by decide) (hts _ tw_522) (fun _ h9 => h9) rfl (tyX5_ok 19 (by decide)) rfl rfl (Nat.le_of_ble_eq_true rfl) dX5_noteOpen_26 (fun H locs hP hD hS => ?_)
      have hP : va_P D classes (W_m cI cS a_m a_m_sorts a_m_sheetLong a_m_cells a_m_kind a_m_wet a_m_readKind a_m_readWet a_m_keptWet a_m_readCells a_m_readHours a_m_readCracked m_fault m_trace m_sorts m_sheetLong m_cells m_sun m_wide m_deep m_hour m_kind m_wet m_at m_readSun m_readWide m_readDeep m_readKind m_readWet m_keptWet m_keptSun m_planHours m_planHours m_readings m_readCells m_readHours m_readCracked) H := hP
      have hD : va_D A (W_m cI cS a_m a_m_sorts a_m_sheetLong a_m_cells a_m_kind a_m_wet a_m_readKind a_m_readWet a_m_keptWet a_m_readCells a_m_readHours a_m_readCracked m_fault m_trace m_sorts m_sheetLong m_cells m_sun m_wide m_deep m_hour m_kind m_wet m_at m_readSun m_readWide m_readDeep m_readKind m_readWet m_keptWet m_keptSun m_planHours m_planHours m_readings m_readCells m_readHours m_readCracked) := hD
      obtain rfl := Option.some.inj hf
      exact rt_v Cc hK hP hD hS dX5_noteOpen_29
-- X5_does
def fX5_does_35 (n : Nat) : Nat → Int32 → Int32 → Int32 → (Nat → Int32) → (Nat → Int32) → Int32 → Int32 → Int32 → Int32 → Int32 → Option (Int32 × Int32 × (Nat → Int32) × Int32 × Int32)
  | 0, _, _, _, _, _, _, _, _, _, _ => none
  | k + 1, m_sun, m_wide, m_deep, m_kind, m_wet, m_openFirst, m_planHours, x1, x2, x3 => if x2 ≤ x3 then some ((1 : Int32), m_sun, m_wet, m_openFirst, m_planHours) else if x1 = 0 then (fX5_dryBy n m_sun m_wide m_deep m_kind m_wet (1 : Int32)).bind fun q46_1 => (fX5_noteOpen n m_sun m_wide m_deep m_kind q46_1 m_openFirst (m_planHours + (1 : Int32))).bind fun q60_2 => fX5_does_35 n k m_sun m_wide m_deep m_kind q46_1 q60_2 (m_planHours + (1 : Int32)) x1 x2 (x3 + 1) else some ((1 : Int32), m_sun, m_wet, m_openFirst, m_planHours)
def fX5_does_33 (n : Nat) (m_sun : Int32) (m_wide : Int32) (m_deep : Int32) (m_kind : Nat → Int32) (m_wet : Nat → Int32) (m_openFirst : Int32) (m_planHours : Int32) (x1 : Int32) (x2 : Int32) : Option (Int32 × Int32 × (Nat → Int32) × Int32 × Int32) := fX5_does_35 n n m_sun m_wide m_deep m_kind m_wet m_openFirst m_planHours x1 x2 (0 : Int32)
def fX5_does_23 (n : Nat) (m_sun : Int32) (m_wide : Int32) (m_deep : Int32) (m_kind : Nat → Int32) (m_wet : Nat → Int32) (m_openFirst : Int32) (m_planHours : Int32) (x1 : Int32) (x2 : Int32) : Option (Int32 × Int32 × (Nat → Int32) × Int32 × Int32) := if x1 = (2 : Int32) then fX5_does_33 n x2 m_wide m_deep m_kind m_wet m_openFirst m_planHours x1 x2 else fX5_does_33 n m_sun m_wide m_deep m_kind m_wet m_openFirst m_planHours x1 x2
def fX5_does (n : Nat) (m_sun : Int32) (m_wide : Int32) (m_deep : Int32) (m_kind : Nat → Int32) (m_wet : Nat → Int32) (m_openFirst : Int32) (m_planHours : Int32) (p1 : Int32) (p2 : Int32) : Option (Int32 × Int32 × (Nat → Int32) × Int32 × Int32) := if p1 = (1 : Int32) then gd p2 12 (if (m_wet p2.toNatClampNeg) = 0 then some ((0 : Int32), m_sun, m_wet, m_openFirst, m_planHours) else (fX5_pouredOn n m_wet p2 (3 : Int32)).bind fun q19_1 => fX5_does_23 n m_sun m_wide m_deep m_kind q19_1.2 m_openFirst m_planHours p1 p2) else fX5_does_23 n m_sun m_wide m_deep m_kind m_wet m_openFirst m_planHours p1 p2
theorem mdX5_does : yX5_does.cls = RX5 ∧ yX5_does.cls ≠ "java/lang/invoke/MethodHandle" ∧ yX5_does.cls ≠ "java/lang/invoke/VarHandle" ∧ (parseMethodDescriptor yX5_does.desc).map (fun d => d.parameters.length) = some 2 := by decide +kernel
set_option maxHeartbeats 4000000 in
set_option maxRecDepth 100000 in
theorem bX5_does_35 {p : Program} {l : Launch} {e : Env} {s : State} {m : MethodId} {args : Array Value} {below : List Frame} {meth : Method} {c : Code} {A : Nat → Prop} {D : va_G} {cI cS : ClassId} (a_m a_m_sorts a_m_sheetLong a_m_cells a_m_kind a_m_wet a_m_readKind a_m_readWet a_m_keptWet a_m_readCells a_m_readHours a_m_readCracked : Nat) (m_fault : Int32) (m_trace : Int32) (m_sorts : Nat → Int32) (m_sheetLong : Nat → Int32) (m_cells : Nat → Int32) (m_hour : Int32) (m_at : Int32) (m_readSun : Int32) (m_readWide : Int32) (m_readDeep : Int32) (m_readKind : Nat → Int32) (m_readWet : Nat → Int32) (m_keptWet : Nat → Int32) (m_keptSun : Int32) (m_readings : Int32) (m_readCells : Nat → Int32) (m_readHours : Nat → Int32) (m_readCracked : Nat → Int32) (Cc : Cx p s m args meth c RX5 cX5_does 4 (some .boolean)) (hK : va_K D classes (tysA cI cS) s) (hA : ∀ q, s.heap.size ≤ q → A q) (n : Nat) : ∀ (k : Nat) (m_sun : Int32) (m_wide : Int32) (m_deep : Int32) (m_kind : Nat → Int32) (m_wet : Nat → Int32) (m_openFirst : Int32) (m_planHours : Int32) (x1 : Int32) (x2 : Int32) (x3 : Int32) (r : Int32) (m_sun' : Int32) (m_wet' : Nat → Int32) (m_openFirst' : Int32) (m_planHours' : Int32), fX5_does_35 n k m_sun m_wide m_deep m_kind m_wet m_openFirst m_planHours x1 x2 x3 = some (r, m_sun', m_wet', m_openFirst', m_planHours') → ∀ (H : Heap) (locs : List Loc) (ls : Array Slot), va_P D classes (W_m cI cS a_m a_m_sorts a_m_sheetLong a_m_cells a_m_kind a_m_wet a_m_readKind a_m_readWet a_m_keptWet a_m_readCells a_m_readHours a_m_readCracked m_fault m_trace m_sorts m_sheetLong m_cells m_sun m_wide m_deep m_hour m_kind m_wet m_at m_readSun m_readWide m_readDeep m_readKind m_readWet m_keptWet m_keptSun m_openFirst m_planHours m_readings m_readCells m_readHours m_readCracked) H → va_D A (W_m cI cS a_m a_m_sorts a_m_sheetLong a_m_cells a_m_kind a_m_wet a_m_readKind a_m_readWet a_m_keptWet a_m_readCells a_m_readHours a_m_readCracked m_fault m_trace m_sorts m_sheetLong m_cells m_sun m_wide m_deep m_hour m_kind m_wet m_at m_readSun m_readWide m_readDeep m_readKind m_readWet m_keptWet m_keptSun m_openFirst m_planHours m_readings m_readCells m_readHours m_readCracked) → va_S A s.heap H locs → lv_has ls 4 [(0, .ref a_m), (1, .int x1), (2, .int x2), (3, .int x3)] → W p l e (Rm 5) s m args below meth c H locs 0 0 (MQ below (QW D (tysA cI cS) (some (.int r)) (W_m cI cS a_m a_m_sorts a_m_sheetLong a_m_cells a_m_kind a_m_wet a_m_readKind a_m_readWet a_m_keptWet a_m_readCells a_m_readHours a_m_readCracked m_fault m_trace m_sorts m_sheetLong m_cells m_sun' m_wide m_deep m_hour m_kind m_wet' m_at m_readSun m_readWide m_readDeep m_readKind m_readWet m_keptWet m_keptSun m_openFirst' m_planHours' m_readings m_readCells m_readHours m_readCracked) A) args s 0 0 A) (F0 m 35 ls []) := by
  obtain ⟨hx, hb, hr, hml, hown, hts, hlk, hnw⟩ := id Cc
  intro k
  induction k with
  | zero =>
    intro m_sun m_wide m_deep m_kind m_wet m_openFirst m_planHours x1 x2 x3 r m_sun' m_wet' m_openFirst' m_planHours' hf
    rw [fX5_does_35] at hf
    cases hf
  | succ k ih =>
    intro m_sun m_wide m_deep m_kind m_wet m_openFirst m_planHours x1 x2 x3 r m_sun' m_wet' m_openFirst' m_planHours' hf H locs ls hP hD hS hl
    rw [fX5_does_35] at hf
    refine lv_iload_n hx hb dX5_does_35 rfl (lv_at hl 3 rfl) ?_
    refine lv_iload_n hx hb dX5_does_36 rfl (lv_at hl 2 rfl) ?_
    refine lv_icmp_ge (tgt := 69) hx hb dX5_does_37 (by decide) (fun hc3 => ?_) (fun hc3 => ?_)
    · replace hf := (if_pos hc3).symm.trans hf
      refine lv_iconst (v := (1 : Int32)) hx hb dX5_does_69 (by decide) ?_
      replace hf := Option.some.inj hf
      obtain ⟨er0, er1⟩ := Prod.mk.inj hf
      obtain ⟨er2, er3⟩ := Prod.mk.inj er1
      obtain ⟨er4, er5⟩ := Prod.mk.inj er3
      obtain ⟨er6, er7⟩ := Prod.mk.inj er5
      clear hf er1 er3 er5
      subst er0
      subst er2
      subst er4
      subst er6
      subst er7
      exact rt_z Cc (by decide) hK hP hD hS dX5_does_70
    · replace hf := (if_neg hc3).symm.trans hf
      refine lv_iload_n hx hb dX5_does_40 rfl (lv_at hl 1 rfl) ?_
      refine lv_if_ne (tgt := 69) hx hb dX5_does_41 (by decide) (fun hc4 => ?_) (fun hc4 => ?_)
      · replace hf := (if_neg hc4).symm.trans hf
        refine lv_iconst (v := (1 : Int32)) hx hb dX5_does_69 (by decide) ?_
        replace hf := Option.some.inj hf
        obtain ⟨er0, er1⟩ := Prod.mk.inj hf
        obtain ⟨er2, er3⟩ := Prod.mk.inj er1
        obtain ⟨er4, er5⟩ := Prod.mk.inj er3
        obtain ⟨er6, er7⟩ := Prod.mk.inj er5
        clear hf er1 er3 er5
        subst er0
        subst er2
        subst er4
        subst er6
        subst er7
        exact rt_z Cc (by decide) hK hP hD hS dX5_does_70
      · replace hf := (if_pos hc4).symm.trans hf
        refine lv_aload_n hx hb dX5_does_44 rfl (lv_at hl 0 rfl) ?_
        refine lv_iconst (v := (1 : Int32)) hx hb dX5_does_45 (by decide) ?_
        obtain ⟨q46_1, hq5, hf⟩ := Option.bind_eq_some_iff.mp hf
        refine cV (ws' := (W_m cI cS a_m a_m_sorts a_m_sheetLong a_m_cells a_m_kind a_m_wet a_m_readKind a_m_readWet a_m_keptWet a_m_readCells a_m_readHours a_m_readCracked m_fault m_trace m_sorts m_sheetLong m_cells m_sun m_wide m_deep m_hour m_kind q46_1 m_at m_readSun m_readWide m_readDeep m_readKind m_readWet m_keptWet m_keptSun m_openFirst m_planHours m_readings m_readCells m_readHours m_readCracked)) (rest := []) (st1 := []) Cc hK hA hP hD hS hl.1 (ctX5_dryBy l D cI cS a_m a_m_sorts a_m_sheetLong a_m_cells a_m_kind a_m_wet a_m_readKind a_m_readWet a_m_keptWet a_m_readCells a_m_readHours a_m_readCracked m_fault m_trace m_sorts m_sheetLong m_cells m_sun m_wide m_deep m_hour m_kind m_wet m_at m_readSun m_readWide m_readDeep m_readKind m_readWet m_keptWet m_keptSun m_openFirst m_planHours m_readings m_readCells m_readHours m_readCracked (1 : Int32) n q46_1 hq5) ⟨tw_676, tw_673, tw_675, tp_25, tw_6⟩ mdX5_dryBy ⟨rfl, rfl, Nat.le_of_ble_eq_true rfl, Nat.le_of_ble_eq_true rfl⟩ rfl dX5_does_46 rfl (Nat.le_of_ble_eq_true rfl) ⟨Nat.zero_le _, Nat.zero_le _⟩ rfl rfl rfl [0, 1, 2, 3, 4, 5, 6, 7, 8, 9, 10, 11] [] [0, 1, 2, 3, 4, 5, 6, 7, 8, 9, 10, 11] rfl rfl (by decide) rfl (fun H locs hP hD hS => ?_)
        refine lv_aload_n hx hb dX5_does_49 rfl (lv_at hl 0 rfl) ?_
        refine lv_dup hx hb dX5_does_50 rfl ?_
        refine va_get (D := D) (ci := 5) (v := .int m_planHours) (C := RX5) (T := TX5) (N := 25) hx hb hts inX5 hown hK hP 0 rfl rfl 20 (by decide) (hts _ tw_523) (fun _ h9 => h9) rfl dX5_does_51 ?_
        refine lv_iconst (v := (1 : Int32)) hx hb dX5_does_54 (by decide) ?_
        refine lv_iadd hx hb dX5_does_55 ?_
        refine va_put (D := D) (ci := 5) (v := .int (m_planHours + (1 : Int32))) (ty := .int) (C := RX5) (T := TX5) (N := 25) hx hb hts inX5 tyX5 tyX5_ok nmX5 hown hK hP hD hS 0 rfl rfl 20 (by decide) (hts _ tw_523) (fun _ h9 => h9) rfl (tyX5_ok 20 (by decide)) rfl rfl (Nat.le_of_ble_eq_true rfl) dX5_does_56 (fun H locs hP hD hS => ?_)
        have hP : va_P D classes (W_m cI cS a_m a_m_sorts a_m_sheetLong a_m_cells a_m_kind a_m_wet a_m_readKind a_m_readWet a_m_keptWet a_m_readCells a_m_readHours a_m_readCracked m_fault m_trace m_sorts m_sheetLong m_cells m_sun m_wide m_deep m_hour m_kind q46_1 m_at m_readSun m_readWide m_readDeep m_readKind m_readWet m_keptWet m_keptSun m_openFirst (m_planHours + (1 : Int32)) m_readings m_readCells m_readHours m_readCracked) H := hP
        have hD : va_D A (W_m cI cS a_m a_m_sorts a_m_sheetLong a_m_cells a_m_kind a_m_wet a_m_readKind a_m_readWet a_m_keptWet a_m_readCells a_m_readHours a_m_readCracked m_fault m_trace m_sorts m_sheetLong m_cells m_sun m_wide m_deep m_hour m_kind q46_1 m_at m_readSun m_readWide m_readDeep m_readKind m_readWet m_keptWet m_keptSun m_openFirst (m_planHours + (1 : Int32)) m_readings m_readCells m_readHours m_readCracked) := hD
        refine lv_aload_n hx hb dX5_does_59 rfl (lv_at hl 0 rfl) ?_
        obtain ⟨q60_2, hq6, hf⟩ := Option.bind_eq_some_iff.mp hf
        refine cV (ws' := (W_m cI cS a_m a_m_sorts a_m_sheetLong a_m_cells a_m_kind a_m_wet a_m_readKind a_m_readWet a_m_keptWet a_m_readCells a_m_readHours a_m_readCracked m_fault m_trace m_sorts m_sheetLong m_cells m_sun m_wide m_deep m_hour m_kind q46_1 m_at m_readSun m_readWide m_readDeep m_readKind m_readWet m_keptWet m_keptSun q60_2 (m_planHours + (1 : Int32)) m_readings m_readCells m_readHours m_readCracked)) (rest := []) (st1 := []) Cc hK hA hP hD hS hl.1 (ctX5_noteOpen l D cI cS a_m a_m_sorts a_m_sheetLong a_m_cells a_m_kind a_m_wet a_m_readKind a_m_readWet a_m_keptWet a_m_readCells a_m_readHours a_m_readCracked m_fault m_trace m_sorts m_sheetLong m_cells m_sun m_wide m_deep m_hour m_kind q46_1 m_at m_readSun m_readWide m_readDeep m_readKind m_readWet m_keptWet m_keptSun m_openFirst (m_planHours + (1 : Int32)) m_readings m_readCells m_readHours m_readCracked  n q60_2 hq6) ⟨tw_716, tw_713, tw_715, tp_31, tw_6⟩ mdX5_noteOpen ⟨rfl, rfl, Nat.le_of_ble_eq_true rfl, Nat.le_of_ble_eq_true rfl⟩ rfl dX5_does_60 rfl (Nat.le_of_ble_eq_true rfl) ⟨Nat.zero_le _, Nat.zero_le _⟩ rfl rfl rfl [0, 1, 2, 3, 4, 5, 6, 7, 8, 9, 10, 11] [] [0, 1, 2, 3, 4, 5, 6, 7, 8, 9, 10, 11] rfl rfl (by decide) rfl (fun H locs hP hD hS => ?_)
        refine lv_iinc (v := (x3 + 1)) (lv' := [(3, .int (x3 + 1)), (0, .ref a_m), (1, .int x1), (2, .int x2)]) hx hb dX5_does_63 hl (k := 3) rfl rfl (by decide) rfl (fun ls hl => ?_)
        refine lv_goto (tgt := 35) hx hb dX5_does_66 (by decide) ?_
        exact ih _ _ _ _ _ _ _ _ _ _ _ _ _ _ _ hf _ _ _ hP hD hS (lv_sub hl [1, 2, 3, 0] rfl)
set_option maxHeartbeats 4000000 in
set_option maxRecDepth 100000 in
theorem bX5_does_33 {p : Program} {l : Launch} {e : Env} {s : State} {m : MethodId} {args : Array Value} {below : List Frame} {meth : Method} {c : Code} {A : Nat → Prop} {D : va_G} {cI cS : ClassId} (a_m a_m_sorts a_m_sheetLong a_m_cells a_m_kind a_m_wet a_m_readKind a_m_readWet a_m_keptWet a_m_readCells a_m_readHours a_m_readCracked : Nat) (m_fault : Int32) (m_trace : Int32) (m_sorts : Nat → Int32) (m_sheetLong : Nat → Int32) (m_cells : Nat → Int32) (m_hour : Int32) (m_at : Int32) (m_readSun : Int32) (m_readWide : Int32) (m_readDeep : Int32) (m_readKind : Nat → Int32) (m_readWet : Nat → Int32) (m_keptWet : Nat → Int32) (m_keptSun : Int32) (m_readings : Int32) (m_readCells : Nat → Int32) (m_readHours : Nat → Int32) (m_readCracked : Nat → Int32) (Cc : Cx p s m args meth c RX5 cX5_does 4 (some .boolean)) (hK : va_K D classes (tysA cI cS) s) (hA : ∀ q, s.heap.size ≤ q → A q) (n : Nat) : ∀ (m_sun : Int32) (m_wide : Int32) (m_deep : Int32) (m_kind : Nat → Int32) (m_wet : Nat → Int32) (m_openFirst : Int32) (m_planHours : Int32) (x1 : Int32) (x2 : Int32) (r : Int32) (m_sun' : Int32) (m_wet' : Nat → Int32) (m_openFirst' : Int32) (m_planHours' : Int32), fX5_does_33 n m_sun m_wide m_deep m_kind m_wet m_openFirst m_planHours x1 x2 = some (r, m_sun', m_wet', m_openFirst', m_planHours') → ∀ (H : Heap) (locs : List Loc) (ls : Array Slot), va_P D classes (W_m cI cS a_m a_m_sorts a_m_sheetLong a_m_cells a_m_kind a_m_wet a_m_readKind a_m_readWet a_m_keptWet a_m_readCells a_m_readHours a_m_readCracked m_fault m_trace m_sorts m_sheetLong m_cells m_sun m_wide m_deep m_hour m_kind m_wet m_at m_readSun m_readWide m_readDeep m_readKind m_readWet m_keptWet m_keptSun m_openFirst m_planHours m_readings m_readCells m_readHours m_readCracked) H → va_D A (W_m cI cS a_m a_m_sorts a_m_sheetLong a_m_cells a_m_kind a_m_wet a_m_readKind a_m_readWet a_m_keptWet a_m_readCells a_m_readHours a_m_readCracked m_fault m_trace m_sorts m_sheetLong m_cells m_sun m_wide m_deep m_hour m_kind m_wet m_at m_readSun m_readWide m_readDeep m_readKind m_readWet m_keptWet m_keptSun m_openFirst m_planHours m_readings m_readCells m_readHours m_readCracked) → va_S A s.heap H locs → lv_has ls 4 [(0, .ref a_m), (1, .int x1), (2, .int x2)] → W p l e (Rm 5) s m args below meth c H locs 0 0 (MQ below (QW D (tysA cI cS) (some (.int r)) (W_m cI cS a_m a_m_sorts a_m_sheetLong a_m_cells a_m_kind a_m_wet a_m_readKind a_m_readWet a_m_keptWet a_m_readCells a_m_readHours a_m_readCracked m_fault m_trace m_sorts m_sheetLong m_cells m_sun' m_wide m_deep m_hour m_kind m_wet' m_at m_readSun m_readWide m_readDeep m_readKind m_readWet m_keptWet m_keptSun m_openFirst' m_planHours' m_readings m_readCells m_readHours m_readCracked) A) args s 0 0 A) (F0 m 33 ls []) := by
  obtain ⟨hx, hb, hr, hml, hown, hts, hlk, hnw⟩ := id Cc
  intro m_sun m_wide m_deep m_kind m_wet m_openFirst m_planHours x1 x2 r m_sun' m_wet' m_openFirst' m_planHours' hf H locs ls hP hD hS hl
  unfold fX5_does_33 at hf
  refine lv_iconst (v := (0 : Int32)) hx hb dX5_does_33 (by decide) ?_
  refine lv_istore_n (lv' := [(3, .int (0 : Int32)), (0, .ref a_m), (1, .int x1), (2, .int x2)]) hx hb dX5_does_34 rfl hl (by decide) rfl (fun ls hl => ?_)
  exact bX5_does_35 a_m a_m_sorts a_m_sheetLong a_m_cells a_m_kind a_m_wet a_m_readKind a_m_readWet a_m_keptWet a_m_readCells a_m_readHours a_m_readCracked m_fault m_trace m_sorts m_sheetLong m_cells m_hour m_at m_readSun m_readWide m_readDeep m_readKind m_readWet m_keptWet m_keptSun m_readings m_readCells m_readHours m_readCracked Cc hK hA n n _ _ _ _ _ _ _ _ _ _ _ _ _ _ _ hf _ _ _ hP hD hS (lv_sub hl [1, 2, 3, 0] rfl)
set_option maxHeartbeats 4000000 in
set_option maxRecDepth 100000 in
theorem bX5_does_23 {p : Program} {l : Launch} {e : Env} {s : State} {m : MethodId} {args : Array Value} {below : List Frame} {meth : Method} {c : Code} {A : Nat → Prop} {D : va_G} {cI cS : ClassId} (a_m a_m_sorts a_m_sheetLong a_m_cells a_m_kind a_m_wet a_m_readKind a_m_readWet a_m_keptWet a_m_readCells a_m_readHours a_m_readCracked : Nat) (m_fault : Int32) (m_trace : Int32) (m_sorts : Nat → Int32) (m_sheetLong : Nat → Int32) (m_cells : Nat → Int32) (m_hour : Int32) (m_at : Int32) (m_readSun : Int32) (m_readWide : Int32) (m_readDeep : Int32) (m_readKind : Nat → Int32) (m_readWet : Nat → Int32) (m_keptWet : Nat → Int32) (m_keptSun : Int32) (m_readings : Int32) (m_readCells : Nat → Int32) (m_readHours : Nat → Int32) (m_readCracked : Nat → Int32) (Cc : Cx p s m args meth c RX5 cX5_does 4 (some .boolean)) (hK : va_K D classes (tysA cI cS) s) (hA : ∀ q, s.heap.size ≤ q → A q) (n : Nat) : ∀ (m_sun : Int32) (m_wide : Int32) (m_deep : Int32) (m_kind : Nat → Int32) (m_wet : Nat → Int32) (m_openFirst : Int32) (m_planHours : Int32) (x1 : Int32) (x2 : Int32) (r : Int32) (m_sun' : Int32) (m_wet' : Nat → Int32) (m_openFirst' : Int32) (m_planHours' : Int32), fX5_does_23 n m_sun m_wide m_deep m_kind m_wet m_openFirst m_planHours x1 x2 = some (r, m_sun', m_wet', m_openFirst', m_planHours') → ∀ (H : Heap) (locs : List Loc) (ls : Array Slot), va_P D classes (W_m cI cS a_m a_m_sorts a_m_sheetLong a_m_cells a_m_kind a_m_wet a_m_readKind a_m_readWet a_m_keptWet a_m_readCells a_m_readHours a_m_readCracked m_fault m_trace m_sorts m_sheetLong m_cells m_sun m_wide m_deep m_hour m_kind m_wet m_at m_readSun m_readWide m_readDeep m_readKind m_readWet m_keptWet m_keptSun m_openFirst m_planHours m_readings m_readCells m_readHours m_readCracked) H → va_D A (W_m cI cS a_m a_m_sorts a_m_sheetLong a_m_cells a_m_kind a_m_wet a_m_readKind a_m_readWet a_m_keptWet a_m_readCells a_m_readHours a_m_readCracked m_fault m_trace m_sorts m_sheetLong m_cells m_sun m_wide m_deep m_hour m_kind m_wet m_at m_readSun m_readWide m_readDeep m_readKind m_readWet m_keptWet m_keptSun m_openFirst m_planHours m_readings m_readCells m_readHours m_readCracked) → va_S A s.heap H locs → lv_has ls 4 [(0, .ref a_m), (1, .int x1), (2, .int x2)] → W p l e (Rm 5) s m args below meth c H locs 0 0 (MQ below (QW D (tysA cI cS) (some (.int r)) (W_m cI cS a_m a_m_sorts a_m_sheetLong a_m_cells a_m_kind a_m_wet a_m_readKind a_m_readWet a_m_keptWet a_m_readCells a_m_readHours a_m_readCracked m_fault m_trace m_sorts m_sheetLong m_cells m_sun' m_wide m_deep m_hour m_kind m_wet' m_at m_readSun m_readWide m_readDeep m_readKind m_readWet m_keptWet m_keptSun m_openFirst' m_planHours' m_readings m_readCells m_readHours m_readCracked) A) args s 0 0 A) (F0 m 23 ls []) := by
  obtain ⟨hx, hb, hr, hml, hown, hts, hlk, hnw⟩ := id Cc
  intro m_sun m_wide m_deep m_kind m_wet m_openFirst m_planHours x1 x2 r m_sun' m_wet' m_openFirst' m_planHours' hf H locs ls hP hD hS hl
  unfold fX5_does_23 at hf
  refine lv_iload_n hx hb dX5_does_23 rfl (lv_at hl 1 rfl) ?_
  refine lv_iconst (v := (2 : Int32)) hx hb dX5_does_24 (by decide) ?_
  refine lv_icmp_ne (tgt := 33) hx hb dX5_does_25 (by decide) (fun hc2 => ?_) (fun hc2 => ?_)
  · replace hf := (if_neg hc2).symm.trans hf
    exact bX5_does_33 a_m a_m_sorts a_m_sheetLong a_m_cells a_m_kind a_m_wet a_m_readKind a_m_readWet a_m_keptWet a_m_readCells a_m_readHours a_m_readCracked m_fault m_trace m_sorts m_sheetLong m_cells m_hour m_at m_readSun m_readWide m_readDeep m_readKind m_readWet m_keptWet m_keptSun m_readings m_readCells m_readHours m_readCracked Cc hK hA n _ _ _ _ _ _ _ _ _ _ _ _ _ _ hf _ _ _ hP hD hS (lv_sub hl [0, 1, 2] rfl)
  · replace hf := (if_pos hc2).symm.trans hf
    refine lv_aload_n hx hb dX5_does_28 rfl (lv_at hl 0 rfl) ?_
    refine lv_iload_n hx hb dX5_does_29 rfl (lv_at hl 2 rfl) ?_
    refine va_put (D := D) (ci := 5) (v := .int x2) (ty := .int) (C := RX5) (T := TX5) (N := 25) hx hb hts inX5 tyX5 tyX5_ok nmX5 hown hK hP hD hS 0 rfl rfl 5 (by decide) (hts _ tw_508) (fun _ h9 => h9) rfl (tyX5_ok 5 (by decide)) rfl rfl (Nat.le_of_ble_eq_true rfl) dX5_does_30 (fun H locs hP hD hS => ?_)
    have hP : va_P D classes (W_m cI cS a_m a_m_sorts a_m_sheetLong a_m_cells a_m_kind a_m_wet a_m_readKind a_m_readWet a_m_keptWet a_m_readCells a_m_readHours a_m_readCracked m_fault m_trace m_sorts m_sheetLong m_cells x2 m_wide m_deep m_hour m_kind m_wet m_at m_readSun m_readWide m_readDeep m_readKind m_readWet m_keptWet m_keptSun m_openFirst m_planHours m_readings m_readCells m_readHours m_readCracked) H := hP
    have hD : va_D A (W_m cI cS a_m a_m_sorts a_m_sheetLong a_m_cells a_m_kind a_m_wet a_m_readKind a_m_readWet a_m_keptWet a_m_readCells a_m_readHours a_m_readCracked m_fault m_trace m_sorts m_sheetLong m_cells x2 m_wide m_deep m_hour m_kind m_wet m_at m_readSun m_readWide m_readDeep m_readKind m_readWet m_keptWet m_keptSun m_openFirst m_planHours m_readings m_readCells m_readHours m_readCracked) := hD
    exact bX5_does_33 a_m a_m_sorts a_m_sheetLong a_m_cells a_m_kind a_m_wet a_m_readKind a_m_readWet a_m_keptWet a_m_readCells a_m_readHours a_m_readCracked m_fault m_trace m_sorts m_sheetLong m_cells m_hour m_at m_readSun m_readWide m_readDeep m_readKind m_readWet m_keptWet m_keptSun m_readings m_readCells m_readHours m_readCracked Cc hK hA n _ _ _ _ _ _ _ _ _ _ _ _ _ _ hf _ _ _ hP hD hS (lv_sub hl [0, 1, 2] rfl)
set_option maxHeartbeats 4000000 in
set_option maxRecDepth 100000 in
theorem ctX5_does (l : Launch) (D : va_G) (cI cS : ClassId) (a_m a_m_sorts a_m_sheetLong a_m_cells a_m_kind a_m_wet a_m_readKind a_m_readWet a_m_keptWet a_m_readCells a_m_readHours a_m_readCracked : Nat) (m_fault : Int32) (m_trace : Int32) (m_sorts : Nat → Int32) (m_sheetLong : Nat → Int32) (m_cells : Nat → Int32) (m_sun : Int32) (m_wide : Int32) (m_deep : Int32) (m_hour : Int32) (m_kind : Nat → Int32) (m_wet : Nat → Int32) (m_at : Int32) (m_readSun : Int32) (m_readWide : Int32) (m_readDeep : Int32) (m_readKind : Nat → Int32) (m_readWet : Nat → Int32) (m_keptWet : Nat → Int32) (m_keptSun : Int32) (m_openFirst : Int32) (m_planHours : Int32) (m_readings : Int32) (m_readCells : Nat → Int32) (m_readHours : Nat → Int32) (m_readCracked : Nat → Int32) (p1 : Int32) (p2 : Int32) (n : Nat) (r : Int32) (m_sun' : Int32) (m_wet' : Nat → Int32) (m_openFirst' : Int32) (m_planHours' : Int32) (hf : fX5_does n m_sun m_wide m_deep m_kind m_wet m_openFirst m_planHours p1 p2 = some (r, m_sun', m_wet', m_openFirst', m_planHours')) : Ct l D (tysA cI cS) yX5_does cX5_does 4 (some .boolean) (Rm 5) [.ref a_m, .int p1, .int p2] (W_m cI cS a_m a_m_sorts a_m_sheetLong a_m_cells a_m_kind a_m_wet a_m_readKind a_m_readWet a_m_keptWet a_m_readCells a_m_readHours a_m_readCracked m_fault m_trace m_sorts m_sheetLong m_cells m_sun m_wide m_deep m_hour m_kind m_wet m_at m_readSun m_readWide m_readDeep m_readKind m_readWet m_keptWet m_keptSun m_openFirst m_planHours m_readings m_readCells m_readHours m_readCracked) (some (.int r)) (W_m cI cS a_m a_m_sorts a_m_sheetLong a_m_cells a_m_kind a_m_wet a_m_readKind a_m_readWet a_m_keptWet a_m_readCells a_m_readHours a_m_readCracked m_fault m_trace m_sorts m_sheetLong m_cells m_sun' m_wide m_deep m_hour m_kind m_wet' m_at m_readSun m_readWide m_readDeep m_readKind m_readWet m_keptWet m_keptSun m_openFirst' m_planHours' m_readings m_readCells m_readHours m_readCracked) := by
  refine Ct_of (by decide) (Nat.le_of_ble_eq_true rfl) ?_
  intro p e s m args below meth c A ls Cc hK hA hP hD hS hl
  have hl : lv_has ls 4 [(0, .ref a_m), (1, .int p1), (2, .int p2)] := hl
  obtain ⟨hx, hb, hr, hml, hown, hts, hlk, hnw⟩ := id Cc
  unfold fX5_does at hf
  refine lv_iload_n hx hb dX5_does_0 rfl (lv_at hl 1 rfl) ?_
  refine lv_iconst (v := (1 : Int32)) hx hb dX5_does_1 (by decide) ?_
  refine lv_icmp_ne (tgt := 23) hx hb dX5_does_2 (by decide) (fun hc1 => ?_) (fun hc1 => ?_)
  · replace hf := (if_neg hc1).symm.trans hf
    exact bX5_does_23 a_m a_m_sorts a_m_sheetLong a_m_cells a_m_kind a_m_wet a_m_readKind a_m_readWet a_m_keptWet a_m_readCells a_m_readHours a_m_readCracked m_fault m_trace m_sorts m_sheetLong m_cells m_hour m_at m_readSun m_readWide m_readDeep m_readKind m_readWet m_keptWet m_keptSun m_readings m_readCells m_readHours m_readCracked Cc hK hA n _ _ _ _ _ _ _ _ _ _ _ _ _ _ hf _ _ _ hP hD hS (lv_sub hl [0, 1, 2] rfl)
  · replace hf := (if_pos hc1).symm.trans hf
    refine lv_aload_n hx hb dX5_does_5 rfl (lv_at hl 0 rfl) ?_
    refine va_get (D := D) (ci := 5) (v := .ref a_m_wet) (C := RX5) (T := TX5) (N := 25) hx hb hts inX5 hown hK hP 0 rfl rfl 10 (by decide) (hts _ tw_513) (fun _ h9 => h9) rfl dX5_does_6 ?_
    refine lv_iload_n hx hb dX5_does_9 rfl (lv_at hl 2 rfl) ?_
    obtain ⟨hin, hf⟩ := gd_some hf
    refine va_iald hx hb hK hP 5 0 rfl rfl hin dX5_does_10 ?_
    refine lv_if_ne (tgt := 16) hx hb dX5_does_11 (by decide) (fun hc7 => ?_) (fun hc7 => ?_)
    · replace hf := (if_neg hc7).symm.trans hf
      refine lv_aload_n hx hb dX5_does_16 rfl (lv_at hl 0 rfl) ?_
      refine lv_iload_n hx hb dX5_does_17 rfl (lv_at hl 2 rfl) ?_
      refine lv_iconst (v := (3 : Int32)) hx hb dX5_does_18 (by decide) ?_
      obtain ⟨q19_1, hq8, hf⟩ := Option.bind_eq_some_iff.mp hf
      refine cV (ws' := (W_m cI cS a_m a_m_sorts a_m_sheetLong a_m_cells a_m_kind a_m_wet a_m_readKind a_m_readWet a_m_keptWet a_m_readCells a_m_readHours a_m_readCracked m_fault m_trace m_sorts m_sheetLong m_cells m_sun m_wide m_deep m_hour m_kind q19_1.2 m_at m_readSun m_readWide m_readDeep m_readKind m_readWet m_keptWet m_keptSun m_openFirst m_planHours m_readings m_readCells m_readHours m_readCracked)) (rest := []) (st1 := [.int q19_1.1]) Cc hK hA hP hD hS hl.1 (ctX5_pouredOn l D cI cS a_m a_m_sorts a_m_sheetLong a_m_cells a_m_kind a_m_wet a_m_readKind a_m_readWet a_m_keptWet a_m_readCells a_m_readHours a_m_readCracked m_fault m_trace m_sorts m_sheetLong m_cells m_sun m_wide m_deep m_hour m_kind m_wet m_at m_readSun m_readWide m_readDeep m_readKind m_readWet m_keptWet m_keptSun m_openFirst m_planHours m_readings m_readCells m_readHours m_readCracked p2 (3 : Int32) n q19_1.1 q19_1.2 hq8) ⟨tw_684, tw_681, tw_683, tp_26, tw_6⟩ mdX5_pouredOn ⟨rfl, rfl, Nat.le_of_ble_eq_true rfl, Nat.le_of_ble_eq_true rfl⟩ rfl dX5_does_19 rfl (Nat.le_of_ble_eq_true rfl) ⟨Nat.zero_le _, Nat.zero_le _⟩ rfl rfl rfl [0, 1, 2, 3, 4, 5, 6, 7, 8, 9, 10, 11] [] [0, 1, 2, 3, 4, 5, 6, 7, 8, 9, 10, 11] rfl rfl (by decide) rfl (fun H locs hP hD hS => ?_)
      refine lv_pop hx hb dX5_does_22 rfl ?_
      exact bX5_does_23 a_m a_m_sorts a_m_sheetLong a_m_cells a_m_kind a_m_wet a_m_readKind a_m_readWet a_m_keptWet a_m_readCells a_m_readHours a_m_readCracked m_fault m_trace m_sorts m_sheetLong m_cells m_hour m_at m_readSun m_readWide m_readDeep m_readKind m_readWet m_keptWet m_keptSun m_readings m_readCells m_readHours m_readCracked Cc hK hA n _ _ _ _ _ _ _ _ _ _ _ _ _ _ hf _ _ _ hP hD hS (lv_sub hl [0, 1, 2] rfl)
    · replace hf := (if_pos hc7).symm.trans hf
      refine lv_iconst (v := (0 : Int32)) hx hb dX5_does_14 (by decide) ?_
      replace hf := Option.some.inj hf
      obtain ⟨er0, er1⟩ := Prod.mk.inj hf
      obtain ⟨er2, er3⟩ := Prod.mk.inj er1
      obtain ⟨er4, er5⟩ := Prod.mk.inj er3
      obtain ⟨er6, er7⟩ := Prod.mk.inj er5
      clear hf er1 er3 er5
      subst er0
      subst er2
      subst er4
      subst er6
      subst er7
      exact rt_z Cc (by decide) hK hP hD hS dX5_does_15
-- X5_goPlan
def fX5_goPlan_17 (n : Nat) : Nat → (Nat → Int32) → Int32 → Int32 → Int32 → (Nat → Int32) → (Nat → Int32) → Int32 → Int32 → Int32 → Int32 → Int32 → Option (Int32 × Int32 × (Nat → Int32) × Int32 × Int32)
  | 0, _, _, _, _, _, _, _, _, _, _, _ => none
  | k + 1, m_cells, m_sun, m_wide, m_deep, m_kind, m_wet, m_openFirst, m_planHours, x1, x2, x3 => if x2 ≤ x3 then some ((-9 : Int32), m_sun, m_wet, m_openFirst, m_planHours) else gd (x1 + ((2 : Int32) * x3)) 240 (gd ((x1 + ((2 : Int32) * x3)) + (1 : Int32)) 240 ((fX5_does n m_sun m_wide m_deep m_kind m_wet m_openFirst m_planHours (m_cells (x1 + ((2 : Int32) * x3)).toNatClampNeg) (m_cells ((x1 + ((2 : Int32) * x3)) + (1 : Int32)).toNatClampNeg)).bind fun q45_1 => if q45_1.1 = 0 then some (x3, q45_1.2.1, q45_1.2.2.1, q45_1.2.2.2.1, q45_1.2.2.2.2) else fX5_goPlan_17 n k m_cells q45_1.2.1 m_wide m_deep m_kind q45_1.2.2.1 q45_1.2.2.2.1 q45_1.2.2.2.2 x1 x2 (x3 + 1)))
def fX5_goPlan (n : Nat) (m_cells : Nat → Int32) (m_sun : Int32) (m_wide : Int32) (m_deep : Int32) (m_kind : Nat → Int32) (m_wet : Nat → Int32) (m_openFirst : Int32) (m_planHours : Int32) (p1 : Int32) (p2 : Int32) : Option (Int32 × Int32 × (Nat → Int32) × Int32 × Int32) := (fX5_noteOpen n m_sun m_wide m_deep m_kind m_wet (-9 : Int32) (0 : Int32)).bind fun q12_1 => fX5_goPlan_17 n n m_cells m_sun m_wide m_deep m_kind m_wet q12_1 (0 : Int32) p1 p2 (0 : Int32)
theorem mdX5_goPlan : yX5_goPlan.cls = RX5 ∧ yX5_goPlan.cls ≠ "java/lang/invoke/MethodHandle" ∧ yX5_goPlan.cls ≠ "java/lang/invoke/VarHandle" ∧ (parseMethodDescriptor yX5_goPlan.desc).map (fun d => d.parameters.length) = some 2 := by decide +kernel
set_option maxHeartbeats 4000000 in
set_option maxRecDepth 100000 in
theorem bX5_goPlan_17 {p : Program} {l : Launch} {e : Env} {s : State} {m : MethodId} {args : Array Value} {below : List Frame} {meth : Method} {c : Code} {A : Nat → Prop} {D : va_G} {cI cS : ClassId} (a_m a_m_sorts a_m_sheetLong a_m_cells a_m_kind a_m_wet a_m_readKind a_m_readWet a_m_keptWet a_m_readCells a_m_readHours a_m_readCracked : Nat) (m_fault : Int32) (m_trace : Int32) (m_sorts : Nat → Int32) (m_sheetLong : Nat → Int32) (m_hour : Int32) (m_at : Int32) (m_readSun : Int32) (m_readWide : Int32) (m_readDeep : Int32) (m_readKind : Nat → Int32) (m_readWet : Nat → Int32) (m_keptWet : Nat → Int32) (m_keptSun : Int32) (m_readings : Int32) (m_readCells : Nat → Int32) (m_readHours : Nat → Int32) (m_readCracked : Nat → Int32) (Cc : Cx p s m args meth c RX5 cX5_goPlan 4 (some .int)) (hK : va_K D classes (tysA cI cS) s) (hA : ∀ q, s.heap.size ≤ q → A q) (n : Nat) : ∀ (k : Nat) (m_cells : Nat → Int32) (m_sun : Int32) (m_wide : Int32) (m_deep : Int32) (m_kind : Nat → Int32) (m_wet : Nat → Int32) (m_openFirst : Int32) (m_planHours : Int32) (x1 : Int32) (x2 : Int32) (x3 : Int32) (r : Int32) (m_sun' : Int32) (m_wet' : Nat → Int32) (m_openFirst' : Int32) (m_planHours' : Int32), fX5_goPlan_17 n k m_cells m_sun m_wide m_deep m_kind m_wet m_openFirst m_planHours x1 x2 x3 = some (r, m_sun', m_wet', m_openFirst', m_planHours') → ∀ (H : Heap) (locs : List Loc) (ls : Array Slot), va_P D classes (W_m cI cS a_m a_m_sorts a_m_sheetLong a_m_cells a_m_kind a_m_wet a_m_readKind a_m_readWet a_m_keptWet a_m_readCells a_m_readHours a_m_readCracked m_fault m_trace m_sorts m_sheetLong m_cells m_sun m_wide m_deep m_hour m_kind m_wet m_at m_readSun m_readWide m_readDeep m_readKind m_readWet m_keptWet m_keptSun m_openFirst m_planHours m_readings m_readCells m_readHours m_readCracked) H → va_D A (W_m cI cS a_m a_m_sorts a_m_sheetLong a_m_cells a_m_kind a_m_wet a_m_readKind a_m_readWet a_m_keptWet a_m_readCells a_m_readHours a_m_readCracked m_fault m_trace m_sorts m_sheetLong m_cells m_sun m_wide m_deep m_hour m_kind m_wet m_at m_readSun m_readWide m_readDeep m_readKind m_readWet m_keptWet m_keptSun m_openFirst m_planHours m_readings m_readCells m_readHours m_readCracked) → va_S A s.heap H locs → lv_has ls 4 [(0, .ref a_m), (1, .int x1), (2, .int x2), (3, .int x3)] → W p l e (Rm 6) s m args below meth c H locs 0 0 (MQ below (QW D (tysA cI cS) (some (.int r)) (W_m cI cS a_m a_m_sorts a_m_sheetLong a_m_cells a_m_kind a_m_wet a_m_readKind a_m_readWet a_m_keptWet a_m_readCells a_m_readHours a_m_readCracked m_fault m_trace m_sorts m_sheetLong m_cells m_sun' m_wide m_deep m_hour m_kind m_wet' m_at m_readSun m_readWide m_readDeep m_readKind m_readWet m_keptWet m_keptSun m_openFirst' m_planHours' m_readings m_readCells m_readHours m_readCracked) A) args s 0 0 A) (F0 m 17 ls []) := by
  obtain ⟨hx, hb, hr, hml, hown, hts, hlk, hnw⟩ := id Cc
  intro k
  induction k with
  | zero =>
    intro m_cells m_sun m_wide m_deep m_kind m_wet m_openFirst m_planHours x1 x2 x3 r m_sun' m_wet' m_openFirst' m_planHours' hf
    rw [fX5_goPlan_17] at hf
    cases hf
  | succ k ih =>
    intro m_cells m_sun m_wide m_deep m_kind m_wet m_openFirst m_planHours x1 x2 x3 r m_sun' m_wet' m_openFirst' m_planHours' hf H locs ls hP hD hS hl
    rw [fX5_goPlan_17] at hf
    refine lv_iload_n hx hb dX5_goPlan_17 rfl (lv_at hl 3 rfl) ?_
    refine lv_iload_n hx hb dX5_goPlan_18 rfl (lv_at hl 2 rfl) ?_
    refine lv_icmp_ge (tgt := 59) hx hb dX5_goPlan_19 (by decide) (fun hc2 => ?_) (fun hc2 => ?_)
    · replace hf := (if_pos hc2).symm.trans hf
      refine lv_bipush (v := (-9 : Int32)) hx hb dX5_goPlan_59 (by decide) ?_
      replace hf := Option.some.inj hf
      obtain ⟨er0, er1⟩ := Prod.mk.inj hf
      obtain ⟨er2, er3⟩ := Prod.mk.inj er1
      obtain ⟨er4, er5⟩ := Prod.mk.inj er3
      obtain ⟨er6, er7⟩ := Prod.mk.inj er5
      clear hf er1 er3 er5
      subst er0
      subst er2
      subst er4
      subst er6
      subst er7
      exact rt_i Cc hK hP hD hS dX5_goPlan_61
    · replace hf := (if_neg hc2).symm.trans hf
      refine lv_aload_n hx hb dX5_goPlan_22 rfl (lv_at hl 0 rfl) ?_
      refine lv_aload_n hx hb dX5_goPlan_23 rfl (lv_at hl 0 rfl) ?_
      refine va_get (D := D) (ci := 5) (v := .ref a_m_cells) (C := RX5) (T := TX5) (N := 25) hx hb hts inX5 hown hK hP 0 rfl rfl 4 (by decide) (hts _ tw_507) (fun _ h9 => h9) rfl dX5_goPlan_24 ?_
      refine lv_iload_n hx hb dX5_goPlan_27 rfl (lv_at hl 1 rfl) ?_
      refine lv_iconst (v := (2 : Int32)) hx hb dX5_goPlan_28 (by decide) ?_
      refine lv_iload_n hx hb dX5_goPlan_29 rfl (lv_at hl 3 rfl) ?_
      refine lv_imul hx hb dX5_goPlan_30 ?_
      refine lv_iadd hx hb dX5_goPlan_31 ?_
      obtain ⟨hin, hf⟩ := gd_some hf
      refine va_iald hx hb hK hP 3 0 rfl rfl hin dX5_goPlan_32 ?_
      refine lv_aload_n hx hb dX5_goPlan_33 rfl (lv_at hl 0 rfl) ?_
      refine va_get (D := D) (ci := 5) (v := .ref a_m_cells) (C := RX5) (T := TX5) (N := 25) hx hb hts inX5 hown hK hP 0 rfl rfl 4 (by decide) (hts _ tw_507) (fun _ h9 => h9) rfl dX5_goPlan_34 ?_
      refine lv_iload_n hx hb dX5_goPlan_37 rfl (lv_at hl 1 rfl) ?_
      refine lv_iconst (v := (2 : Int32)) hx hb dX5_goPlan_38 (by decide) ?_
      refine lv_iload_n hx hb dX5_goPlan_39 rfl (lv_at hl 3 rfl) ?_
      refine lv_imul hx hb dX5_goPlan_40 ?_
      refine lv_iadd hx hb dX5_goPlan_41 ?_
      refine lv_iconst (v := (1 : Int32)) hx hb dX5_goPlan_42 (by decide) ?_
      refine lv_iadd hx hb dX5_goPlan_43 ?_
      obtain ⟨hin, hf⟩ := gd_some hf
      refine va_iald hx hb hK hP 3 0 rfl rfl hin dX5_goPlan_44 ?_
      obtain ⟨q45_1, hq3, hf⟩ := Option.bind_eq_some_iff.mp hf
      refine cV (ws' := (W_m cI cS a_m a_m_sorts a_m_sheetLong a_m_cells a_m_kind a_m_wet a_m_readKind a_m_readWet a_m_keptWet a_m_readCells a_m_readHours a_m_readCracked m_fault m_trace m_sorts m_sheetLong m_cells q45_1.2.1 m_wide m_deep m_hour m_kind q45_1.2.2.1 m_at m_readSun m_readWide m_readDeep m_readKind m_readWet m_keptWet m_keptSun q45_1.2.2.2.1 q45_1.2.2.2.2 m_readings m_readCells m_readHours m_readCracked)) (rest := []) (st1 := [.int q45_1.1]) Cc hK hA hP hD hS hl.1 (ctX5_does l D cI cS a_m a_m_sorts a_m_sheetLong a_m_cells a_m_kind a_m_wet a_m_readKind a_m_readWet a_m_keptWet a_m_readCells a_m_readHours a_m_readCracked m_fault m_trace m_sorts m_sheetLong m_cells m_sun m_wide m_deep m_hour m_kind m_wet m_at m_readSun m_readWide m_readDeep m_readKind m_readWet m_keptWet m_keptSun m_openFirst m_planHours m_readings m_readCells m_readHours m_readCracked (m_cells (x1 + ((2 : Int32) * x3)).toNatClampNeg) (m_cells ((x1 + ((2 : Int32) * x3)) + (1 : Int32)).toNatClampNeg) n q45_1.1 q45_1.2.1 q45_1.2.2.1 q45_1.2.2.2.1 q45_1.2.2.2.2 hq3) ⟨tw_720, tw_717, tw_719, tp_32, tw_6⟩ mdX5_does ⟨rfl, rfl, Nat.le_of_ble_eq_true rfl, Nat.le_of_ble_eq_true rfl⟩ rfl dX5_goPlan_45 rfl (Nat.le_of_ble_eq_true rfl) ⟨Nat.zero_le _, Nat.zero_le _⟩ rfl rfl rfl [0, 1, 2, 3, 4, 5, 6, 7, 8, 9, 10, 11] [] [0, 1, 2, 3, 4, 5, 6, 7, 8, 9, 10, 11] rfl rfl (by decide) rfl (fun H locs hP hD hS => ?_)
      refine lv_if_ne (tgt := 53) hx hb dX5_goPlan_48 (by decide) (fun hc4 => ?_) (fun hc4 => ?_)
      · replace hf := (if_neg hc4).symm.trans hf
        refine lv_iinc (v := (x3 + 1)) (lv' := [(3, .int (x3 + 1)), (0, .ref a_m), (1, .int x1), (2, .int x2)]) hx hb dX5_goPlan_53 hl (k := 3) rfl rfl (by decide) rfl (fun ls hl => ?_)
        refine lv_goto (tgt := 17) hx hb dX5_goPlan_56 (by decide) ?_
        exact ih _ _ _ _ _ _ _ _ _ _ _ _ _ _ _ _ hf _ _ _ hP hD hS (lv_sub hl [1, 2, 3, 0] rfl)
      · replace hf := (if_pos hc4).symm.trans hf
        refine lv_iload_n hx hb dX5_goPlan_51 rfl (lv_at hl 3 rfl) ?_
        replace hf := Option.some.inj hf
        obtain ⟨er0, er1⟩ := Prod.mk.inj hf
        obtain ⟨er2, er3⟩ := Prod.mk.inj er1
        obtain ⟨er4, er5⟩ := Prod.mk.inj er3
        obtain ⟨er6, er7⟩ := Prod.mk.inj er5
        clear hf er1 er3 er5
        subst er0
        subst er2
        subst er4
        subst er6
        subst er7
        exact rt_i Cc hK hP hD hS dX5_goPlan_52
set_option maxHeartbeats 4000000 in
set_option maxRecDepth 100000 in
theorem ctX5_goPlan (l : Launch) (D : va_G) (cI cS : ClassId) (a_m a_m_sorts a_m_sheetLong a_m_cells a_m_kind a_m_wet a_m_readKind a_m_readWet a_m_keptWet a_m_readCells a_m_readHours a_m_readCracked : Nat) (m_fault : Int32) (m_trace : Int32) (m_sorts : Nat → Int32) (m_sheetLong : Nat → Int32) (m_cells : Nat → Int32) (m_sun : Int32) (m_wide : Int32) (m_deep : Int32) (m_hour : Int32) (m_kind : Nat → Int32) (m_wet : Nat → Int32) (m_at : Int32) (m_readSun : Int32) (m_readWide : Int32) (m_readDeep : Int32) (m_readKind : Nat → Int32) (m_readWet : Nat → Int32) (m_keptWet : Nat → Int32) (m_keptSun : Int32) (m_openFirst : Int32) (m_planHours : Int32) (m_readings : Int32) (m_readCells : Nat → Int32) (m_readHours : Nat → Int32) (m_readCracked : Nat → Int32) (p1 : Int32) (p2 : Int32) (n : Nat) (r : Int32) (m_sun' : Int32) (m_wet' : Nat → Int32) (m_openFirst' : Int32) (m_planHours' : Int32) (hf : fX5_goPlan n m_cells m_sun m_wide m_deep m_kind m_wet m_openFirst m_planHours p1 p2 = some (r, m_sun', m_wet', m_openFirst', m_planHours')) : Ct l D (tysA cI cS) yX5_goPlan cX5_goPlan 4 (some .int) (Rm 6) [.ref a_m, .int p1, .int p2] (W_m cI cS a_m a_m_sorts a_m_sheetLong a_m_cells a_m_kind a_m_wet a_m_readKind a_m_readWet a_m_keptWet a_m_readCells a_m_readHours a_m_readCracked m_fault m_trace m_sorts m_sheetLong m_cells m_sun m_wide m_deep m_hour m_kind m_wet m_at m_readSun m_readWide m_readDeep m_readKind m_readWet m_keptWet m_keptSun m_openFirst m_planHours m_readings m_readCells m_readHours m_readCracked) (some (.int r)) (W_m cI cS a_m a_m_sorts a_m_sheetLong a_m_cells a_m_kind a_m_wet a_m_readKind a_m_readWet a_m_keptWet a_m_readCells a_m_readHours a_m_readCracked m_fault m_trace m_sorts m_sheetLong m_cells m_sun' m_wide m_deep m_hour m_kind m_wet' m_at m_readSun m_readWide m_readDeep m_readKind m_readWet m_keptWet m_keptSun m_openFirst' m_planHours' m_readings m_readCells m_readHours m_readCracked) := by
  refine Ct_of (by decide) (Nat.le_of_ble_eq_true rfl) ?_
  intro p e s m args below meth c A ls Cc hK hA hP hD hS hl
  have hl : lv_has ls 4 [(0, .ref a_m), (1, .int p1), (2, .int p2)] := hl
  obtain ⟨hx, hb, hr, hml, hown, hts, hlk, hnw⟩ := id Cc
  unfold fX5_goPlan at hf
  refine lv_aload_n hx hb dX5_goPlan_0 rfl (lv_at hl 0 rfl) ?_
  refine lv_bipush (v := (-9 : Int32)) hx hb dX5_goPlan_1 (by decide) ?_
  refine va_put (D := D) (ci := 5) (v := .int (-9 : Int32)) (ty := .int) (C := RX5) (T := TX5) (N := 25) hx hb hts inX5 tyX5 tyX5_ok nmX5 hown hK hP hD hS 0 rfl rfl 19 (by decide) (hts _ tw_522) (fun _ h9 => h9) rfl (tyX5_ok 19 (by decide)) rfl rfl (Nat.le_of_ble_eq_true rfl) dX5_goPlan_3 (fun H locs hP hD hS => ?_)
  have hP : va_P D classes (W_m cI cS a_m a_m_sorts a_m_sheetLong a_m_cells a_m_kind a_m_wet a_m_readKind a_m_readWet a_m_keptWet a_m_readCells a_m_readHours a_m_readCracked m_fault m_trace m_sorts m_sheetLong m_cells m_sun m_wide m_deep m_hour m_kind m_wet m_at m_readSun m_readWide m_readDeep m_readKind m_readWet m_keptWet m_keptSun (-9 : Int32) m_planHours m_readings m_readCells m_readHours m_readCracked) H := hP
  have hD : va_D A (W_m cI cS a_m a_m_sorts a_m_sheetLong a_m_cells a_m_kind a_m_wet a_m_readKind a_m_readWet a_m_keptWet a_m_readCells a_m_readHours a_m_readCracked m_fault m_trace m_sorts m_sheetLong m_cells m_sun m_wide m_deep m_hour m_kind m_wet m_at m_readSun m_readWide m_readDeep m_readKind m_readWet m_keptWet m_keptSun (-9 : Int32) m_planHours m_readings m_readCells m_readHours m_readCracked) := hD
  refine lv_aload_n hx hb dX5_goPlan_6 rfl (lv_at hl 0 rfl) ?_
  refine lv_iconst (v := (0 : Int32)) hx hb dX5_goPlan_7 (by decide) ?_
  refine va_put (D := D) (ci := 5) (v := .int (0 : Int32)) (ty := .int) (C := RX5) (T := TX5) (N := 25) hx hb hts inX5 tyX5 tyX5_ok nmX5 hown hK hP hD hS 0 rfl rfl 20 (by decide) (hts _ tw_523) (fun _ h9 => h9) rfl (tyX5_ok 20 (by decide)) rfl rfl (Nat.le_of_ble_eq_true rfl) dX5_goPlan_8 (fun H locs hP hD hS => ?_)
  have hP : va_P D classes (W_m cI cS a_m a_m_sorts a_m_sheetLong a_m_cells a_m_kind a_m_wet a_m_readKind a_m_readWet a_m_keptWet a_m_readCells a_m_readHours a_m_readCracked m_fault m_trace m_sorts m_sheetLong m_cells m_sun m_wide m_deep m_hour m_kind m_wet m_at m_readSun m_readWide m_readDeep m_readKind m_readWet m_keptWet m_keptSun (-9 : Int32) (0 : Int32) m_readings m_readCells m_readHours m_readCracked) H := hP
  have hD : va_D A (W_m cI cS a_m a_m_sorts a_m_sheetLong a_m_cells a_m_kind a_m_wet a_m_readKind a_m_readWet a_m_keptWet a_m_readCells a_m_readHours a_m_readCracked m_fault m_trace m_sorts m_sheetLong m_cells m_sun m_wide m_deep m_hour m_kind m_wet m_at m_readSun m_readWide m_readDeep m_readKind m_readWet m_keptWet m_keptSun (-9 : Int32) (0 : Int32) m_readings m_readCells m_readHours m_readCracked) := hD
  refine lv_aload_n hx hb dX5_goPlan_11 rfl (lv_at hl 0 rfl) ?_
  obtain ⟨q12_1, hq1, hf⟩ := Option.bind_eq_some_iff.mp hf
  refine cV (ws' := (W_m cI cS a_m a_m_sorts a_m_sheetLong a_m_cells a_m_kind a_m_wet a_m_readKind a_m_readWet a_m_keptWet a_m_readCells a_m_readHours a_m_readCracked m_fault m_trace m_sorts m_sheetLong m_cells m_sun m_wide m_deep m_hour m_kind m_wet m_at m_readSun m_readWide m_readDeep m_readKind m_readWet m_keptWet m_keptSun q12_1 (0 : Int32) m_readings m_readCells m_readHours m_readCracked)) (rest := []) (st1 := []) Cc hK hA hP hD hS hl.1 (ctX5_noteOpen l D cI cS a_m a_m_sorts a_m_sheetLong a_m_cells a_m_kind a_m_wet a_m_readKind a_m_readWet a_m_keptWet a_m_readCells a_m_readHours a_m_readCracked m_fault m_trace m_sorts m_sheetLong m_cells m_sun m_wide m_deep m_hour m_kind m_wet m_at m_readSun m_readWide m_readDeep m_readKind m_readWet m_keptWet m_keptSun (-9 : Int32) (0 : Int32) m_readings m_readCells m_readHours m_readCracked  n q12_1 hq1) ⟨tw_716, tw_713, tw_715, tp_31, tw_6⟩ mdX5_noteOpen ⟨rfl, rfl, Nat.le_of_ble_eq_true rfl, Nat.le_of_ble_eq_true rfl⟩ rfl dX5_goPlan_12 rfl (Nat.le_of_ble_eq_true rfl) ⟨Nat.zero_le _, Nat.zero_le _⟩ rfl rfl rfl [0, 1, 2, 3, 4, 5, 6, 7, 8, 9, 10, 11] [] [0, 1, 2, 3, 4, 5, 6, 7, 8, 9, 10, 11] rfl rfl (by decide) rfl (fun H locs hP hD hS => ?_)
  refine lv_iconst (v := (0 : Int32)) hx hb dX5_goPlan_15 (by decide) ?_
  refine lv_istore_n (lv' := [(3, .int (0 : Int32)), (0, .ref a_m), (1, .int p1), (2, .int p2)]) hx hb dX5_goPlan_16 rfl hl (by decide) rfl (fun ls hl => ?_)
  exact bX5_goPlan_17 a_m a_m_sorts a_m_sheetLong a_m_cells a_m_kind a_m_wet a_m_readKind a_m_readWet a_m_keptWet a_m_readCells a_m_readHours a_m_readCracked m_fault m_trace m_sorts m_sheetLong m_hour m_at m_readSun m_readWide m_readDeep m_readKind m_readWet m_keptWet m_keptSun m_readings m_readCells m_readHours m_readCracked Cc hK hA n n _ _ _ _ _ _ _ _ _ _ _ _ _ _ _ _ hf _ _ _ hP hD hS (lv_sub hl [1, 2, 3, 0] rfl)
-- X5_tellPlan
def fX5_tellPlan_101 (n : Nat) : Nat → Int32 → Int32 → Int32 → (Nat → Int32) → (Nat → Int32) → Int32 → Int32 → Int32 → Option (Int32)
  | 0, _, _, _, _, _, _, _, _ => none
  | k + 1, m_sun, m_wide, m_deep, m_kind, m_wet, m_openFirst, x2, x3 => (fX5_cellsOf n m_wide m_deep).bind fun q103_1 => if q103_1 ≤ x3 then some (x2) else gd x3 12 (fX5_tellPlan_101 n k m_sun m_wide m_deep m_kind m_wet m_openFirst (x2 + (m_wet x3.toNatClampNeg)) (x3 + 1))
def fX5_tellPlan_97 (n : Nat) (m_sun : Int32) (m_wide : Int32) (m_deep : Int32) (m_kind : Nat → Int32) (m_wet : Nat → Int32) (m_openFirst : Int32) : Option (Int32) := fX5_tellPlan_101 n n m_sun m_wide m_deep m_kind m_wet m_openFirst (0 : Int32) (0 : Int32)
def fX5_tellPlan (n : Nat) (m_sun : Int32) (m_wide : Int32) (m_deep : Int32) (m_kind : Nat → Int32) (m_wet : Nat → Int32) (m_openFirst : Int32) (p1 : Int32) : Option (Int32) := if p1 < (10 : Int32) then if p1 = 0 then (fX5_crackedBehind n m_sun m_wide m_deep m_kind m_wet (0 : Int32)).bind fun q70_1 => some (q70_1) else if p1 = 1 then fX5_tellPlan_97 n m_sun m_wide m_deep m_kind m_wet m_openFirst else if p1 = 2 then (fX5_crackedBehind n m_sun m_wide m_deep m_kind m_wet (0 : Int32)).bind fun q77_1 => (fX5_isOpen n m_wide m_deep q77_1).bind fun q80_2 => if q80_2 = 0 then some ((0 : Int32)) else some ((1 : Int32)) else if p1 = 3 then fX5_tellPlan_97 n m_sun m_wide m_deep m_kind m_wet m_openFirst else if p1 = 4 then some (m_openFirst) else fX5_tellPlan_97 n m_sun m_wide m_deep m_kind m_wet m_openFirst else (fX5_isCell n m_wide m_deep (p1 - (10 : Int32))).bind fun q11_1 => if q11_1 = 0 then some ((-9 : Int32)) else gd (p1 - (10 : Int32)) 12 (some ((m_wet (p1 - (10 : Int32)).toNatClampNeg)))
theorem mdX5_tellPlan : yX5_tellPlan.cls = RX5 ∧ yX5_tellPlan.cls ≠ "java/lang/invoke/MethodHandle" ∧ yX5_tellPlan.cls ≠ "java/lang/invoke/VarHandle" ∧ (parseMethodDescriptor yX5_tellPlan.desc).map (fun d => d.parameters.length) = some 1 := by decide +kernel
set_option maxHeartbeats 4000000 in
set_option maxRecDepth 100000 in
theorem bX5_tellPlan_101 {p : Program} {l : Launch} {e : Env} {s : State} {m : MethodId} {args : Array Value} {below : List Frame} {meth : Method} {c : Code} {A : Nat → Prop} {D : va_G} {cI cS : ClassId} (a_m a_m_sorts a_m_sheetLong a_m_cells a_m_kind a_m_wet a_m_readKind a_m_readWet a_m_keptWet a_m_readCells a_m_readHours a_m_readCracked : Nat) (m_fault : Int32) (m_trace : Int32) (m_sorts : Nat → Int32) (m_sheetLong : Nat → Int32) (m_cells : Nat → Int32) (m_hour : Int32) (m_at : Int32) (m_readSun : Int32) (m_readWide : Int32) (m_readDeep : Int32) (m_readKind : Nat → Int32) (m_readWet : Nat → Int32) (m_keptWet : Nat → Int32) (m_keptSun : Int32) (m_planHours : Int32) (m_readings : Int32) (m_readCells : Nat → Int32) (m_readHours : Nat → Int32) (m_readCracked : Nat → Int32) (Cc : Cx p s m args meth c RX5 cX5_tellPlan 4 (some .int)) (hK : va_K D classes (tysA cI cS) s) (hA : ∀ q, s.heap.size ≤ q → A q) (n : Nat) : ∀ (k : Nat) (m_sun : Int32) (m_wide : Int32) (m_deep : Int32) (m_kind : Nat → Int32) (m_wet : Nat → Int32) (m_openFirst : Int32) (x2 : Int32) (x3 : Int32) (r : Int32), fX5_tellPlan_101 n k m_sun m_wide m_deep m_kind m_wet m_openFirst x2 x3 = some (r) → ∀ (H : Heap) (locs : List Loc) (ls : Array Slot), va_P D classes (W_m cI cS a_m a_m_sorts a_m_sheetLong a_m_cells a_m_kind a_m_wet a_m_readKind a_m_readWet a_m_keptWet a_m_readCells a_m_readHours a_m_readCracked m_fault m_trace m_sorts m_sheetLong m_cells m_sun m_wide m_deep m_hour m_kind m_wet m_at m_readSun m_readWide m_readDeep m_readKind m_readWet m_keptWet m_keptSun m_openFirst m_planHours m_readings m_readCells m_readHours m_readCracked) H → va_D A (W_m cI cS a_m a_m_sorts a_m_sheetLong a_m_cells a_m_kind a_m_wet a_m_readKind a_m_readWet a_m_keptWet a_m_readCells a_m_readHours a_m_readCracked m_fault m_trace m_sorts m_sheetLong m_cells m_sun m_wide m_deep m_hour m_kind m_wet m_at m_readSun m_readWide m_readDeep m_readKind m_readWet m_keptWet m_keptSun m_openFirst m_planHours m_readings m_readCells m_readHours m_readCracked) → va_S A s.heap H locs → lv_has ls 4 [(0, .ref a_m), (2, .int x2), (3, .int x3)] → W p l e (Rm 4) s m args below meth c H locs 0 0 (MQ below (QW D (tysA cI cS) (some (.int r)) (W_m cI cS a_m a_m_sorts a_m_sheetLong a_m_cells a_m_kind a_m_wet a_m_readKind a_m_readWet a_m_keptWet a_m_readCells a_m_readHours a_m_readCracked m_fault m_trace m_sorts m_sheetLong m_cells m_sun m_wide m_deep m_hour m_kind m_wet m_at m_readSun m_readWide m_readDeep m_readKind m_readWet m_keptWet m_keptSun m_openFirst m_planHours m_readings m_readCells m_readHours m_readCracked) A) args s 0 0 A) (F0 m 101 ls []) := by
  obtain ⟨hx, hb, hr, hml, hown, hts, hlk, hnw⟩ := id Cc
  intro k
  induction k with
  | zero =>
    intro m_sun m_wide m_deep m_kind m_wet m_openFirst x2 x3 r hf
    rw [fX5_tellPlan_101] at hf
    cases hf
  | succ k ih =>
    intro m_sun m_wide m_deep m_kind m_wet m_openFirst x2 x3 r hf H locs ls hP hD hS hl
    rw [fX5_tellPlan_101] at hf
    refine lv_iload_n hx hb dX5_tellPlan_101 rfl (lv_at hl 2 rfl) ?_
    refine lv_aload_n hx hb dX5_tellPlan_102 rfl (lv_at hl 0 rfl) ?_
    obtain ⟨q103_1, hq4, hf⟩ := Option.bind_eq_some_iff.mp hf
    refine cV (ws' := (W_m cI cS a_m a_m_sorts a_m_sheetLong a_m_cells a_m_kind a_m_wet a_m_readKind a_m_readWet a_m_keptWet a_m_readCells a_m_readHours a_m_readCracked m_fault m_trace m_sorts m_sheetLong m_cells m_sun m_wide m_deep m_hour m_kind m_wet m_at m_readSun m_readWide m_readDeep m_readKind m_readWet m_keptWet m_keptSun m_openFirst m_planHours m_readings m_readCells m_readHours m_readCracked)) (rest := [.int x3]) (st1 := [.int q103_1, .int x3]) Cc hK hA hP hD hS hl.1 (ctX5_cellsOf l D cI cS a_m a_m_sorts a_m_sheetLong a_m_cells a_m_kind a_m_wet a_m_readKind a_m_readWet a_m_keptWet a_m_readCells a_m_readHours a_m_readCracked m_fault m_trace m_sorts m_sheetLong m_cells m_sun m_wide m_deep m_hour m_kind m_wet m_at m_readSun m_readWide m_readDeep m_readKind m_readWet m_keptWet m_keptSun m_openFirst m_planHours m_readings m_readCells m_readHours m_readCracked  n q103_1 hq4) ⟨tw_619, tw_616, tw_618, tp_17, tw_6⟩ mdX5_cellsOf ⟨rfl, rfl, Nat.le_of_ble_eq_true rfl, Nat.le_of_ble_eq_true rfl⟩ rfl dX5_tellPlan_103 rfl (Nat.le_of_ble_eq_true rfl) ⟨Nat.zero_le _, Nat.zero_le _⟩ rfl rfl rfl [0, 1, 2, 3, 4, 5, 6, 7, 8, 9, 10, 11] [] [0, 1, 2, 3, 4, 5, 6, 7, 8, 9, 10, 11] rfl rfl (by decide) rfl (fun H locs hP hD hS => ?_)
    refine lv_icmp_ge (tgt := 124) hx hb dX5_tellPlan_106 (by decide) (fun hc5 => ?_) (fun hc5 => ?_)
    · replace hf := (if_pos hc5).symm.trans hf
      refine lv_iload_n hx hb dX5_tellPlan_124 rfl (lv_at hl 1 rfl) ?_
      obtain rfl := Option.some.inj hf
      exact rt_i Cc hK hP hD hS dX5_tellPlan_125
    · replace hf := (if_neg hc5).symm.trans hf
      refine lv_iload_n hx hb dX5_tellPlan_109 rfl (lv_at hl 1 rfl) ?_
      refine lv_aload_n hx hb dX5_tellPlan_110 rfl (lv_at hl 0 rfl) ?_
      refine va_get (D := D) (ci := 5) (v := .ref a_m_wet) (C := RX5) (T := TX5) (N := 25) hx hb hts inX5 hown hK hP 0 rfl rfl 10 (by decide) (hts _ tw_513) (fun _ h9 => h9) rfl dX5_tellPlan_111 ?_
      refine lv_iload_n hx hb dX5_tellPlan_114 rfl (lv_at hl 2 rfl) ?_
      obtain ⟨hin, hf⟩ := gd_some hf
      refine va_iald hx hb hK hP 5 0 rfl rfl hin dX5_tellPlan_115 ?_
      refine lv_iadd hx hb dX5_tellPlan_116 ?_
      refine lv_istore_n (lv' := [(2, .int (x2 + (m_wet x3.toNatClampNeg))), (0, .ref a_m), (3, .int x3)]) hx hb dX5_tellPlan_117 rfl hl (by decide) rfl (fun ls hl => ?_)
      refine lv_iinc (v := (x3 + 1)) (lv' := [(3, .int (x3 + 1)), (2, .int (x2 + (m_wet x3.toNatClampNeg))), (0, .ref a_m)]) hx hb dX5_tellPlan_118 hl (k := 2) rfl rfl (by decide) rfl (fun ls hl => ?_)
      refine lv_goto (tgt := 101) hx hb dX5_tellPlan_121 (by decide) ?_
      exact ih _ _ _ _ _ _ _ _ _ hf _ _ _ hP hD hS (lv_sub hl [2, 1, 0] rfl)
set_option maxHeartbeats 4000000 in
set_option maxRecDepth 100000 in
theorem bX5_tellPlan_97 {p : Program} {l : Launch} {e : Env} {s : State} {m : MethodId} {args : Array Value} {below : List Frame} {meth : Method} {c : Code} {A : Nat → Prop} {D : va_G} {cI cS : ClassId} (a_m a_m_sorts a_m_sheetLong a_m_cells a_m_kind a_m_wet a_m_readKind a_m_readWet a_m_keptWet a_m_readCells a_m_readHours a_m_readCracked : Nat) (m_fault : Int32) (m_trace : Int32) (m_sorts : Nat → Int32) (m_sheetLong : Nat → Int32) (m_cells : Nat → Int32) (m_hour : Int32) (m_at : Int32) (m_readSun : Int32) (m_readWide : Int32) (m_readDeep : Int32) (m_readKind : Nat → Int32) (m_readWet : Nat → Int32) (m_keptWet : Nat → Int32) (m_keptSun : Int32) (m_planHours : Int32) (m_readings : Int32) (m_readCells : Nat → Int32) (m_readHours : Nat → Int32) (m_readCracked : Nat → Int32) (Cc : Cx p s m args meth c RX5 cX5_tellPlan 4 (some .int)) (hK : va_K D classes (tysA cI cS) s) (hA : ∀ q, s.heap.size ≤ q → A q) (n : Nat) : ∀ (m_sun : Int32) (m_wide : Int32) (m_deep : Int32) (m_kind : Nat → Int32) (m_wet : Nat → Int32) (m_openFirst : Int32) (r : Int32), fX5_tellPlan_97 n m_sun m_wide m_deep m_kind m_wet m_openFirst = some (r) → ∀ (H : Heap) (locs : List Loc) (ls : Array Slot), va_P D classes (W_m cI cS a_m a_m_sorts a_m_sheetLong a_m_cells a_m_kind a_m_wet a_m_readKind a_m_readWet a_m_keptWet a_m_readCells a_m_readHours a_m_readCracked m_fault m_trace m_sorts m_sheetLong m_cells m_sun m_wide m_deep m_hour m_kind m_wet m_at m_readSun m_readWide m_readDeep m_readKind m_readWet m_keptWet m_keptSun m_openFirst m_planHours m_readings m_readCells m_readHours m_readCracked) H → va_D A (W_m cI cS a_m a_m_sorts a_m_sheetLong a_m_cells a_m_kind a_m_wet a_m_readKind a_m_readWet a_m_keptWet a_m_readCells a_m_readHours a_m_readCracked m_fault m_trace m_sorts m_sheetLong m_cells m_sun m_wide m_deep m_hour m_kind m_wet m_at m_readSun m_readWide m_readDeep m_readKind m_readWet m_keptWet m_keptSun m_openFirst m_planHours m_readings m_readCells m_readHours m_readCracked) → va_S A s.heap H locs → lv_has ls 4 [(0, .ref a_m)] → W p l e (Rm 4) s m args below meth c H locs 0 0 (MQ below (QW D (tysA cI cS) (some (.int r)) (W_m cI cS a_m a_m_sorts a_m_sheetLong a_m_cells a_m_kind a_m_wet a_m_readKind a_m_readWet a_m_keptWet a_m_readCells a_m_readHours a_m_readCracked m_fault m_trace m_sorts m_sheetLong m_cells m_sun m_wide m_deep m_hour m_kind m_wet m_at m_readSun m_readWide m_readDeep m_readKind m_readWet m_keptWet m_keptSun m_openFirst m_planHours m_readings m_readCells m_readHours m_readCracked) A) args s 0 0 A) (F0 m 97 ls []) := by
  obtain ⟨hx, hb, hr, hml, hown, hts, hlk, hnw⟩ := id Cc
  intro m_sun m_wide m_deep m_kind m_wet m_openFirst r hf H locs ls hP hD hS hl
  unfold fX5_tellPlan_97 at hf
  refine lv_iconst (v := (0 : Int32)) hx hb dX5_tellPlan_97 (by decide) ?_
  refine lv_istore_n (lv' := [(2, .int (0 : Int32)), (0, .ref a_m)]) hx hb dX5_tellPlan_98 rfl hl (by decide) rfl (fun ls hl => ?_)
  refine lv_iconst (v := (0 : Int32)) hx hb dX5_tellPlan_99 (by decide) ?_
  refine lv_istore_n (lv' := [(3, .int (0 : Int32)), (2, .int (0 : Int32)), (0, .ref a_m)]) hx hb dX5_tellPlan_100 rfl hl (by decide) rfl (fun ls hl => ?_)
  exact bX5_tellPlan_101 a_m a_m_sorts a_m_sheetLong a_m_cells a_m_kind a_m_wet a_m_readKind a_m_readWet a_m_keptWet a_m_readCells a_m_readHours a_m_readCracked m_fault m_trace m_sorts m_sheetLong m_cells m_hour m_at m_readSun m_readWide m_readDeep m_readKind m_readWet m_keptWet m_keptSun m_planHours m_readings m_readCells m_readHours m_readCracked Cc hK hA n n _ _ _ _ _ _ _ _ _ hf _ _ _ hP hD hS (lv_sub hl [2, 1, 0] rfl)
set_option maxHeartbeats 4000000 in
set_option maxRecDepth 100000 in
theorem ctX5_tellPlan (l : Launch) (D : va_G) (cI cS : ClassId) (a_m a_m_sorts a_m_sheetLong a_m_cells a_m_kind a_m_wet a_m_readKind a_m_readWet a_m_keptWet a_m_readCells a_m_readHours a_m_readCracked : Nat) (m_fault : Int32) (m_trace : Int32) (m_sorts : Nat → Int32) (m_sheetLong : Nat → Int32) (m_cells : Nat → Int32) (m_sun : Int32) (m_wide : Int32) (m_deep : Int32) (m_hour : Int32) (m_kind : Nat → Int32) (m_wet : Nat → Int32) (m_at : Int32) (m_readSun : Int32) (m_readWide : Int32) (m_readDeep : Int32) (m_readKind : Nat → Int32) (m_readWet : Nat → Int32) (m_keptWet : Nat → Int32) (m_keptSun : Int32) (m_openFirst : Int32) (m_planHours : Int32) (m_readings : Int32) (m_readCells : Nat → Int32) (m_readHours : Nat → Int32) (m_readCracked : Nat → Int32) (p1 : Int32) (n : Nat) (r : Int32) (hf : fX5_tellPlan n m_sun m_wide m_deep m_kind m_wet m_openFirst p1 = some (r)) : Ct l D (tysA cI cS) yX5_tellPlan cX5_tellPlan 4 (some .int) (Rm 4) [.ref a_m, .int p1] (W_m cI cS a_m a_m_sorts a_m_sheetLong a_m_cells a_m_kind a_m_wet a_m_readKind a_m_readWet a_m_keptWet a_m_readCells a_m_readHours a_m_readCracked m_fault m_trace m_sorts m_sheetLong m_cells m_sun m_wide m_deep m_hour m_kind m_wet m_at m_readSun m_readWide m_readDeep m_readKind m_readWet m_keptWet m_keptSun m_openFirst m_planHours m_readings m_readCells m_readHours m_readCracked) (some (.int r)) (W_m cI cS a_m a_m_sorts a_m_sheetLong a_m_cells a_m_kind a_m_wet a_m_readKind a_m_readWet a_m_keptWet a_m_readCells a_m_readHours a_m_readCracked m_fault m_trace m_sorts m_sheetLong m_cells m_sun m_wide m_deep m_hour m_kind m_wet m_at m_readSun m_readWide m_readDeep m_readKind m_readWet m_keptWet m_keptSun m_openFirst m_planHours m_readings m_readCells m_readHours m_readCracked) := by
  refine Ct_of (by decide) (Nat.le_of_ble_eq_true rfl) ?_
  intro p e s m args below meth c A ls Cc hK hA hP hD hS hl
  have hl : lv_has ls 4 [(0, .ref a_m), (1, .int p1)] := hl
  obtain ⟨hx, hb, hr, hml, hown, hts, hlk, hnw⟩ := id Cc
  unfold fX5_tellPlan at hf
  refine lv_iload_n hx hb dX5_tellPlan_0 rfl (lv_at hl 1 rfl) ?_
  refine lv_bipush (v := (10 : Int32)) hx hb dX5_tellPlan_1 (by decide) ?_
  refine lv_icmp_lt (tgt := 32) hx hb dX5_tellPlan_3 (by decide) (fun hc1 => ?_) (fun hc1 => ?_)
  · replace hf := (if_pos hc1).symm.trans hf
    refine lv_iload_n hx hb dX5_tellPlan_32 rfl (lv_at hl 1 rfl) ?_
    by_cases hs2_0 : p1 = 0
    · replace hf := (if_pos hs2_0).symm.trans hf
      refine lv_tableIn (tgt := 68) (off := 35) hx hb dX5_tellPlan_33 (by rw [hs2_0]; decide) (by rw [hs2_0]; decide) (by rw [hs2_0]; decide) (by decide) ?_
      refine lv_aload_n hx hb dX5_tellPlan_68 rfl (lv_at hl 0 rfl) ?_
      refine lv_iconst (v := (0 : Int32)) hx hb dX5_tellPlan_69 (by decide) ?_
      obtain ⟨q70_1, hq3, hf⟩ := Option.bind_eq_some_iff.mp hf
      refine cV (ws' := (W_m cI cS a_m a_m_sorts a_m_sheetLong a_m_cells a_m_kind a_m_wet a_m_readKind a_m_readWet a_m_keptWet a_m_readCells a_m_readHours a_m_readCracked m_fault m_trace m_sorts m_sheetLong m_cells m_sun m_wide m_deep m_hour m_kind m_wet m_at m_readSun m_readWide m_readDeep m_readKind m_readWet m_keptWet m_keptSun m_openFirst m_planHours m_readings m_readCells m_readHours m_readCracked)) (rest := []) (st1 := [.int q70_1]) Cc hK hA hP hD hS hl.1 (ctX5_crackedBehind l D cI cS a_m a_m_sorts a_m_sheetLong a_m_cells a_m_kind a_m_wet a_m_readKind a_m_readWet a_m_keptWet a_m_readCells a_m_readHours a_m_readCracked m_fault m_trace m_sorts m_sheetLong m_cells m_sun m_wide m_deep m_hour m_kind m_wet m_at m_readSun m_readWide m_readDeep m_readKind m_readWet m_keptWet m_keptSun m_openFirst m_planHours m_readings m_readCells m_readHours m_readCracked (0 : Int32) n q70_1 hq3) ⟨tw_639, tw_636, tw_638, tp_21, tw_6⟩ mdX5_crackedBehind ⟨rfl, rfl, Nat.le_of_ble_eq_true rfl, Nat.le_of_ble_eq_true rfl⟩ rfl dX5_tellPlan_70 rfl (Nat.le_of_ble_eq_true rfl) ⟨Nat.zero_le _, Nat.zero_le _⟩ rfl rfl rfl [0, 1, 2, 3, 4, 5, 6, 7, 8, 9, 10, 11] [] [0, 1, 2, 3, 4, 5, 6, 7, 8, 9, 10, 11] rfl rfl (by decide) rfl (fun H locs hP hD hS => ?_)
      obtain rfl := Option.some.inj hf
      exact rt_i Cc hK hP hD hS dX5_tellPlan_73
    · replace hf := (if_neg hs2_0).symm.trans hf
      by_cases hs2_1 : p1 = 1
      · replace hf := (if_pos hs2_1).symm.trans hf
        refine lv_tableIn (tgt := 97) (off := 64) hx hb dX5_tellPlan_33 (by rw [hs2_1]; decide) (by rw [hs2_1]; decide) (by rw [hs2_1]; decide) (by decide) ?_
        exact bX5_tellPlan_97 a_m a_m_sorts a_m_sheetLong a_m_cells a_m_kind a_m_wet a_m_readKind a_m_readWet a_m_keptWet a_m_readCells a_m_readHours a_m_readCracked m_fault m_trace m_sorts m_sheetLong m_cells m_hour m_at m_readSun m_readWide m_readDeep m_readKind m_readWet m_keptWet m_keptSun m_planHours m_readings m_readCells m_readHours m_readCracked Cc hK hA n _ _ _ _ _ _ _ hf _ _ _ hP hD hS (lv_sub hl [0] rfl)
      · replace hf := (if_neg hs2_1).symm.trans hf
        by_cases hs2_2 : p1 = 2
        · replace hf := (if_pos hs2_2).symm.trans hf
          refine lv_tableIn (tgt := 74) (off := 41) hx hb dX5_tellPlan_33 (by rw [hs2_2]; decide) (by rw [hs2_2]; decide) (by rw [hs2_2]; decide) (by decide) ?_
          refine lv_aload_n hx hb dX5_tellPlan_74 rfl (lv_at hl 0 rfl) ?_
          refine lv_aload_n hx hb dX5_tellPlan_75 rfl (lv_at hl 0 rfl) ?_
          refine lv_iconst (v := (0 : Int32)) hx hb dX5_tellPlan_76 (by decide) ?_
          obtain ⟨q77_1, hq6, hf⟩ := Option.bind_eq_some_iff.mp hf
          refine cV (ws' := (W_m cI cS a_m a_m_sorts a_m_sheetLong a_m_cells a_m_kind a_m_wet a_m_readKind a_m_readWet a_m_keptWet a_m_readCells a_m_readHours a_m_readCracked m_fault m_trace m_sorts m_sheetLong m_cells m_sun m_wide m_deep m_hour m_kind m_wet m_at m_readSun m_readWide m_readDeep m_readKind m_readWet m_keptWet m_keptSun m_openFirst m_planHours m_readings m_readCells m_readHours m_readCracked)) (rest := [.ref a_m]) (st1 := [.int q77_1, .ref a_m]) Cc hK hA hP hD hS hl.1 (ctX5_crackedBehind l D cI cS a_m a_m_sorts a_m_sheetLong a_m_cells a_m_kind a_m_wet a_m_readKind a_m_readWet a_m_keptWet a_m_readCells a_m_readHours a_m_readCracked m_fault m_trace m_sorts m_sheetLong m_cells m_sun m_wide m_deep m_hour m_kind m_wet m_at m_readSun m_readWide m_readDeep m_readKind m_readWet m_keptWet m_keptSun m_openFirst m_planHours m_readings m_readCells m_readHours m_readCracked (0 : Int32) n q77_1 hq6) ⟨tw_639, tw_636, tw_638, tp_21, tw_6⟩ mdX5_crackedBehind ⟨rfl, rfl, Nat.le_of_ble_eq_true rfl, Nat.le_of_ble_eq_true rfl⟩ rfl dX5_tellPlan_77 rfl (Nat.le_of_ble_eq_true rfl) ⟨Nat.zero_le _, Nat.zero_le _⟩ rfl rfl rfl [0, 1, 2, 3, 4, 5, 6, 7, 8, 9, 10, 11] [] [0, 1, 2, 3, 4, 5, 6, 7, 8, 9, 10, 11] rfl rfl (by decide) rfl (fun H locs hP hD hS => ?_)
          obtain ⟨q80_2, hq7, hf⟩ := Option.bind_eq_some_iff.mp hf
          refine cV (ws' := (W_m cI cS a_m a_m_sorts a_m_sheetLong a_m_cells a_m_kind a_m_wet a_m_readKind a_m_readWet a_m_keptWet a_m_readCells a_m_readHours a_m_readCracked m_fault m_trace m_sorts m_sheetLong m_cells m_sun m_wide m_deep m_hour m_kind m_wet m_at m_readSun m_readWide m_readDeep m_readKind m_readWet m_keptWet m_keptSun m_openFirst m_planHours m_readings m_readCells m_readHours m_readCracked)) (rest := []) (st1 := [.int q80_2]) Cc hK hA hP hD hS hl.1 (ctX5_isOpen l D cI cS a_m a_m_sorts a_m_sheetLong a_m_cells a_m_kind a_m_wet a_m_readKind a_m_readWet a_m_keptWet a_m_readCells a_m_readHours a_m_readCracked m_fault m_trace m_sorts m_sheetLong m_cells m_sun m_wide m_deep m_hour m_kind m_wet m_at m_readSun m_readWide m_readDeep m_readKind m_readWet m_keptWet m_keptSun m_openFirst m_planHours m_readings m_readCells m_readHours m_readCracked q77_1 n q80_2 hq7) ⟨tw_692, tw_689, tw_691, tp_27, tw_6⟩ mdX5_isOpen ⟨rfl, rfl, Nat.le_of_ble_eq_true rfl, Nat.le_of_ble_eq_true rfl⟩ rfl dX5_tellPlan_80 rfl (Nat.le_of_ble_eq_true rfl) ⟨Nat.zero_le _, Nat.zero_le _⟩ rfl rfl rfl [0, 1, 2, 3, 4, 5, 6, 7, 8, 9, 10, 11] [] [0, 1, 2, 3, 4, 5, 6, 7, 8, 9, 10, 11] rfl rfl (by decide) rfl (fun H locs hP hD hS => ?_)
          refine lv_if_eq (tgt := 90) hx hb dX5_tellPlan_83 (by decide) (fun hc8 => ?_) (fun hc8 => ?_)
          · replace hf := (if_pos hc8).symm.trans hf
            refine lv_iconst (v := (0 : Int32)) hx hb dX5_tellPlan_90 (by decide) ?_
            obtain rfl := Option.some.inj hf
            exact rt_i Cc hK hP hD hS dX5_tellPlan_91
          · replace hf := (if_neg hc8).symm.trans hf
            refine lv_iconst (v := (1 : Int32)) hx hb dX5_tellPlan_86 (by decide) ?_
            refine lv_goto (tgt := 91) hx hb dX5_tellPlan_87 (by decide) ?_
            obtain rfl := Option.some.inj hf
            exact rt_i Cc hK hP hD hS dX5_tellPlan_91
        · replace hf := (if_neg hs2_2).symm.trans hf
          by_cases hs2_3 : p1 = 3
          · replace hf := (if_pos hs2_3).symm.trans hf
            refine lv_tableIn (tgt := 97) (off := 64) hx hb dX5_tellPlan_33 (by rw [hs2_3]; decide) (by rw [hs2_3]; decide) (by rw [hs2_3]; decide) (by decide) ?_
            exact bX5_tellPlan_97 a_m a_m_sorts a_m_sheetLong a_m_cells a_m_kind a_m_wet a_m_readKind a_m_readWet a_m_keptWet a_m_readCells a_m_readHours a_m_readCracked m_fault m_trace m_sorts m_sheetLong m_cells m_hour m_at m_readSun m_readWide m_readDeep m_readKind m_readWet m_keptWet m_keptSun m_planHours m_readings m_readCells m_readHours m_readCracked Cc hK hA n _ _ _ _ _ _ _ hf _ _ _ hP hD hS (lv_sub hl [0] rfl)
          · replace hf := (if_neg hs2_3).symm.trans hf
            by_cases hs2_4 : p1 = 4
            · replace hf := (if_pos hs2_4).symm.trans hf
              refine lv_tableIn (tgt := 92) (off := 59) hx hb dX5_tellPlan_33 (by rw [hs2_4]; decide) (by rw [hs2_4]; decide) (by rw [hs2_4]; decide) (by decide) ?_
              refine lv_aload_n hx hb dX5_tellPlan_92 rfl (lv_at hl 0 rfl) ?_
              refine va_get (D := D) (ci := 5) (v := .int m_openFirst) (C := RX5) (T := TX5) (N := 25) hx hb hts inX5 hown hK hP 0 rfl rfl 19 (by decide) (hts _ tw_522) (fun _ h9 => h9) rfl dX5_tellPlan_93 ?_
              obtain rfl := Option.some.inj hf
              exact rt_i Cc hK hP hD hS dX5_tellPlan_96
            · replace hf := (if_neg hs2_4).symm.trans hf
              refine lv_tableOut (tgt := 97) hx hb dX5_tellPlan_33 (tb_out (N := 4) (by decide) (fun i hi => match i, hi with | 0, _ => hs2_0 | 1, _ => hs2_1 | 2, _ => hs2_2 | 3, _ => hs2_3 | 4, _ => hs2_4 | i + 5, hi => absurd hi (by omega))) (by decide) ?_
              exact bX5_tellPlan_97 a_m a_m_sorts a_m_sheetLong a_m_cells a_m_kind a_m_wet a_m_readKind a_m_readWet a_m_keptWet a_m_readCells a_m_readHours a_m_readCracked m_fault m_trace m_sorts m_sheetLong m_cells m_hour m_at m_readSun m_readWide m_readDeep m_readKind m_readWet m_keptWet m_keptSun m_planHours m_readings m_readCells m_readHours m_readCracked Cc hK hA n _ _ _ _ _ _ _ hf _ _ _ hP hD hS (lv_sub hl [0] rfl)
  · replace hf := (if_neg hc1).symm.trans hf
    refine lv_aload_n hx hb dX5_tellPlan_6 rfl (lv_at hl 0 rfl) ?_
    refine lv_iload_n hx hb dX5_tellPlan_7 rfl (lv_at hl 1 rfl) ?_
    refine lv_bipush (v := (10 : Int32)) hx hb dX5_tellPlan_8 (by decide) ?_
    refine lv_isub hx hb dX5_tellPlan_10 ?_
    obtain ⟨q11_1, hq9, hf⟩ := Option.bind_eq_some_iff.mp hf
    refine cV (ws' := (W_m cI cS a_m a_m_sorts a_m_sheetLong a_m_cells a_m_kind a_m_wet a_m_readKind a_m_readWet a_m_keptWet a_m_readCells a_m_readHours a_m_readCracked m_fault m_trace m_sorts m_sheetLong m_cells m_sun m_wide m_deep m_hour m_kind m_wet m_at m_readSun m_readWide m_readDeep m_readKind m_readWet m_keptWet m_keptSun m_openFirst m_planHours m_readings m_readCells m_readHours m_readCracked)) (rest := []) (st1 := [.int q11_1]) Cc hK hA hP hD hS hl.1 (ctX5_isCell l D cI cS a_m a_m_sorts a_m_sheetLong a_m_cells a_m_kind a_m_wet a_m_readKind a_m_readWet a_m_keptWet a_m_readCells a_m_readHours a_m_readCracked m_fault m_trace m_sorts m_sheetLong m_cells m_sun m_wide m_deep m_hour m_kind m_wet m_at m_readSun m_readWide m_readDeep m_readKind m_readWet m_keptWet m_keptSun m_openFirst m_planHours m_readings m_readCells m_readHours m_readCracked (p1 - (10 : Int32)) n q11_1 hq9) ⟨tw_627, tw_624, tw_626, tp_18, tw_6⟩ mdX5_isCell ⟨rfl, rfl, Nat.le_of_ble_eq_true rfl, Nat.le_of_ble_eq_true rfl⟩ rfl dX5_tellPlan_11 rfl (Nat.le_of_ble_eq_true rfl) ⟨Nat.zero_le _, Nat.zero_le _⟩ rfl rfl rfl [0, 1, 2, 3, 4, 5, 6, 7, 8, 9, 10, 11] [] [0, 1, 2, 3, 4, 5, 6, 7, 8, 9, 10, 11] rfl rfl (by decide) rfl (fun H locs hP hD hS => ?_)
    refine lv_if_eq (tgt := 29) hx hb dX5_tellPlan_14 (by decide) (fun hc10 => ?_) (fun hc10 => ?_)
    · replace hf := (if_pos hc10).symm.trans hf
      refine lv_bipush (v := (-9 : Int32)) hx hb dX5_tellPlan_29 (by decide) ?_
      obtain rfl := Option.some.inj hf
      exact rt_i Cc hK hP hD hS dX5_tellPlan_31
    · replace hf := (if_neg hc10).symm.trans hf
      refine lv_aload_n hx hb dX5_tellPlan_17 rfl (lv_at hl 0 rfl) ?_
      refine va_get (D := D) (ci := 5) (v := .ref a_m_wet) (C := RX5) (T := TX5) (N := 25) hx hb hts inX5 hown hK hP 0 rfl rfl 10 (by decide) (hts _ tw_513) (fun _ h9 => h9) rfl dX5_tellPlan_18 ?_
      refine lv_iload_n hx hb dX5_tellPlan_21 rfl (lv_at hl 1 rfl) ?_
      refine lv_bipush (v := (10 : Int32)) hx hb dX5_tellPlan_22 (by decide) ?_
      refine lv_isub hx hb dX5_tellPlan_24 ?_
      obtain ⟨hin, hf⟩ := gd_some hf
      refine va_iald hx hb hK hP 5 0 rfl rfl hin dX5_tellPlan_25 ?_
      refine lv_goto (tgt := 31) hx hb dX5_tellPlan_26 (by decide) ?_
      obtain rfl := Option.some.inj hf
      exact rt_i Cc hK hP hD hS dX5_tellPlan_31
-- X5_plan
def fX5_plan_103 (n : Nat) : Nat → Int32 → (Nat → Int32) → (Nat → Int32) → (Nat → Int32) → Int32 → Int32 → Int32 → (Nat → Int32) → (Nat → Int32) → (Nat → Int32) → Int32 → Int32 → Int32 → Int32 → Int32 → Int32 → Int32 → Option (Int32 × Int32 × Int32 × (Nat → Int32) × (Nat → Int32) × Int32 × Int32 × Int32)
  | 0, _, _, _, _, _, _, _, _, _, _, _, _, _, _, _, _, _ => none
  | k + 1, m_fault, m_sorts, m_sheetLong, m_cells, m_sun, m_wide, m_deep, m_kind, m_wet, m_keptWet, m_keptSun, m_openFirst, m_planHours, x4, x5, x7, x8 => if x4 ≤ x8 then (fX5_keep n m_sun m_wide m_deep m_wet m_keptWet m_keptSun).bind fun q157_1 => (fX5_goPlan n m_cells m_sun m_wide m_deep m_kind m_wet m_openFirst m_planHours x7 x4).bind fun q165_2 => (fX5_tellPlan n q165_2.2.1 m_wide m_deep m_kind q165_2.2.2.1 q165_2.2.2.2.1 x5).bind fun q173_3 => (fX5_putBack n q165_2.2.1 m_wide m_deep q165_2.2.2.1 q157_1.1 q157_1.2).bind fun q179_4 => if x5 = (1 : Int32) then some (q165_2.1, m_fault, q179_4.1, q179_4.2, q157_1.1, q157_1.2, q165_2.2.2.2.1, q165_2.2.2.2.2) else if q165_2.1 = (-9 : Int32) then some (q173_3, m_fault, q179_4.1, q179_4.2, q157_1.1, q157_1.2, q165_2.2.2.2.1, q165_2.2.2.2.2) else some (((-100 : Int32) - q165_2.1), m_fault, q179_4.1, q179_4.2, q157_1.1, q157_1.2, q165_2.2.2.2.1, q165_2.2.2.2.2) else gd (x7 + ((2 : Int32) * x8)) 240 (gd ((x7 + ((2 : Int32) * x8)) + (1 : Int32)) 240 ((fX5_refusesPair n m_wide m_deep (m_cells (x7 + ((2 : Int32) * x8)).toNatClampNeg) (m_cells ((x7 + ((2 : Int32) * x8)) + (1 : Int32)).toNatClampNeg)).bind fun q137_1 => if q137_1 = 0 then fX5_plan_103 n k m_fault m_sorts m_sheetLong m_cells m_sun m_wide m_deep m_kind m_wet m_keptWet m_keptSun m_openFirst m_planHours x4 x5 x7 (x8 + 1) else some (q137_1, m_fault, m_sun, m_wet, m_keptWet, m_keptSun, m_openFirst, m_planHours)))
def fX5_plan_57 (n : Nat) (m_fault : Int32) (m_sorts : Nat → Int32) (m_sheetLong : Nat → Int32) (m_cells : Nat → Int32) (m_sun : Int32) (m_wide : Int32) (m_deep : Int32) (m_kind : Nat → Int32) (m_wet : Nat → Int32) (m_keptWet : Nat → Int32) (m_keptSun : Int32) (m_openFirst : Int32) (m_planHours : Int32) (x1 : Int32) (x2 : Int32) (x3 : Int32) (x4 : Int32) (x5 : Int32) : Option (Int32 × Int32 × Int32 × (Nat → Int32) × (Nat → Int32) × Int32 × Int32 × Int32) := (fX5_against n m_sorts m_sheetLong x1 x2 x3 ((2 : Int32) * x4)).bind fun q65_1 => if q65_1 = 0 then if m_wide = 0 then some ((-3 : Int32), m_fault, m_sun, m_wet, m_keptWet, m_keptSun, m_openFirst, m_planHours) else fX5_plan_103 n n m_fault m_sorts m_sheetLong m_cells m_sun m_wide m_deep m_kind m_wet m_keptWet m_keptSun m_openFirst m_planHours x4 x5 (((60 : Int32) * x1) + x3) (0 : Int32) else (fX5_fails n m_fault q65_1).bind fun q78_1 => some (q78_1.1, q78_1.2, m_sun, m_wet, m_keptWet, m_keptSun, m_openFirst, m_planHours)
def fX5_plan (n : Nat) (m_fault : Int32) (m_sorts : Nat → Int32) (m_sheetLong : Nat → Int32) (m_cells : Nat → Int32) (m_sun : Int32) (m_wide : Int32) (m_deep : Int32) (m_kind : Nat → Int32) (m_wet : Nat → Int32) (m_keptWet : Nat → Int32) (m_keptSun : Int32) (m_openFirst : Int32) (m_planHours : Int32) (p1 : Int32) (p2 : Int32) (p3 : Int32) (p4 : Int32) (p5 : Int32) : Option (Int32 × Int32 × Int32 × (Nat → Int32) × (Nat → Int32) × Int32 × Int32 × Int32) := (fX5_isSheet n p1).bind fun q6_1 => if q6_1 = 0 then some ((-1 : Int32), (0 : Int32), m_sun, m_wet, m_keptWet, m_keptSun, m_openFirst, m_planHours) else (fX5_isSort n p2).bind fun q15_1 => if q15_1 = 0 then some ((-2 : Int32), (0 : Int32), m_sun, m_wet, m_keptWet, m_keptSun, m_openFirst, m_planHours) else (fX5_within n p4 (0 : Int32) (20 : Int32)).bind fun q26_1 => if q26_1 = 0 then some ((-2 : Int32), (0 : Int32), m_sun, m_wet, m_keptWet, m_keptSun, m_openFirst, m_planHours) else (fX5_within n p5 (0 : Int32) (4 : Int32)).bind fun q36_1 => if q36_1 = 0 then (fX5_within n p5 (10 : Int32) (21 : Int32)).bind fun q48_1 => if q48_1 = 0 then some ((-2 : Int32), (0 : Int32), m_sun, m_wet, m_keptWet, m_keptSun, m_openFirst, m_planHours) else fX5_plan_57 n (0 : Int32) m_sorts m_sheetLong m_cells m_sun m_wide m_deep m_kind m_wet m_keptWet m_keptSun m_openFirst m_planHours p1 p2 p3 p4 p5 else fX5_plan_57 n (0 : Int32) m_sorts m_sheetLong m_cells m_sun m_wide m_deep m_kind m_wet m_keptWet m_keptSun m_openFirst m_planHours p1 p2 p3 p4 p5
theorem mdX5_plan : yX5_plan.cls = RX5 ∧ yX5_plan.cls ≠ "java/lang/invoke/MethodHandle" ∧ yX5_plan.cls ≠ "java/lang/invoke/VarHandle" ∧ (parseMethodDescriptor yX5_plan.desc).map (fun d => d.parameters.length) = some 5 := by decide +kernel
set_option maxHeartbeats 4000000 in
set_option maxRecDepth 100000 in
theorem bX5_plan_103 {p : Program} {l : Launch} {e : Env} {s : State} {m : MethodId} {args : Array Value} {below : List Frame} {meth : Method} {c : Code} {A : Nat → Prop} {D : va_G} {cI cS : ClassId} (a_m a_m_sorts a_m_sheetLong a_m_cells a_m_kind a_m_wet a_m_readKind a_m_readWet a_m_keptWet a_m_readCells a_m_readHours a_m_readCracked : Nat) (m_trace : Int32) (m_hour : Int32) (m_at : Int32) (m_readSun : Int32) (m_readWide : Int32) (m_readDeep : Int32) (m_readKind : Nat → Int32) (m_readWet : Nat → Int32) (m_readings : Int32) (m_readCells : Nat → Int32) (m_readHours : Nat → Int32) (m_readCracked : Nat → Int32) (Cc : Cx p s m args meth c RX5 cX5_plan 10 (some .int)) (hK : va_K D classes (tysA cI cS) s) (hA : ∀ q, s.heap.size ≤ q → A q) (n : Nat) : ∀ (k : Nat) (m_fault : Int32) (m_sorts : Nat → Int32) (m_sheetLong : Nat → Int32) (m_cells : Nat → Int32) (m_sun : Int32) (m_wide : Int32) (m_deep : Int32) (m_kind : Nat → Int32) (m_wet : Nat → Int32) (m_keptWet : Nat → Int32) (m_keptSun : Int32) (m_openFirst : Int32) (m_planHours : Int32) (x4 : Int32) (x5 : Int32) (x7 : Int32) (x8 : Int32) (r : Int32) (m_fault' : Int32) (m_sun' : Int32) (m_wet' : Nat → Int32) (m_keptWet' : Nat → Int32) (m_keptSun' : Int32) (m_openFirst' : Int32) (m_planHours' : Int32), fX5_plan_103 n k m_fault m_sorts m_sheetLong m_cells m_sun m_wide m_deep m_kind m_wet m_keptWet m_keptSun m_openFirst m_planHours x4 x5 x7 x8 = some (r, m_fault', m_sun', m_wet', m_keptWet', m_keptSun', m_openFirst', m_planHours') → ∀ (H : Heap) (locs : List Loc) (ls : Array Slot), va_P D classes (W_m cI cS a_m a_m_sorts a_m_sheetLong a_m_cells a_m_kind a_m_wet a_m_readKind a_m_readWet a_m_keptWet a_m_readCells a_m_readHours a_m_readCracked m_fault m_trace m_sorts m_sheetLong m_cells m_sun m_wide m_deep m_hour m_kind m_wet m_at m_readSun m_readWide m_readDeep m_readKind m_readWet m_keptWet m_keptSun m_openFirst m_planHours m_readings m_readCells m_readHours m_readCracked) H → va_D A (W_m cI cS a_m a_m_sorts a_m_sheetLong a_m_cells a_m_kind a_m_wet a_m_readKind a_m_readWet a_m_keptWet a_m_readCells a_m_readHours a_m_readCracked m_fault m_trace m_sorts m_sheetLong m_cells m_sun m_wide m_deep m_hour m_kind m_wet m_at m_readSun m_readWide m_readDeep m_readKind m_readWet m_keptWet m_keptSun m_openFirst m_planHours m_readings m_readCells m_readHours m_readCracked) → va_S A s.heap H locs → lv_has ls 10 [(0, .ref a_m), (4, .int x4), (5, .int x5), (7, .int x7), (8, .int x8)] → W p l e (Rm 7) s m args below meth c H locs 0 0 (MQ below (QW D (tysA cI cS) (some (.int r)) (W_m cI cS a_m a_m_sorts a_m_sheetLong a_m_cells a_m_kind a_m_wet a_m_readKind a_m_readWet a_m_keptWet a_m_readCells a_m_readHours a_m_readCracked m_fault' m_trace m_sorts m_sheetLong m_cells m_sun' m_wide m_deep m_hour m_kind m_wet' m_at m_readSun m_readWide m_readDeep m_readKind m_readWet m_keptWet' m_keptSun' m_openFirst' m_planHours' m_readings m_readCells m_readHours m_readCracked) A) args s 0 0 A) (F0 m 103 ls []) := by
  obtain ⟨hx, hb, hr, hml, hown, hts, hlk, hnw⟩ := id Cc
  intro k
  induction k with
  | zero =>
    intro m_fault m_sorts m_sheetLong m_cells m_sun m_wide m_deep m_kind m_wet m_keptWet m_keptSun m_openFirst m_planHours x4 x5 x7 x8 r m_fault' m_sun' m_wet' m_keptWet' m_keptSun' m_openFirst' m_planHours' hf
    rw [fX5_plan_103] at hf
    cases hf
  | succ k ih =>
    intro m_fault m_sorts m_sheetLong m_cells m_sun m_wide m_deep m_kind m_wet m_keptWet m_keptSun m_openFirst m_planHours x4 x5 x7 x8 r m_fault' m_sun' m_wet' m_keptWet' m_keptSun' m_openFirst' m_planHours' hf H locs ls hP hD hS hl
    rw [fX5_plan_103] at hf
    refine lv_iload hx hb dX5_plan_103 (lv_at hl 4 rfl) ?_
    refine lv_iload hx hb dX5_plan_105 (lv_at hl 1 rfl) ?_
    refine lv_icmp_ge (tgt := 156) hx hb dX5_plan_107 (by decide) (fun hc12 => ?_) (fun hc12 => ?_)
    · replace hf := (if_pos hc12).symm.trans hf
      refine lv_aload_n hx hb dX5_plan_156 rfl (lv_at hl 0 rfl) ?_
      obtain ⟨q157_1, hq13, hf⟩ := Option.bind_eq_some_iff.mp hf
      refine cV (ws' := (W_m cI cS a_m a_m_sorts a_m_sheetLong a_m_cells a_m_kind a_m_wet a_m_readKind a_m_readWet a_m_keptWet a_m_readCells a_m_readHours a_m_readCracked m_fault m_trace m_sorts m_sheetLong m_cells m_sun m_wide m_deep m_hour m_kind m_wet m_at m_readSun m_readWide m_readDeep m_readKind m_readWet q157_1.1 q157_1.2 m_openFirst m_planHours m_readings m_readCells m_readHours m_readCracked)) (rest := []) (st1 := []) Cc hK hA hP hD hS hl.1 (ctX5_keep l D cI cS a_m a_m_sorts a_m_sheetLong a_m_cells a_m_kind a_m_wet a_m_readKind a_m_readWet a_m_keptWet a_m_readCells a_m_readHours a_m_readCracked m_fault m_trace m_sorts m_sheetLong m_cells m_sun m_wide m_deep m_hour m_kind m_wet m_at m_readSun m_readWide m_readDeep m_readKind m_readWet m_keptWet m_keptSun m_openFirst m_planHours m_readings m_readCells m_readHours m_readCracked  n q157_1.1 q157_1.2 hq13) ⟨tw_708, tw_705, tw_707, tp_29, tw_6⟩ mdX5_keep ⟨rfl, rfl, Nat.le_of_ble_eq_true rfl, Nat.le_of_ble_eq_true rfl⟩ rfl dX5_plan_157 rfl (Nat.le_of_ble_eq_true rfl) ⟨Nat.zero_le _, Nat.zero_le _⟩ rfl rfl rfl [0, 1, 2, 3, 4, 5, 6, 7, 8, 9, 10, 11] [] [0, 1, 2, 3, 4, 5, 6, 7, 8, 9, 10, 11] rfl rfl (by decide) rfl (fun H locs hP hD hS => ?_)
      refine lv_aload_n hx hb dX5_plan_160 rfl (lv_at hl 0 rfl) ?_
      refine lv_iload hx hb dX5_plan_161 (lv_at hl 3 rfl) ?_
      refine lv_iload hx hb dX5_plan_163 (lv_at hl 1 rfl) ?_
      obtain ⟨q165_2, hq14, hf⟩ := Option.bind_eq_some_iff.mp hf
      refine cV (ws' := (W_m cI cS a_m a_m_sorts a_m_sheetLong a_m_cells a_m_kind a_m_wet a_m_readKind a_m_readWet a_m_keptWet a_m_readCells a_m_readHours a_m_readCracked m_fault m_trace m_sorts m_sheetLong m_cells q165_2.2.1 m_wide m_deep m_hour m_kind q165_2.2.2.1 m_at m_readSun m_readWide m_readDeep m_readKind m_readWet q157_1.1 q157_1.2 q165_2.2.2.2.1 q165_2.2.2.2.2 m_readings m_readCells m_readHours m_readCracked)) (rest := []) (st1 := [.int q165_2.1]) Cc hK hA hP hD hS hl.1 (ctX5_goPlan l D cI cS a_m a_m_sorts a_m_sheetLong a_m_cells a_m_kind a_m_wet a_m_readKind a_m_readWet a_m_keptWet a_m_readCells a_m_readHours a_m_readCracked m_fault m_trace m_sorts m_sheetLong m_cells m_sun m_wide m_deep m_hour m_kind m_wet m_at m_readSun m_readWide m_readDeep m_readKind m_readWet q157_1.1 q157_1.2 m_openFirst m_planHours m_readings m_readCells m_readHours m_readCracked x7 x4 n q165_2.1 q165_2.2.1 q165_2.2.2.1 q165_2.2.2.2.1 q165_2.2.2.2.2 hq14) ⟨tw_712, tw_709, tw_711, tp_30, tw_6⟩ mdX5_goPlan ⟨rfl, rfl, Nat.le_of_ble_eq_true rfl, Nat.le_of_ble_eq_true rfl⟩ rfl dX5_plan_165 rfl (Nat.le_of_ble_eq_true rfl) ⟨Nat.zero_le _, Nat.zero_le _⟩ rfl rfl rfl [0, 1, 2, 3, 4, 5, 6, 7, 8, 9, 10, 11] [] [0, 1, 2, 3, 4, 5, 6, 7, 8, 9, 10, 11] rfl rfl (by decide) rfl (fun H locs hP hD hS => ?_)
      refine lv_istore (lv' := [(8, .int q165_2.1), (0, .ref a_m), (4, .int x4), (5, .int x5), (7, .int x7)]) hx hb dX5_plan_168 hl (by decide) rfl (fun ls hl => ?_)
      refine lv_aload_n hx hb dX5_plan_170 rfl (lv_at hl 1 rfl) ?_
      refine lv_iload hx hb dX5_plan_171 (lv_at hl 3 rfl) ?_
      obtain ⟨q173_3, hq15, hf⟩ := Option.bind_eq_some_iff.mp hf
      refine cV (ws' := (W_m cI cS a_m a_m_sorts a_m_sheetLong a_m_cells a_m_kind a_m_wet a_m_readKind a_m_readWet a_m_keptWet a_m_readCells a_m_readHours a_m_readCracked m_fault m_trace m_sorts m_sheetLong m_cells q165_2.2.1 m_wide m_deep m_hour m_kind q165_2.2.2.1 m_at m_readSun m_readWide m_readDeep m_readKind m_readWet q157_1.1 q157_1.2 q165_2.2.2.2.1 q165_2.2.2.2.2 m_readings m_readCells m_readHours m_readCracked)) (rest := []) (st1 := [.int q173_3]) Cc hK hA hP hD hS hl.1 (ctX5_tellPlan l D cI cS a_m a_m_sorts a_m_sheetLong a_m_cells a_m_kind a_m_wet a_m_readKind a_m_readWet a_m_keptWet a_m_readCells a_m_readHours a_m_readCracked m_fault m_trace m_sorts m_sheetLong m_cells q165_2.2.1 m_wide m_deep m_hour m_kind q165_2.2.2.1 m_at m_readSun m_readWide m_readDeep m_readKind m_readWet q157_1.1 q157_1.2 q165_2.2.2.2.1 q165_2.2.2.2.2 m_readings m_readCells m_readHours m_readCracked x5 n q173_3 hq15) ⟨tw_724, tw_721, tw_723, tp_33, tw_6⟩ mdX5_tellPlan ⟨rfl, rfl, Nat.le_of_ble_eq_true rfl, Nat.le_of_ble_eq_true rfl⟩ rfl dX5_plan_173 rfl (Nat.le_of_ble_eq_true rfl) ⟨Nat.zero_le _, Nat.zero_le _⟩ rfl rfl rfl [0, 1, 2, 3, 4, 5, 6, 7, 8, 9, 10, 11] [] [0, 1, 2, 3, 4, 5, 6, 7, 8, 9, 10, 11] rfl rfl (by decide) rfl (fun H locs hP hD hS => ?_)
      refine lv_istore (lv' := [(9, .int q173_3), (8, .int q165_2.1), (0, .ref a_m), (4, .int x4), (5, .int x5), (7, .int x7)]) hx hb dX5_plan_176 hl (by decide) rfl (fun ls hl => ?_)
      refine lv_aload_n hx hb dX5_plan_178 rfl (lv_at hl 2 rfl) ?_
      obtain ⟨q179_4, hq16, hf⟩ := Option.bind_eq_some_iff.mp hf
      refine cV (ws' := (W_m cI cS a_m a_m_sorts a_m_sheetLong a_m_cells a_m_kind a_m_wet a_m_readKind a_m_readWet a_m_keptWet a_m_readCells a_m_readHours a_m_readCracked m_fault m_trace m_sorts m_sheetLong m_cells q179_4.1 m_wide m_deep m_hour m_kind q179_4.2 m_at m_readSun m_readWide m_readDeep m_readKind m_readWet q157_1.1 q157_1.2 q165_2.2.2.2.1 q165_2.2.2.2.2 m_readings m_readCells m_readHours m_readCracked)) (rest := []) (st1 := []) Cc hK hA hP hD hS hl.1 (ctX5_putBack l D cI cS a_m a_m_sorts a_m_sheetLong a_m_cells a_m_kind a_m_wet a_m_readKind a_m_readWet a_m_keptWet a_m_readCells a_m_readHours a_m_readCracked m_fault m_trace m_sorts m_sheetLong m_cells q165_2.2.1 m_wide m_deep m_hour m_kind q165_2.2.2.1 m_at m_readSun m_readWide m_readDeep m_readKind m_readWet q157_1.1 q157_1.2 q165_2.2.2.2.1 q165_2.2.2.2.2 m_readings m_readCells m_readHours m_readCracked  n q179_4.1 q179_4.2 hq16) ⟨tw_728, tw_725, tw_727, tp_34, tw_6⟩ mdX5_putBack ⟨rfl, rfl, Nat.le_of_ble_eq_true rfl, Nat.le_of_ble_eq_true rfl⟩ rfl dX5_plan_179 rfl (Nat.le_of_ble_eq_true rfl) ⟨Nat.zero_le _, Nat.zero_le _⟩ rfl rfl rfl [0, 1, 2, 3, 4, 5, 6, 7, 8, 9, 10, 11] [] [0, 1, 2, 3, 4, 5, 6, 7, 8, 9, 10, 11] rfl rfl (by decide) rfl (fun H locs hP hD hS => ?_)
      refine lv_iload hx hb dX5_plan_182 (lv_at hl 4 rfl) ?_
      refine lv_iconst (v := (1 : Int32)) hx hb dX5_plan_184 (by decide) ?_
      refine lv_icmp_ne (tgt := 193) hx hb dX5_plan_185 (by decide) (fun hc17 => ?_) (fun hc17 => ?_)
      · replace hf := (if_neg hc17).symm.trans hf
        refine lv_iload hx hb dX5_plan_193 (lv_at hl 1 rfl) ?_
        refine lv_bipush (v := (-9 : Int32)) hx hb dX5_plan_195 (by decide) ?_
        refine lv_icmp_ne (tgt := 205) hx hb dX5_plan_197 (by decide) (fun hc18 => ?_) (fun hc18 => ?_)
        · replace hf := (if_neg hc18).symm.trans hf
          refine lv_bipush (v := (-100 : Int32)) hx hb dX5_plan_205 (by decide) ?_
          refine lv_iload hx hb dX5_plan_207 (lv_at hl 1 rfl) ?_
          refine lv_isub hx hb dX5_plan_209 ?_
          replace hf := Option.some.inj hf
          obtain ⟨er0, er1⟩ := Prod.mk.inj hf
          obtain ⟨er2, er3⟩ := Prod.mk.inj er1
          obtain ⟨er4, er5⟩ := Prod.mk.inj er3
          obtain ⟨er6, er7⟩ := Prod.mk.inj er5
          obtain ⟨er8, er9⟩ := Prod.mk.inj er7
          obtain ⟨er10, er11⟩ := Prod.mk.inj er9
          obtain ⟨er12, er13⟩ := Prod.mk.inj er11
          clear hf er1 er3 er5 er7 er9 er11
          subst er0
          subst er2
          subst er4
          subst er6
          subst er8
          subst er10
          subst er12
          subst er13
          exact rt_i Cc hK hP hD hS dX5_plan_210
        · replace hf := (if_pos hc18).symm.trans hf
          refine lv_iload hx hb dX5_plan_200 (lv_at hl 0 rfl) ?_
          refine lv_goto (tgt := 210) hx hb dX5_plan_202 (by decide) ?_
          replace hf := Option.some.inj hf
          obtain ⟨er0, er1⟩ := Prod.mk.inj hf
          obtain ⟨er2, er3⟩ := Prod.mk.inj er1
          obtain ⟨er4, er5⟩ := Prod.mk.inj er3
          obtain ⟨er6, er7⟩ := Prod.mk.inj er5
          obtain ⟨er8, er9⟩ := Prod.mk.inj er7
          obtain ⟨er10, er11⟩ := Prod.mk.inj er9
          obtain ⟨er12, er13⟩ := Prod.mk.inj er11
          clear hf er1 er3 er5 er7 er9 er11
          subst er0
          subst er2
          subst er4
          subst er6
          subst er8
          subst er10
          subst er12
          subst er13
          exact rt_i Cc hK hP hD hS dX5_plan_210
      · replace hf := (if_pos hc17).symm.trans hf
        refine lv_iload hx hb dX5_plan_188 (lv_at hl 1 rfl) ?_
        refine lv_goto (tgt := 210) hx hb dX5_plan_190 (by decide) ?_
        replace hf := Option.some.inj hf
        obtain ⟨er0, er1⟩ := Prod.mk.inj hf
        obtain ⟨er2, er3⟩ := Prod.mk.inj er1
        obtain ⟨er4, er5⟩ := Prod.mk.inj er3
        obtain ⟨er6, er7⟩ := Prod.mk.inj er5
        obtain ⟨er8, er9⟩ := Prod.mk.inj er7
        obtain ⟨er10, er11⟩ := Prod.mk.inj er9
        obtain ⟨er12, er13⟩ := Prod.mk.inj er11
        clear hf er1 er3 er5 er7 er9 er11
        subst er0
        subst er2
        subst er4
        subst er6
        subst er8
        subst er10
        subst er12
        subst er13
        exact rt_i Cc hK hP hD hS dX5_plan_210
    · replace hf := (if_neg hc12).symm.trans hf
      refine lv_aload_n hx hb dX5_plan_110 rfl (lv_at hl 0 rfl) ?_
      refine lv_aload_n hx hb dX5_plan_111 rfl (lv_at hl 0 rfl) ?_
      refine va_get (D := D) (ci := 5) (v := .ref a_m_cells) (C := RX5) (T := TX5) (N := 25) hx hb hts inX5 hown hK hP 0 rfl rfl 4 (by decide) (hts _ tw_507) (fun _ h9 => h9) rfl dX5_plan_112 ?_
      refine lv_iload hx hb dX5_plan_115 (lv_at hl 3 rfl) ?_
      refine lv_iconst (v := (2 : Int32)) hx hb dX5_plan_117 (by decide) ?_
      refine lv_iload hx hb dX5_plan_118 (lv_at hl 4 rfl) ?_
      refine lv_imul hx hb dX5_plan_120 ?_
      refine lv_iadd hx hb dX5_plan_121 ?_
      obtain ⟨hin, hf⟩ := gd_some hf
      refine va_iald hx hb hK hP 3 0 rfl rfl hin dX5_plan_122 ?_
      refine lv_aload_n hx hb dX5_plan_123 rfl (lv_at hl 0 rfl) ?_
      refine va_get (D := D) (ci := 5) (v := .ref a_m_cells) (C := RX5) (T := TX5) (N := 25) hx hb hts inX5 hown hK hP 0 rfl rfl 4 (by decide) (hts _ tw_507) (fun _ h9 => h9) rfl dX5_plan_124 ?_
      refine lv_iload hx hb dX5_plan_127 (lv_at hl 3 rfl) ?_
      refine lv_iconst (v := (2 : Int32)) hx hb dX5_plan_129 (by decide) ?_
      refine lv_iload hx hb dX5_plan_130 (lv_at hl 4 rfl) ?_
      refine lv_imul hx hb dX5_plan_132 ?_
      refine lv_iadd hx hb dX5_plan_133 ?_
      refine lv_iconst (v := (1 : Int32)) hx hb dX5_plan_134 (by decide) ?_
      refine lv_iadd hx hb dX5_plan_135 ?_
      obtain ⟨hin, hf⟩ := gd_some hf
      refine va_iald hx hb hK hP 3 0 rfl rfl hin dX5_plan_136 ?_
      obtain ⟨q137_1, hq19, hf⟩ := Option.bind_eq_some_iff.mp hf
      refine cV (ws' := (W_m cI cS a_m a_m_sorts a_m_sheetLong a_m_cells a_m_kind a_m_wet a_m_readKind a_m_readWet a_m_keptWet a_m_readCells a_m_readHours a_m_readCracked m_fault m_trace m_sorts m_sheetLong m_cells m_sun m_wide m_deep m_hour m_kind m_wet m_at m_readSun m_readWide m_readDeep m_readKind m_readWet m_keptWet m_keptSun m_openFirst m_planHours m_readings m_readCells m_readHours m_readCracked)) (rest := []) (st1 := [.int q137_1]) Cc hK hA hP hD hS hl.1 (ctX5_refusesPair l D cI cS a_m a_m_sorts a_m_sheetLong a_m_cells a_m_kind a_m_wet a_m_readKind a_m_readWet a_m_keptWet a_m_readCells a_m_readHours a_m_readCracked m_fault m_trace m_sorts m_sheetLong m_cells m_sun m_wide m_deep m_hour m_kind m_wet m_at m_readSun m_readWide m_readDeep m_readKind m_readWet m_keptWet m_keptSun m_openFirst m_planHours m_readings m_readCells m_readHours m_readCracked (m_cells (x7 + ((2 : Int32) * x8)).toNatClampNeg) (m_cells ((x7 + ((2 : Int32) * x8)) + (1 : Int32)).toNatClampNeg) n q137_1 hq19) ⟨tw_704, tw_701, tw_703, tp_28, tw_6⟩ mdX5_refusesPair ⟨rfl, rfl, Nat.le_of_ble_eq_true rfl, Nat.le_of_ble_eq_true rfl⟩ rfl dX5_plan_137 rfl (Nat.le_of_ble_eq_true rfl) ⟨Nat.zero_le _, Nat.zero_le _⟩ rfl rfl rfl [0, 1, 2, 3, 4, 5, 6, 7, 8, 9, 10, 11] [] [0, 1, 2, 3, 4, 5, 6, 7, 8, 9, 10, 11] rfl rfl (by decide) rfl (fun H locs hP hD hS => ?_)
      refine lv_istore (lv' := [(9, .int q137_1), (0, .ref a_m), (4, .int x4), (5, .int x5), (7, .int x7), (8, .int x8)]) hx hb dX5_plan_140 hl (by decide) rfl (fun ls hl => ?_)
      refine lv_iload hx hb dX5_plan_142 (lv_at hl 0 rfl) ?_
      refine lv_if_eq (tgt := 150) hx hb dX5_plan_144 (by decide) (fun hc20 => ?_) (fun hc20 => ?_)
      · replace hf := (if_pos hc20).symm.trans hf
        refine lv_iinc (v := (x8 + 1)) (lv' := [(8, .int (x8 + 1)), (9, .int q137_1), (0, .ref a_m), (4, .int x4), (5, .int x5), (7, .int x7)]) hx hb dX5_plan_150 hl (k := 5) rfl rfl (by decide) rfl (fun ls hl => ?_)
        refine lv_goto (tgt := 103) hx hb dX5_plan_153 (by decide) ?_
        exact ih _ _ _ _ _ _ _ _ _ _ _ _ _ _ _ _ _ _ _ _ _ _ _ _ _ hf _ _ _ hP hD hS (lv_sub hl [2, 3, 4, 5, 0] rfl)
      · replace hf := (if_neg hc20).symm.trans hf
        refine lv_iload hx hb dX5_plan_147 (lv_at hl 0 rfl) ?_
        replace hf := Option.some.inj hf
        obtain ⟨er0, er1⟩ := Prod.mk.inj hf
        obtain ⟨er2, er3⟩ := Prod.mk.inj er1
        obtain ⟨er4, er5⟩ := Prod.mk.inj er3
        obtain ⟨er6, er7⟩ := Prod.mk.inj er5
        obtain ⟨er8, er9⟩ := Prod.mk.inj er7
        obtain ⟨er10, er11⟩ := Prod.mk.inj er9
        obtain ⟨er12, er13⟩ := Prod.mk.inj er11
        clear hf er1 er3 er5 er7 er9 er11
        subst er0
        subst er2
        subst er4
        subst er6
        subst er8
        subst er10
        subst er12
        subst er13
        exact rt_i Cc hK hP hD hS dX5_plan_149
set_option maxHeartbeats 4000000 in
set_option maxRecDepth 100000 in
theorem bX5_plan_57 {p : Program} {l : Launch} {e : Env} {s : State} {m : MethodId} {args : Array Value} {below : List Frame} {meth : Method} {c : Code} {A : Nat → Prop} {D : va_G} {cI cS : ClassId} (a_m a_m_sorts a_m_sheetLong a_m_cells a_m_kind a_m_wet a_m_readKind a_m_readWet a_m_keptWet a_m_readCells a_m_readHours a_m_readCracked : Nat) (m_trace : Int32) (m_hour : Int32) (m_at : Int32) (m_readSun : Int32) (m_readWide : Int32) (m_readDeep : Int32) (m_readKind : Nat → Int32) (m_readWet : Nat → Int32) (m_readings : Int32) (m_readCells : Nat → Int32) (m_readHours : Nat → Int32) (m_readCracked : Nat → Int32) (Cc : Cx p s m args meth c RX5 cX5_plan 10 (some .int)) (hK : va_K D classes (tysA cI cS) s) (hA : ∀ q, s.heap.size ≤ q → A q) (n : Nat) : ∀ (m_fault : Int32) (m_sorts : Nat → Int32) (m_sheetLong : Nat → Int32) (m_cells : Nat → Int32) (m_sun : Int32) (m_wide : Int32) (m_deep : Int32) (m_kind : Nat → Int32) (m_wet : Nat → Int32) (m_keptWet : Nat → Int32) (m_keptSun : Int32) (m_openFirst : Int32) (m_planHours : Int32) (x1 : Int32) (x2 : Int32) (x3 : Int32) (x4 : Int32) (x5 : Int32) (r : Int32) (m_fault' : Int32) (m_sun' : Int32) (m_wet' : Nat → Int32) (m_keptWet' : Nat → Int32) (m_keptSun' : Int32) (m_openFirst' : Int32) (m_planHours' : Int32), fX5_plan_57 n m_fault m_sorts m_sheetLong m_cells m_sun m_wide m_deep m_kind m_wet m_keptWet m_keptSun m_openFirst m_planHours x1 x2 x3 x4 x5 = some (r, m_fault', m_sun', m_wet', m_keptWet', m_keptSun', m_openFirst', m_planHours') → ∀ (H : Heap) (locs : List Loc) (ls : Array Slot), va_P D classes (W_m cI cS a_m a_m_sorts a_m_sheetLong a_m_cells a_m_kind a_m_wet a_m_readKind a_m_readWet a_m_keptWet a_m_readCells a_m_readHours a_m_readCracked m_fault m_trace m_sorts m_sheetLong m_cells m_sun m_wide m_deep m_hour m_kind m_wet m_at m_readSun m_readWide m_readDeep m_readKind m_readWet m_keptWet m_keptSun m_openFirst m_planHours m_readings m_readCells m_readHours m_readCracked) H → va_D A (W_m cI cS a_m a_m_sorts a_m_sheetLong a_m_cells a_m_kind a_m_wet a_m_readKind a_m_readWet a_m_keptWet a_m_readCells a_m_readHours a_m_readCracked m_fault m_trace m_sorts m_sheetLong m_cells m_sun m_wide m_deep m_hour m_kind m_wet m_at m_readSun m_readWide m_readDeep m_readKind m_readWet m_keptWet m_keptSun m_openFirst m_planHours m_readings m_readCells m_readHours m_readCracked) → va_S A s.heap H locs → lv_has ls 10 [(0, .ref a_m), (1, .int x1), (2, .int x2), (3, .int x3), (4, .int x4), (5, .int x5)] → W p l e (Rm 7) s m args below meth c H locs 0 0 (MQ below (QW D (tysA cI cS) (some (.int r)) (W_m cI cS a_m a_m_sorts a_m_sheetLong a_m_cells a_m_kind a_m_wet a_m_readKind a_m_readWet a_m_keptWet a_m_readCells a_m_readHours a_m_readCracked m_fault' m_trace m_sorts m_sheetLong m_cells m_sun' m_wide m_deep m_hour m_kind m_wet' m_at m_readSun m_readWide m_readDeep m_readKind m_readWet m_keptWet' m_keptSun' m_openFirst' m_planHours' m_readings m_readCells m_readHours m_readCracked) A) args s 0 0 A) (F0 m 57 ls []) := by
  obtain ⟨hx, hb, hr, hml, hown, hts, hlk, hnw⟩ := id Cc
  intro m_fault m_sorts m_sheetLong m_cells m_sun m_wide m_deep m_kind m_wet m_keptWet m_keptSun m_openFirst m_planHours x1 x2 x3 x4 x5 r m_fault' m_sun' m_wet' m_keptWet' m_keptSun' m_openFirst' m_planHours' hf H locs ls hP hD hS hl
  unfold fX5_plan_57 at hf
  refine lv_aload_n hx hb dX5_plan_57 rfl (lv_at hl 0 rfl) ?_
  refine lv_iload_n hx hb dX5_plan_58 rfl (lv_at hl 1 rfl) ?_
  refine lv_iload_n hx hb dX5_plan_59 rfl (lv_at hl 2 rfl) ?_
  refine lv_iload_n hx hb dX5_plan_60 rfl (lv_at hl 3 rfl) ?_
  refine lv_iconst (v := (2 : Int32)) hx hb dX5_plan_61 (by decide) ?_
  refine lv_iload hx hb dX5_plan_62 (lv_at hl 4 rfl) ?_
  refine lv_imul hx hb dX5_plan_64 ?_
  obtain ⟨q65_1, hq9, hf⟩ := Option.bind_eq_some_iff.mp hf
  refine cV (ws' := (W_m cI cS a_m a_m_sorts a_m_sheetLong a_m_cells a_m_kind a_m_wet a_m_readKind a_m_readWet a_m_keptWet a_m_readCells a_m_readHours a_m_readCracked m_fault m_trace m_sorts m_sheetLong m_cells m_sun m_wide m_deep m_hour m_kind m_wet m_at m_readSun m_readWide m_readDeep m_readKind m_readWet m_keptWet m_keptSun m_openFirst m_planHours m_readings m_readCells m_readHours m_readCracked)) (rest := []) (st1 := [.int q65_1]) Cc hK hA hP hD hS hl.1 (ctX5_against l D cI cS a_m a_m_sorts a_m_sheetLong a_m_cells a_m_kind a_m_wet a_m_readKind a_m_readWet a_m_keptWet a_m_readCells a_m_readHours a_m_readCracked m_fault m_trace m_sorts m_sheetLong m_cells m_sun m_wide m_deep m_hour m_kind m_wet m_at m_readSun m_readWide m_readDeep m_readKind m_readWet m_keptWet m_keptSun m_openFirst m_planHours m_readings m_readCells m_readHours m_readCracked x1 x2 x3 ((2 : Int32) * x4) n q65_1 hq9) ⟨tw_595, tw_592, tw_594, tp_11, tw_6⟩ mdX5_against ⟨rfl, rfl, Nat.le_of_ble_eq_true rfl, Nat.le_of_ble_eq_true rfl⟩ rfl dX5_plan_65 rfl (Nat.le_of_ble_eq_true rfl) ⟨Nat.zero_le _, Nat.zero_le _⟩ rfl rfl rfl [0, 1, 2, 3, 4, 5, 6, 7, 8, 9, 10, 11] [] [0, 1, 2, 3, 4, 5, 6, 7, 8, 9, 10, 11] rfl rfl (by decide) rfl (fun H locs hP hD hS => ?_)
  refine lv_istore (lv' := [(6, .int q65_1), (0, .ref a_m), (1, .int x1), (2, .int x2), (3, .int x3), (4, .int x4), (5, .int x5)]) hx hb dX5_plan_68 hl (by decide) rfl (fun ls hl => ?_)
  refine lv_iload hx hb dX5_plan_70 (lv_at hl 0 rfl) ?_
  refine lv_if_eq (tgt := 82) hx hb dX5_plan_72 (by decide) (fun hc10 => ?_) (fun hc10 => ?_)
  · replace hf := (if_pos hc10).symm.trans hf
    refine lv_aload_n hx hb dX5_plan_82 rfl (lv_at hl 1 rfl) ?_
    refine va_get (D := D) (ci := 5) (v := .int m_wide) (C := RX5) (T := TX5) (N := 25) hx hb hts inX5 hown hK hP 0 rfl rfl 6 (by decide) (hts _ tw_509) (fun _ h9 => h9) rfl dX5_plan_83 ?_
    refine lv_if_ne (tgt := 92) hx hb dX5_plan_86 (by decide) (fun hc11 => ?_) (fun hc11 => ?_)
    · replace hf := (if_neg hc11).symm.trans hf
      refine lv_bipush (v := (60 : Int32)) hx hb dX5_plan_92 (by decide) ?_
      refine lv_iload_n hx hb dX5_plan_94 rfl (lv_at hl 2 rfl) ?_
      refine lv_imul hx hb dX5_plan_95 ?_
      refine lv_iload_n hx hb dX5_plan_96 rfl (lv_at hl 4 rfl) ?_
      refine lv_iadd hx hb dX5_plan_97 ?_
      refine lv_istore (lv' := [(7, .int (((60 : Int32) * x1) + x3)), (6, .int q65_1), (0, .ref a_m), (1, .int x1), (2, .int x2), (3, .int x3), (4, .int x4), (5, .int x5)]) hx hb dX5_plan_98 hl (by decide) rfl (fun ls hl => ?_)
      refine lv_iconst (v := (0 : Int32)) hx hb dX5_plan_100 (by decide) ?_
      refine lv_istore (lv' := [(8, .int (0 : Int32)), (7, .int (((60 : Int32) * x1) + x3)), (6, .int q65_1), (0, .ref a_m), (1, .int x1), (2, .int x2), (3, .int x3), (4, .int x4), (5, .int x5)]) hx hb dX5_plan_101 hl (by decide) rfl (fun ls hl => ?_)
      exact bX5_plan_103 a_m a_m_sorts a_m_sheetLong a_m_cells a_m_kind a_m_wet a_m_readKind a_m_readWet a_m_keptWet a_m_readCells a_m_readHours a_m_readCracked m_trace m_hour m_at m_readSun m_readWide m_readDeep m_readKind m_readWet m_readings m_readCells m_readHours m_readCracked Cc hK hA n n _ _ _ _ _ _ _ _ _ _ _ _ _ _ _ _ _ _ _ _ _ _ _ _ _ hf _ _ _ hP hD hS (lv_sub hl [3, 7, 8, 1, 0] rfl)
    · replace hf := (if_pos hc11).symm.trans hf
      refine lv_bipush (v := (-3 : Int32)) hx hb dX5_plan_89 (by decide) ?_
      replace hf := Option.some.inj hf
      obtain ⟨er0, er1⟩ := Prod.mk.inj hf
      obtain ⟨er2, er3⟩ := Prod.mk.inj er1
      obtain ⟨er4, er5⟩ := Prod.mk.inj er3
      obtain ⟨er6, er7⟩ := Prod.mk.inj er5
      obtain ⟨er8, er9⟩ := Prod.mk.inj er7
      obtain ⟨er10, er11⟩ := Prod.mk.inj er9
      obtain ⟨er12, er13⟩ := Prod.mk.inj er11
      clear hf er1 er3 er5 er7 er9 er11
      subst er0
      subst er2
      subst er4
      subst er6
      subst er8
      subst er10
      subst er12
      subst er13
      exact rt_i Cc hK hP hD hS dX5_plan_91
  · replace hf := (if_neg hc10).symm.trans hf
    refine lv_aload_n hx hb dX5_plan_75 rfl (lv_at hl 1 rfl) ?_
    refine lv_iload hx hb dX5_plan_76 (lv_at hl 0 rfl) ?_
    obtain ⟨q78_1, hq21, hf⟩ := Option.bind_eq_some_iff.mp hf
    refine cV (ws' := (W_m cI cS a_m a_m_sorts a_m_sheetLong a_m_cells a_m_kind a_m_wet a_m_readKind a_m_readWet a_m_keptWet a_m_readCells a_m_readHours a_m_readCracked q78_1.2 m_trace m_sorts m_sheetLong m_cells m_sun m_wide m_deep m_hour m_kind m_wet m_at m_readSun m_readWide m_readDeep m_readKind m_readWet m_keptWet m_keptSun m_openFirst m_planHours m_readings m_readCells m_readHours m_readCracked)) (rest := []) (st1 := [.int q78_1.1]) Cc hK hA hP hD hS hl.1 (ctX5_fails l D cI cS a_m a_m_sorts a_m_sheetLong a_m_cells a_m_kind a_m_wet a_m_readKind a_m_readWet a_m_keptWet a_m_readCells a_m_readHours a_m_readCracked m_fault m_trace m_sorts m_sheetLong m_cells m_sun m_wide m_deep m_hour m_kind m_wet m_at m_readSun m_readWide m_readDeep m_readKind m_readWet m_keptWet m_keptSun m_openFirst m_planHours m_readings m_readCells m_readHours m_readCracked q65_1 n q78_1.1 q78_1.2 hq21) ⟨tw_599, tw_596, tw_598, tp_12, tw_6⟩ mdX5_fails ⟨rfl, rfl, Nat.le_of_ble_eq_true rfl, Nat.le_of_ble_eq_true rfl⟩ rfl dX5_plan_78 rfl (Nat.le_of_ble_eq_true rfl) ⟨Nat.zero_le _, Nat.zero_le _⟩ rfl rfl rfl [0, 1, 2, 3, 4, 5, 6, 7, 8, 9, 10, 11] [] [0, 1, 2, 3, 4, 5, 6, 7, 8, 9, 10, 11] rfl rfl (by decide) rfl (fun H locs hP hD hS => ?_)
    replace hf := Option.some.inj hf
    obtain ⟨er0, er1⟩ := Prod.mk.inj hf
    obtain ⟨er2, er3⟩ := Prod.mk.inj er1
    obtain ⟨er4, er5⟩ := Prod.mk.inj er3
    obtain ⟨er6, er7⟩ := Prod.mk.inj er5
    obtain ⟨er8, er9⟩ := Prod.mk.inj er7
    obtain ⟨er10, er11⟩ := Prod.mk.inj er9
    obtain ⟨er12, er13⟩ := Prod.mk.inj er11
    clear hf er1 er3 er5 er7 er9 er11
    subst er0
    subst er2
    subst er4
    subst er6
    subst er8
    subst er10
    subst er12
    subst er13
    exact rt_i Cc hK hP hD hS dX5_plan_81
set_option maxHeartbeats 4000000 in
set_option maxRecDepth 100000 in
theorem ctX5_plan (l : Launch) (D : va_G) (cI cS : ClassId) (a_m a_m_sorts a_m_sheetLong a_m_cells a_m_kind a_m_wet a_m_readKind a_m_readWet a_m_keptWet a_m_readCells a_m_readHours a_m_readCracked : Nat) (m_fault : Int32) (m_trace : Int32) (m_sorts : Nat → Int32) (m_sheetLong : Nat → Int32) (m_cells : Nat → Int32) (m_sun : Int32) (m_wide : Int32) (m_deep : Int32) (m_hour : Int32) (m_kind : Nat → Int32) (m_wet : Nat → Int32) (m_at : Int32) (m_readSun : Int32) (m_readWide : Int32) (m_readDeep : Int32) (m_readKind : Nat → Int32) (m_readWet : Nat → Int32) (m_keptWet : Nat → Int32) (m_keptSun : Int32) (m_openFirst : Int32) (m_planHours : Int32) (m_readings : Int32) (m_readCells : Nat → Int32) (m_readHours : Nat → Int32) (m_readCracked : Nat → Int32) (p1 : Int32) (p2 : Int32) (p3 : Int32) (p4 : Int32) (p5 : Int32) (n : Nat) (r : Int32) (m_fault' : Int32) (m_sun' : Int32) (m_wet' : Nat → Int32) (m_keptWet' : Nat → Int32) (m_keptSun' : Int32) (m_openFirst' : Int32) (m_planHours' : Int32) (hf : fX5_plan n m_fault m_sorts m_sheetLong m_cells m_sun m_wide m_deep m_kind m_wet m_keptWet m_keptSun m_openFirst m_planHours p1 p2 p3 p4 p5 = some (r, m_fault', m_sun', m_wet', m_keptWet', m_keptSun', m_openFirst', m_planHours')) : Ct l D (tysA cI cS) yX5_plan cX5_plan 10 (some .int) (Rm 7) [.ref a_m, .int p1, .int p2, .int p3, .int p4, .int p5] (W_m cI cS a_m a_m_sorts a_m_sheetLong a_m_cells a_m_kind a_m_wet a_m_readKind a_m_readWet a_m_keptWet a_m_readCells a_m_readHours a_m_readCracked m_fault m_trace m_sorts m_sheetLong m_cells m_sun m_wide m_deep m_hour m_kind m_wet m_at m_readSun m_readWide m_readDeep m_readKind m_readWet m_keptWet m_keptSun m_openFirst m_planHours m_readings m_readCells m_readHours m_readCracked) (some (.int r)) (W_m cI cS a_m a_m_sorts a_m_sheetLong a_m_cells a_m_kind a_m_wet a_m_readKind a_m_readWet a_m_keptWet a_m_readCells a_m_readHours a_m_readCracked m_fault' m_trace m_sorts m_sheetLong m_cells m_sun' m_wide m_deep m_hour m_kind m_wet' m_at m_readSun m_readWide m_readDeep m_readKind m_readWet m_keptWet' m_keptSun' m_openFirst' m_planHours' m_readings m_readCells m_readHours m_readCracked) := by
  refine Ct_of (by decide) (Nat.le_of_ble_eq_true rfl) ?_
  intro p e s m args below meth c A ls Cc hK hA hP hD hS hl
  have hl : lv_has ls 10 [(0, .ref a_m), (1, .int p1), (2, .int p2), (3, .int p3), (4, .int p4), (5, .int p5)] := hl
  obtain ⟨hx, hb, hr, hml, hown, hts, hlk, hnw⟩ := id Cc
  unfold fX5_plan at hf
  refine lv_aload_n hx hb dX5_plan_0 rfl (lv_at hl 0 rfl) ?_
  refine lv_iconst (v := (0 : Int32)) hx hb dX5_plan_1 (by decide) ?_
  refine va_put (D := D) (ci := 5) (v := .int (0 : Int32)) (ty := .int) (C := RX5) (T := TX5) (N := 25) hx hb hts inX5 tyX5 tyX5_ok nmX5 hown hK hP hD hS 0 rfl rfl 0 (by decide) (hts _ tw_503) (fun _ h9 => h9) rfl (tyX5_ok 0 (by decide)) rfl rfl (Nat.le_of_ble_eq_true rfl) dX5_plan_2 (fun H locs hP hD hS => ?_)
  have hP : va_P D classes (W_m cI cS a_m a_m_sorts a_m_sheetLong a_m_cells a_m_kind a_m_wet a_m_readKind a_m_readWet a_m_keptWet a_m_readCells a_m_readHours a_m_readCracked (0 : Int32) m_trace m_sorts m_sheetLong m_cells m_sun m_wide m_deep m_hour m_kind m_wet m_at m_readSun m_readWide m_readDeep m_readKind m_readWet m_keptWet m_keptSun m_openFirst m_planHours m_readings m_readCells m_readHours m_readCracked) H := hP
  have hD : va_D A (W_m cI cS a_m a_m_sorts a_m_sheetLong a_m_cells a_m_kind a_m_wet a_m_readKind a_m_readWet a_m_keptWet a_m_readCells a_m_readHours a_m_readCracked (0 : Int32) m_trace m_sorts m_sheetLong m_cells m_sun m_wide m_deep m_hour m_kind m_wet m_at m_readSun m_readWide m_readDeep m_readKind m_readWet m_keptWet m_keptSun m_openFirst m_planHours m_readings m_readCells m_readHours m_readCracked) := hD
  refine lv_iload_n hx hb dX5_plan_5 rfl (lv_at hl 1 rfl) ?_
  obtain ⟨q6_1, hq1, hf⟩ := Option.bind_eq_some_iff.mp hf
  refine cSt (ws' := (W_m cI cS a_m a_m_sorts a_m_sheetLong a_m_cells a_m_kind a_m_wet a_m_readKind a_m_readWet a_m_keptWet a_m_readCells a_m_readHours a_m_readCracked (0 : Int32) m_trace m_sorts m_sheetLong m_cells m_sun m_wide m_deep m_hour m_kind m_wet m_at m_readSun m_readWide m_readDeep m_readKind m_readWet m_keptWet m_keptSun m_openFirst m_planHours m_readings m_readCells m_readHours m_readCracked)) (rest := []) (st1 := [.int q6_1]) Cc hK hA hP hD hS hl.1 (ctX5_isSheet l D cI cS   p1 n q6_1 hq1) ⟨tw_585, tw_583, tw_584, tw_6⟩ mdX5_isSheet ⟨rfl, rfl, Nat.le_of_ble_eq_true rfl, Nat.le_of_ble_eq_true rfl⟩ rfl dX5_plan_6 rfl (Nat.le_of_ble_eq_true rfl) ⟨Nat.zero_le _, Nat.zero_le _⟩ rfl [] [0, 1, 2, 3, 4, 5, 6, 7, 8, 9, 10, 11] [0, 1, 2, 3, 4, 5, 6, 7, 8, 9, 10, 11] rfl rfl (by decide) rfl (fun H locs hP hD hS => ?_)
  refine lv_if_ne (tgt := 14) hx hb dX5_plan_9 (by decide) (fun hc2 => ?_) (fun hc2 => ?_)
  · replace hf := (if_neg hc2).symm.trans hf
    refine lv_iload_n hx hb dX5_plan_14 rfl (lv_at hl 2 rfl) ?_
    obtain ⟨q15_1, hq3, hf⟩ := Option.bind_eq_some_iff.mp hf
    refine cSt (ws' := (W_m cI cS a_m a_m_sorts a_m_sheetLong a_m_cells a_m_kind a_m_wet a_m_readKind a_m_readWet a_m_keptWet a_m_readCells a_m_readHours a_m_readCracked (0 : Int32) m_trace m_sorts m_sheetLong m_cells m_sun m_wide m_deep m_hour m_kind m_wet m_at m_readSun m_readWide m_readDeep m_readKind m_readWet m_keptWet m_keptSun m_openFirst m_planHours m_readings m_readCells m_readHours m_readCracked)) (rest := []) (st1 := [.int q15_1]) Cc hK hA hP hD hS hl.1 (ctX5_isSort l D cI cS   p2 n q15_1 hq3) ⟨tw_591, tw_589, tw_590, tw_6⟩ mdX5_isSort ⟨rfl, rfl, Nat.le_of_ble_eq_true rfl, Nat.le_of_ble_eq_true rfl⟩ rfl dX5_plan_15 rfl (Nat.le_of_ble_eq_true rfl) ⟨Nat.zero_le _, Nat.zero_le _⟩ rfl [] [0, 1, 2, 3, 4, 5, 6, 7, 8, 9, 10, 11] [0, 1, 2, 3, 4, 5, 6, 7, 8, 9, 10, 11] rfl rfl (by decide) rfl (fun H locs hP hD hS => ?_)
    refine lv_if_eq (tgt := 54) hx hb dX5_plan_18 (by decide) (fun hc4 => ?_) (fun hc4 => ?_)
    · replace hf := (if_pos hc4).symm.trans hf
      refine lv_bipush (v := (-2 : Int32)) hx hb dX5_plan_54 (by decide) ?_
      replace hf := Option.some.inj hf
      obtain ⟨er0, er1⟩ := Prod.mk.inj hf
      obtain ⟨er2, er3⟩ := Prod.mk.inj er1
      obtain ⟨er4, er5⟩ := Prod.mk.inj er3
      obtain ⟨er6, er7⟩ := Prod.mk.inj er5
      obtain ⟨er8, er9⟩ := Prod.mk.inj er7
      obtain ⟨er10, er11⟩ := Prod.mk.inj er9
      obtain ⟨er12, er13⟩ := Prod.mk.inj er11
      clear hf er1 er3 er5 er7 er9 er11
      subst er0
      subst er2
      subst er4
      subst er6
      subst er8
      subst er10
      subst er12
      subst er13
      exact rt_i Cc hK hP hD hS dX5_plan_56
    · replace hf := (if_neg hc4).symm.trans hf
      refine lv_iload hx hb dX5_plan_21 (lv_at hl 4 rfl) ?_
      refine lv_iconst (v := (0 : Int32)) hx hb dX5_plan_23 (by decide) ?_
      refine lv_bipush (v := (20 : Int32)) hx hb dX5_plan_24 (by decide) ?_
      obtain ⟨q26_1, hq5, hf⟩ := Option.bind_eq_some_iff.mp hf
      refine cSt (ws' := (W_m cI cS a_m a_m_sorts a_m_sheetLong a_m_cells a_m_kind a_m_wet a_m_readKind a_m_readWet a_m_keptWet a_m_readCells a_m_readHours a_m_readCracked (0 : Int32) m_trace m_sorts m_sheetLong m_cells m_sun m_wide m_deep m_hour m_kind m_wet m_at m_readSun m_readWide m_readDeep m_readKind m_readWet m_keptWet m_keptSun m_openFirst m_planHours m_readings m_readCells m_readHours m_readCracked)) (rest := []) (st1 := [.int q26_1]) Cc hK hA hP hD hS hl.1 (ctX5_within l D cI cS   p4 (0 : Int32) (20 : Int32) n q26_1 hq5) ⟨tw_588, tw_586, tw_587, tw_6⟩ mdX5_within ⟨rfl, rfl, Nat.le_of_ble_eq_true rfl, Nat.le_of_ble_eq_true rfl⟩ rfl dX5_plan_26 rfl (Nat.le_of_ble_eq_true rfl) ⟨Nat.zero_le _, Nat.zero_le _⟩ rfl [] [0, 1, 2, 3, 4, 5, 6, 7, 8, 9, 10, 11] [0, 1, 2, 3, 4, 5, 6, 7, 8, 9, 10, 11] rfl rfl (by decide) rfl (fun H locs hP hD hS => ?_)
      refine lv_if_eq (tgt := 54) hx hb dX5_plan_29 (by decide) (fun hc6 => ?_) (fun hc6 => ?_)
      · replace hf := (if_pos hc6).symm.trans hf
        refine lv_bipush (v := (-2 : Int32)) hx hb dX5_plan_54 (by decide) ?_
        replace hf := Option.some.inj hf
        obtain ⟨er0, er1⟩ := Prod.mk.inj hf
        obtain ⟨er2, er3⟩ := Prod.mk.inj er1
        obtain ⟨er4, er5⟩ := Prod.mk.inj er3
        obtain ⟨er6, er7⟩ := Prod.mk.inj er5
        obtain ⟨er8, er9⟩ := Prod.mk.inj er7
        obtain ⟨er10, er11⟩ := Prod.mk.inj er9
        obtain ⟨er12, er13⟩ := Prod.mk.inj er11
        clear hf er1 er3 er5 er7 er9 er11
        subst er0
        subst er2
        subst er4
        subst er6
        subst er8
        subst er10
        subst er12
        subst er13
        exact rt_i Cc hK hP hD hS dX5_plan_56
      · replace hf := (if_neg hc6).symm.trans hf
        refine lv_iload hx hb dX5_plan_32 (lv_at hl 5 rfl) ?_
        refine lv_iconst (v := (0 : Int32)) hx hb dX5_plan_34 (by decide) ?_
        refine lv_iconst (v := (4 : Int32)) hx hb dX5_plan_35 (by decide) ?_
        obtain ⟨q36_1, hq7, hf⟩ := Option.bind_eq_some_iff.mp hf
        refine cSt (ws' := (W_m cI cS a_m a_m_sorts a_m_sheetLong a_m_cells a_m_kind a_m_wet a_m_readKind a_m_readWet a_m_keptWet a_m_readCells a_m_readHours a_m_readCracked (0 : Int32) m_trace m_sorts m_sheetLong m_cells m_sun m_wide m_deep m_hour m_kind m_wet m_at m_readSun m_readWide m_readDeep m_readKind m_readWet m_keptWet m_keptSun m_openFirst m_planHours m_readings m_readCells m_readHours m_readCracked)) (rest := []) (st1 := [.int q36_1]) Cc hK hA hP hD hS hl.1 (ctX5_within l D cI cS   p5 (0 : Int32) (4 : Int32) n q36_1 hq7) ⟨tw_588, tw_586, tw_587, tw_6⟩ mdX5_within ⟨rfl, rfl, Nat.le_of_ble_eq_true rfl, Nat.le_of_ble_eq_true rfl⟩ rfl dX5_plan_36 rfl (Nat.le_of_ble_eq_true rfl) ⟨Nat.zero_le _, Nat.zero_le _⟩ rfl [] [0, 1, 2, 3, 4, 5, 6, 7, 8, 9, 10, 11] [0, 1, 2, 3, 4, 5, 6, 7, 8, 9, 10, 11] rfl rfl (by decide) rfl (fun H locs hP hD hS => ?_)
        refine lv_if_ne (tgt := 57) hx hb dX5_plan_39 (by decide) (fun hc8 => ?_) (fun hc8 => ?_)
        · replace hf := (if_neg hc8).symm.trans hf
          exact bX5_plan_57 a_m a_m_sorts a_m_sheetLong a_m_cells a_m_kind a_m_wet a_m_readKind a_m_readWet a_m_keptWet a_m_readCells a_m_readHours a_m_readCracked m_trace m_hour m_at m_readSun m_readWide m_readDeep m_readKind m_readWet m_readings m_readCells m_readHours m_readCracked Cc hK hA n _ _ _ _ _ _ _ _ _ _ _ _ _ _ _ _ _ _ _ _ _ _ _ _ _ _ hf _ _ _ hP hD hS (lv_sub hl [0, 1, 2, 3, 4, 5] rfl)
        · replace hf := (if_pos hc8).symm.trans hf
          refine lv_iload hx hb dX5_plan_42 (lv_at hl 5 rfl) ?_
          refine lv_bipush (v := (10 : Int32)) hx hb dX5_plan_44 (by decide) ?_
          refine lv_bipush (v := (21 : Int32)) hx hb dX5_plan_46 (by decide) ?_
          obtain ⟨q48_1, hq22, hf⟩ := Option.bind_eq_some_iff.mp hf
          refine cSt (ws' := (W_m cI cS a_m a_m_sorts a_m_sheetLong a_m_cells a_m_kind a_m_wet a_m_readKind a_m_readWet a_m_keptWet a_m_readCells a_m_readHours a_m_readCracked (0 : Int32) m_trace m_sorts m_sheetLong m_cells m_sun m_wide m_deep m_hour m_kind m_wet m_at m_readSun m_readWide m_readDeep m_readKind m_readWet m_keptWet m_keptSun m_openFirst m_planHours m_readings m_readCells m_readHours m_readCracked)) (rest := []) (st1 := [.int q48_1]) Cc hK hA hP hD hS hl.1 (ctX5_within l D cI cS   p5 (10 : Int32) (21 : Int32) n q48_1 hq22) ⟨tw_588, tw_586, tw_587, tw_6⟩ mdX5_within ⟨rfl, rfl, Nat.le_of_ble_eq_true rfl, Nat.le_of_ble_eq_true rfl⟩ rfl dX5_plan_48 rfl (Nat.le_of_ble_eq_true rfl) ⟨Nat.zero_le _, Nat.zero_le _⟩ rfl [] [0, 1, 2, 3, 4, 5, 6, 7, 8, 9, 10, 11] [0, 1, 2, 3, 4, 5, 6, 7, 8, 9, 10, 11] rfl rfl (by decide) rfl (fun H locs hP hD hS => ?_)
          refine lv_if_ne (tgt := 57) hx hb dX5_plan_51 (by decide) (fun hc23 => ?_) (fun hc23 => ?_)
          · replace hf := (if_neg hc23).symm.trans hf
            exact bX5_plan_57 a_m a_m_sorts a_m_sheetLong a_m_cells a_m_kind a_m_wet a_m_readKind a_m_readWet a_m_keptWet a_m_readCells a_m_readHours a_m_readCracked m_trace m_hour m_at m_readSun m_readWide m_readDeep m_readKind m_readWet m_readings m_readCells m_readHours m_readCracked Cc hK hA n _ _ _ _ _ _ _ _ _ _ _ _ _ _ _ _ _ _ _ _ _ _ _ _ _ _ hf _ _ _ hP hD hS (lv_sub hl [0, 1, 2, 3, 4, 5] rfl)
          · replace hf := (if_pos hc23).symm.trans hf
            refine lv_bipush (v := (-2 : Int32)) hx hb dX5_plan_54 (by decide) ?_
            replace hf := Option.some.inj hf
            obtain ⟨er0, er1⟩ := Prod.mk.inj hf
            obtain ⟨er2, er3⟩ := Prod.mk.inj er1
            obtain ⟨er4, er5⟩ := Prod.mk.inj er3
            obtain ⟨er6, er7⟩ := Prod.mk.inj er5
            obtain ⟨er8, er9⟩ := Prod.mk.inj er7
            obtain ⟨er10, er11⟩ := Prod.mk.inj er9
            obtain ⟨er12, er13⟩ := Prod.mk.inj er11
            clear hf er1 er3 er5 er7 er9 er11
            subst er0
            subst er2
            subst er4
            subst er6
            subst er8
            subst er10
            subst er12
            subst er13
            exact rt_i Cc hK hP hD hS dX5_plan_56
  · replace hf := (if_pos hc2).symm.trans hf
    refine lv_iconst (v := (-1 : Int32)) hx hb dX5_plan_12 (by decide) ?_
    replace hf := Option.some.inj hf
    obtain ⟨er0, er1⟩ := Prod.mk.inj hf
    obtain ⟨er2, er3⟩ := Prod.mk.inj er1
    obtain ⟨er4, er5⟩ := Prod.mk.inj er3
    obtain ⟨er6, er7⟩ := Prod.mk.inj er5
    obtain ⟨er8, er9⟩ := Prod.mk.inj er7
    obtain ⟨er10, er11⟩ := Prod.mk.inj er9
    obtain ⟨er12, er13⟩ := Prod.mk.inj er11
    clear hf er1 er3 er5 er7 er9 er11
    subst er0
    subst er2
    subst er4
    subst er6
    subst er8
    subst er10
    subst er12
    subst er13
    exact rt_i Cc hK hP hD hS dX5_plan_13
