-- X4_sheet
def fX4_sheet (n : Nat) (d_latestFault : Int32) (S_row : Nat → Nat → Int32) (S_lane : Nat → Int32) (S_length : Nat → Int32) (p1 : Int32) (p2 : Int32) (p3 : Int32) : Option (Int32 × Int32 × (Nat → Nat → Int32) × (Nat → Int32) × (Nat → Int32)) := (fX4_isSheet n p1).bind fun q6_1 => if q6_1 = 0 then some ((-1 : Int32), (0 : Int32), S_row, S_lane, S_length) else (fX4_isLane n p2).bind fun q15_1 => if q15_1 = 0 then some ((-2 : Int32), (0 : Int32), S_row, S_lane, S_length) else if p3 ≤ (60 : Int32) then if 0 ≤ p3 then gd p1 4 ((fX2_becomeRow n (S_row p1.toNatClampNeg) (S_lane p1.toNatClampNeg) (S_length p1.toNatClampNeg) p2 p3).bind fun q48_1 => some ((1 : Int32), (0 : Int32), (va_up S_row p1.toNatClampNeg q48_1.1), (va_up S_lane p1.toNatClampNeg q48_1.2.1), (va_up S_length p1.toNatClampNeg q48_1.2.2))) else (fX4_faulted n (0 : Int32) (4 : Int32)).bind fun q36_1 => some (q36_1.1, q36_1.2, S_row, S_lane, S_length) else some ((-2 : Int32), (0 : Int32), S_row, S_lane, S_length)
theorem mdX4_sheet : yX4_sheet.cls = RX4 ∧ yX4_sheet.cls ≠ "java/lang/invoke/MethodHandle" ∧ yX4_sheet.cls ≠ "java/lang/invoke/VarHandle" ∧ (parseMethodDescriptor yX4_sheet.desc).map (fun d => d.parameters.length) = some 3 := by decide +kernel
set_option maxHeartbeats 4000000 in
set_option maxRecDepth 100000 in
theorem ctX4_sheet (l : Launch) (D : va_G) (cI cS : ClassId) (a_d a_f a_t a_r a_z a_f_kind a_f_wet a_g a_g_kind a_g_wet a_r_cells a_r_hours a_r_cracked a_s0 a_s0_row a_s1 a_s1_row a_s2 a_s2_row a_s3 a_s3_row : Nat) (d_hour : Int32) (d_traced : Int32) (d_latestFault : Int32) (f_kind : Nat → Int32) (f_wet : Nat → Int32) (f_wide : Int32) (f_rows : Int32) (f_cells : Int32) (f_sun : Int32) (f_all : Int32) (f_firstColumn : Int32) (f_lastColumn : Int32) (t_hours : Int32) (t_opened : Int32) (t_firstWrong : Int32) (g_kind : Nat → Int32) (g_wet : Nat → Int32) (g_wide : Int32) (g_rows : Int32) (g_cells : Int32) (g_sun : Int32) (g_all : Int32) (g_firstColumn : Int32) (g_lastColumn : Int32) (r_cells : Nat → Int32) (r_hours : Nat → Int32) (r_cracked : Nat → Int32) (r_count : Int32) (S_row : Nat → Nat → Int32) (S_lane : Nat → Int32) (S_length : Nat → Int32) (p1 : Int32) (p2 : Int32) (p3 : Int32) (n : Nat) (r : Int32) (d_latestFault' : Int32) (S_row' : Nat → Nat → Int32) (S_lane' : Nat → Int32) (S_length' : Nat → Int32) (hf : fX4_sheet n d_latestFault S_row S_lane S_length p1 p2 p3 = some (r, d_latestFault', S_row', S_lane', S_length')) : Ct l D (tysA cI cS) yX4_sheet cX4_sheet 4 (some .int) (Rm 2) [.ref a_d, .int p1, .int p2, .int p3] (W_D cI cS a_d a_f a_t a_r a_z a_f_kind a_f_wet a_g a_g_kind a_g_wet a_r_cells a_r_hours a_r_cracked a_s0 a_s0_row a_s1 a_s1_row a_s2 a_s2_row a_s3 a_s3_row d_hour d_traced d_latestFault f_kind f_wet f_wide f_rows f_cells f_sun f_all f_firstColumn f_lastColumn t_hours t_opened t_firstWrong g_kind g_wet g_wide g_rows g_cells g_sun g_all g_firstColumn g_lastColumn r_cells r_hours r_cracked r_count S_row S_lane S_length) (some (.int r)) (W_D cI cS a_d a_f a_t a_r a_z a_f_kind a_f_wet a_g a_g_kind a_g_wet a_r_cells a_r_hours a_r_cracked a_s0 a_s0_row a_s1 a_s1_row a_s2 a_s2_row a_s3 a_s3_row d_hour d_traced d_latestFault' f_kind f_wet f_wide f_rows f_cells f_sun f_all f_firstColumn f_lastColumn t_hours t_opened t_firstWrong g_kind g_wet g_wide g_rows g_cells g_sun g_all g_firstColumn g_lastColumn r_cells r_hours r_cracked r_count S_row' S_lane' S_length') := by
  refine Ct_of (by decide) (Nat.le_of_ble_eq_true rfl) ?_
  intro p e s m args below meth c A ls Cc hK hA hP hD hS hl
  have hl : lv_has ls 4 [(0, .ref a_d), (1, .int p1), (2, .int p2), (3, .int p3)] := hl
  obtain ⟨hx, hb, hr, hml, hown, hts, hlk, hnw⟩ := id Cc
  unfold fX4_sheet at hf
  refine lv_aload_n hx hb dX4_sheet_0 rfl (lv_at hl 0 rfl) ?_
  refine lv_iconst (v := (0 : Int32)) hx hb dX4_sheet_1 (by decide) ?_
  refine va_put (D := D) (ci := 4) (v := .int (0 : Int32)) (ty := .int) (C := RX4) (T := TX4) (N := 7) hx hb hts inX4 tyX4 tyX4_ok nmX4 hown hK hP hD hS 0 rfl rfl 6 (by decide) (hts _ tw_129) (fun _ h9 => h9) rfl (tyX4_ok 6 (by decide)) rfl rfl (Nat.le_of_ble_eq_true rfl) dX4_sheet_2 (fun H locs hP hD hS => ?_)
  have hP : va_P D classes (W_D cI cS a_d a_f a_t a_r a_z a_f_kind a_f_wet a_g a_g_kind a_g_wet a_r_cells a_r_hours a_r_cracked a_s0 a_s0_row a_s1 a_s1_row a_s2 a_s2_row a_s3 a_s3_row d_hour d_traced (0 : Int32) f_kind f_wet f_wide f_rows f_cells f_sun f_all f_firstColumn f_lastColumn t_hours t_opened t_firstWrong g_kind g_wet g_wide g_rows g_cells g_sun g_all g_firstColumn g_lastColumn r_cells r_hours r_cracked r_count S_row S_lane S_length) H := hP
  have hD : va_D A (W_D cI cS a_d a_f a_t a_r a_z a_f_kind a_f_wet a_g a_g_kind a_g_wet a_r_cells a_r_hours a_r_cracked a_s0 a_s0_row a_s1 a_s1_row a_s2 a_s2_row a_s3 a_s3_row d_hour d_traced (0 : Int32) f_kind f_wet f_wide f_rows f_cells f_sun f_all f_firstColumn f_lastColumn t_hours t_opened t_firstWrong g_kind g_wet g_wide g_rows g_cells g_sun g_all g_firstColumn g_lastColumn r_cells r_hours r_cracked r_count S_row S_lane S_length) := hD
  refine lv_iload_n hx hb dX4_sheet_5 rfl (lv_at hl 1 rfl) ?_
  obtain ⟨q6_1, hq1, hf⟩ := Option.bind_eq_some_iff.mp hf
  refine cSt (ws' := (W_D cI cS a_d a_f a_t a_r a_z a_f_kind a_f_wet a_g a_g_kind a_g_wet a_r_cells a_r_hours a_r_cracked a_s0 a_s0_row a_s1 a_s1_row a_s2 a_s2_row a_s3 a_s3_row d_hour d_traced (0 : Int32) f_kind f_wet f_wide f_rows f_cells f_sun f_all f_firstColumn f_lastColumn t_hours t_opened t_firstWrong g_kind g_wet g_wide g_rows g_cells g_sun g_all g_firstColumn g_lastColumn r_cells r_hours r_cracked r_count S_row S_lane S_length)) (rest := []) (st1 := [.int q6_1]) Cc hK hA hP hD hS hl.1 (ctX4_isSheet l D cI cS   p1 n q6_1 hq1) ⟨tw_151, tw_149, tw_150, tw_1⟩ mdX4_isSheet ⟨rfl, rfl, Nat.le_of_ble_eq_true rfl, Nat.le_of_ble_eq_true rfl⟩ rfl dX4_sheet_6 rfl (Nat.le_of_ble_eq_true rfl) ⟨Nat.zero_le _, Nat.zero_le _⟩ rfl [] [0, 1, 2, 3, 4, 5, 6, 7, 8, 9, 10, 11, 12, 13, 14, 15, 16, 17, 18, 19, 20] [0, 1, 2, 3, 4, 5, 6, 7, 8, 9, 10, 11, 12, 13, 14, 15, 16, 17, 18, 19, 20] rfl rfl (by decide) rfl (fun H locs hP hD hS => ?_)
  refine lv_if_ne (tgt := 14) hx hb dX4_sheet_9 (by decide) (fun hc2 => ?_) (fun hc2 => ?_)
  · replace hf := (if_neg hc2).symm.trans hf
    refine lv_iload_n hx hb dX4_sheet_14 rfl (lv_at hl 2 rfl) ?_
    obtain ⟨q15_1, hq3, hf⟩ := Option.bind_eq_some_iff.mp hf
    refine cSt (ws' := (W_D cI cS a_d a_f a_t a_r a_z a_f_kind a_f_wet a_g a_g_kind a_g_wet a_r_cells a_r_hours a_r_cracked a_s0 a_s0_row a_s1 a_s1_row a_s2 a_s2_row a_s3 a_s3_row d_hour d_traced (0 : Int32) f_kind f_wet f_wide f_rows f_cells f_sun f_all f_firstColumn f_lastColumn t_hours t_opened t_firstWrong g_kind g_wet g_wide g_rows g_cells g_sun g_all g_firstColumn g_lastColumn r_cells r_hours r_cracked r_count S_row S_lane S_length)) (rest := []) (st1 := [.int q15_1]) Cc hK hA hP hD hS hl.1 (ctX4_isLane l D cI cS   p2 n q15_1 hq3) ⟨tw_157, tw_155, tw_156, tw_1⟩ mdX4_isLane ⟨rfl, rfl, Nat.le_of_ble_eq_true rfl, Nat.le_of_ble_eq_true rfl⟩ rfl dX4_sheet_15 rfl (Nat.le_of_ble_eq_true rfl) ⟨Nat.zero_le _, Nat.zero_le _⟩ rfl [] [0, 1, 2, 3, 4, 5, 6, 7, 8, 9, 10, 11, 12, 13, 14, 15, 16, 17, 18, 19, 20] [0, 1, 2, 3, 4, 5, 6, 7, 8, 9, 10, 11, 12, 13, 14, 15, 16, 17, 18, 19, 20] rfl rfl (by decide) rfl (fun H locs hP hD hS => ?_)
    refine lv_if_eq (tgt := 27) hx hb dX4_sheet_18 (by decide) (fun hc4 => ?_) (fun hc4 => ?_)
    · replace hf := (if_pos hc4).symm.trans hf
      refine lv_bipush (v := (-2 : Int32)) hx hb dX4_sheet_27 (by decide) ?_
      replace hf := Option.some.inj hf
      obtain ⟨er0, er1⟩ := Prod.mk.inj hf
      obtain ⟨er2, er3⟩ := Prod.mk.inj er1
      obtain ⟨er4, er5⟩ := Prod.mk.inj er3
      obtain ⟨er6, er7⟩ := Prod.mk.inj er5
      clear hf er1 er3 er5
      subst er0
      subst er2
      subst er4
      subst er6
      subst er7
      exact rt_i Cc hK hP hD hS dX4_sheet_29
    · replace hf := (if_neg hc4).symm.trans hf
      refine lv_iload_n hx hb dX4_sheet_21 rfl (lv_at hl 3 rfl) ?_
      refine lv_bipush (v := (60 : Int32)) hx hb dX4_sheet_22 (by decide) ?_
      refine lv_icmp_le (tgt := 30) hx hb dX4_sheet_24 (by decide) (fun hc5 => ?_) (fun hc5 => ?_)
      · replace hf := (if_pos hc5).symm.trans hf
        refine lv_iload_n hx hb dX4_sheet_30 rfl (lv_at hl 3 rfl) ?_
        refine lv_if_ge (tgt := 40) hx hb dX4_sheet_31 (by decide) (fun hc6 => ?_) (fun hc6 => ?_)
        · replace hf := (if_pos hc6).symm.trans hf
          refine lv_aload_n hx hb dX4_sheet_40 rfl (lv_at hl 0 rfl) ?_
          refine va_get (D := D) (ci := 4) (v := .ref a_z) (C := RX4) (T := TX4) (N := 7) hx hb hts inX4 hown hK hP 0 rfl rfl 3 (by decide) (hts _ tw_126) (fun _ h9 => h9) rfl dX4_sheet_41 ?_
          refine lv_iload_n hx hb dX4_sheet_44 rfl (lv_at hl 1 rfl) ?_
          obtain ⟨hin, hf⟩ := gd_some hf
          refine va_aldq hx hb hK hP 12 1 rfl rfl hin dX4_sheet_45 ?_
          obtain ⟨j, hj, hjx⟩ : ∃ j, j < 4 ∧ p1.toNatClampNeg = j := ⟨_, Nat.not_le.mp fun q => hin (Or.inr q), rfl⟩
          rw [hjx] at hf ⊢
          clear hin hjx
          rcases (show j = 0 ∨ j = 1 ∨ j = 2 ∨ j = 3 by omega) with rfl | rfl | rfl | rfl
          · refine W.eq (g2 := F0 m 46 ls [.ref a_s0]) rfl ?_
            refine lv_iload_n hx hb dX4_sheet_46 rfl (lv_at hl 2 rfl) ?_
            refine lv_iload_n hx hb dX4_sheet_47 rfl (lv_at hl 3 rfl) ?_
            obtain ⟨q48_1, hq7, hf⟩ := Option.bind_eq_some_iff.mp hf
            refine cV (ws' := (W_D cI cS a_d a_f a_t a_r a_z a_f_kind a_f_wet a_g a_g_kind a_g_wet a_r_cells a_r_hours a_r_cracked a_s0 a_s0_row a_s1 a_s1_row a_s2 a_s2_row a_s3 a_s3_row d_hour d_traced (0 : Int32) f_kind f_wet f_wide f_rows f_cells f_sun f_all f_firstColumn f_lastColumn t_hours t_opened t_firstWrong g_kind g_wet g_wide g_rows g_cells g_sun g_all g_firstColumn g_lastColumn r_cells r_hours r_cracked r_count (va_up S_row 0 q48_1.1) (va_up S_lane 0 q48_1.2.1) (va_up S_length 0 q48_1.2.2))) (rest := []) (st1 := []) Cc hK hA hP hD hS hl.1 (ctX2_becomeRow l D cI cS a_s0 a_s0_row (S_row 0) (S_lane 0) (S_length 0) p2 p3 n q48_1.1 q48_1.2.1 q48_1.2.2 hq7) ⟨tw_423, tw_420, tw_421, tw_422, tw_5⟩ mdX2_becomeRow ⟨rfl, rfl, Nat.le_of_ble_eq_true rfl, Nat.le_of_ble_eq_true rfl⟩ rfl dX4_sheet_48 rfl (Nat.le_of_ble_eq_true rfl) ⟨Nat.zero_le _, Nat.zero_le _⟩ rfl rfl rfl [13, 14] [0, 1, 2, 3, 4, 5, 6, 7, 8, 9, 10, 11, 12, 15, 16, 17, 18, 19, 20] [0, 1, 2, 3, 4, 5, 6, 7, 8, 9, 10, 11, 12, 19, 20, 13, 14, 15, 16, 17, 18] rfl rfl (by decide) rfl (fun H locs hP hD hS => ?_)
            refine lv_iconst (v := (1 : Int32)) hx hb dX4_sheet_51 (by decide) ?_
            replace hf := Option.some.inj hf
            obtain ⟨er0, er1⟩ := Prod.mk.inj hf
            obtain ⟨er2, er3⟩ := Prod.mk.inj er1
            obtain ⟨er4, er5⟩ := Prod.mk.inj er3
            obtain ⟨er6, er7⟩ := Prod.mk.inj er5
            clear hf er1 er3 er5
            subst er0
            subst er2
            subst er4
            subst er6
            subst er7
            exact rt_i Cc hK hP hD hS dX4_sheet_52
          · refine W.eq (g2 := F0 m 46 ls [.ref a_s1]) rfl ?_
            refine lv_iload_n hx hb dX4_sheet_46 rfl (lv_at hl 2 rfl) ?_
            refine lv_iload_n hx hb dX4_sheet_47 rfl (lv_at hl 3 rfl) ?_
            obtain ⟨q48_1, hq8, hf⟩ := Option.bind_eq_some_iff.mp hf
            refine cV (ws' := (W_D cI cS a_d a_f a_t a_r a_z a_f_kind a_f_wet a_g a_g_kind a_g_wet a_r_cells a_r_hours a_r_cracked a_s0 a_s0_row a_s1 a_s1_row a_s2 a_s2_row a_s3 a_s3_row d_hour d_traced (0 : Int32) f_kind f_wet f_wide f_rows f_cells f_sun f_all f_firstColumn f_lastColumn t_hours t_opened t_firstWrong g_kind g_wet g_wide g_rows g_cells g_sun g_all g_firstColumn g_lastColumn r_cells r_hours r_cracked r_count (va_up S_row 1 q48_1.1) (va_up S_lane 1 q48_1.2.1) (va_up S_length 1 q48_1.2.2))) (rest := []) (st1 := []) Cc hK hA hP hD hS hl.1 (ctX2_becomeRow l D cI cS a_s1 a_s1_row (S_row 1) (S_lane 1) (S_length 1) p2 p3 n q48_1.1 q48_1.2.1 q48_1.2.2 hq8) ⟨tw_423, tw_420, tw_421, tw_422, tw_5⟩ mdX2_becomeRow ⟨rfl, rfl, Nat.le_of_ble_eq_true rfl, Nat.le_of_ble_eq_true rfl⟩ rfl dX4_sheet_48 rfl (Nat.le_of_ble_eq_true rfl) ⟨Nat.zero_le _, Nat.zero_le _⟩ rfl rfl rfl [15, 16] [0, 1, 2, 3, 4, 5, 6, 7, 8, 9, 10, 11, 12, 13, 14, 17, 18, 19, 20] [0, 1, 2, 3, 4, 5, 6, 7, 8, 9, 10, 11, 12, 13, 14, 19, 20, 15, 16, 17, 18] rfl rfl (by decide) rfl (fun H locs hP hD hS => ?_)
            refine lv_iconst (v := (1 : Int32)) hx hb dX4_sheet_51 (by decide) ?_
            replace hf := Option.some.inj hf
            obtain ⟨er0, er1⟩ := Prod.mk.inj hf
            obtain ⟨er2, er3⟩ := Prod.mk.inj er1
            obtain ⟨er4, er5⟩ := Prod.mk.inj er3
            obtain ⟨er6, er7⟩ := Prod.mk.inj er5
            clear hf er1 er3 er5
            subst er0
            subst er2
            subst er4
            subst er6
            subst er7
            exact rt_i Cc hK hP hD hS dX4_sheet_52
          · refine W.eq (g2 := F0 m 46 ls [.ref a_s2]) rfl ?_
            refine lv_iload_n hx hb dX4_sheet_46 rfl (lv_at hl 2 rfl) ?_
            refine lv_iload_n hx hb dX4_sheet_47 rfl (lv_at hl 3 rfl) ?_
            obtain ⟨q48_1, hq9, hf⟩ := Option.bind_eq_some_iff.mp hf
            refine cV (ws' := (W_D cI cS a_d a_f a_t a_r a_z a_f_kind a_f_wet a_g a_g_kind a_g_wet a_r_cells a_r_hours a_r_cracked a_s0 a_s0_row a_s1 a_s1_row a_s2 a_s2_row a_s3 a_s3_row d_hour d_traced (0 : Int32) f_kind f_wet f_wide f_rows f_cells f_sun f_all f_firstColumn f_lastColumn t_hours t_opened t_firstWrong g_kind g_wet g_wide g_rows g_cells g_sun g_all g_firstColumn g_lastColumn r_cells r_hours r_cracked r_count (va_up S_row 2 q48_1.1) (va_up S_lane 2 q48_1.2.1) (va_up S_length 2 q48_1.2.2))) (rest := []) (st1 := []) Cc hK hA hP hD hS hl.1 (ctX2_becomeRow l D cI cS a_s2 a_s2_row (S_row 2) (S_lane 2) (S_length 2) p2 p3 n q48_1.1 q48_1.2.1 q48_1.2.2 hq9) ⟨tw_423, tw_420, tw_421, tw_422, tw_5⟩ mdX2_becomeRow ⟨rfl, rfl, Nat.le_of_ble_eq_true rfl, Nat.le_of_ble_eq_true rfl⟩ rfl dX4_sheet_48 rfl (Nat.le_of_ble_eq_true rfl) ⟨Nat.zero_le _, Nat.zero_le _⟩ rfl rfl rfl [17, 18] [0, 1, 2, 3, 4, 5, 6, 7, 8, 9, 10, 11, 12, 13, 14, 15, 16, 19, 20] [0, 1, 2, 3, 4, 5, 6, 7, 8, 9, 10, 11, 12, 13, 14, 15, 16, 19, 20, 17, 18] rfl rfl (by decide) rfl (fun H locs hP hD hS => ?_)
            refine lv_iconst (v := (1 : Int32)) hx hb dX4_sheet_51 (by decide) ?_
            replace hf := Option.some.inj hf
            obtain ⟨er0, er1⟩ := Prod.mk.inj hf
            obtain ⟨er2, er3⟩ := Prod.mk.inj er1
            obtain ⟨er4, er5⟩ := Prod.mk.inj er3
            obtain ⟨er6, er7⟩ := Prod.mk.inj er5
            clear hf er1 er3 er5
            subst er0
            subst er2
            subst er4
            subst er6
            subst er7
            exact rt_i Cc hK hP hD hS dX4_sheet_52
          · refine W.eq (g2 := F0 m 46 ls [.ref a_s3]) rfl ?_
            refine lv_iload_n hx hb dX4_sheet_46 rfl (lv_at hl 2 rfl) ?_
            refine lv_iload_n hx hb dX4_sheet_47 rfl (lv_at hl 3 rfl) ?_
            obtain ⟨q48_1, hq10, hf⟩ := Option.bind_eq_some_iff.mp hf
            refine cV (ws' := (W_D cI cS a_d a_f a_t a_r a_z a_f_kind a_f_wet a_g a_g_kind a_g_wet a_r_cells a_r_hours a_r_cracked a_s0 a_s0_row a_s1 a_s1_row a_s2 a_s2_row a_s3 a_s3_row d_hour d_traced (0 : Int32) f_kind f_wet f_wide f_rows f_cells f_sun f_all f_firstColumn f_lastColumn t_hours t_opened t_firstWrong g_kind g_wet g_wide g_rows g_cells g_sun g_all g_firstColumn g_lastColumn r_cells r_hours r_cracked r_count (va_up S_row 3 q48_1.1) (va_up S_lane 3 q48_1.2.1) (va_up S_length 3 q48_1.2.2))) (rest := []) (st1 := []) Cc hK hA hP hD hS hl.1 (ctX2_becomeRow l D cI cS a_s3 a_s3_row (S_row 3) (S_lane 3) (S_length 3) p2 p3 n q48_1.1 q48_1.2.1 q48_1.2.2 hq10) ⟨tw_423, tw_420, tw_421, tw_422, tw_5⟩ mdX2_becomeRow ⟨rfl, rfl, Nat.le_of_ble_eq_true rfl, Nat.le_of_ble_eq_true rfl⟩ rfl dX4_sheet_48 rfl (Nat.le_of_ble_eq_true rfl) ⟨Nat.zero_le _, Nat.zero_le _⟩ rfl rfl rfl [19, 20] [0, 1, 2, 3, 4, 5, 6, 7, 8, 9, 10, 11, 12, 13, 14, 15, 16, 17, 18] [0, 1, 2, 3, 4, 5, 6, 7, 8, 9, 10, 11, 12, 13, 14, 15, 16, 17, 18, 19, 20] rfl rfl (by decide) rfl (fun H locs hP hD hS => ?_)
            refine lv_iconst (v := (1 : Int32)) hx hb dX4_sheet_51 (by decide) ?_
            replace hf := Option.some.inj hf
            obtain ⟨er0, er1⟩ := Prod.mk.inj hf
            obtain ⟨er2, er3⟩ := Prod.mk.inj er1
            obtain ⟨er4, er5⟩ := Prod.mk.inj er3
            obtain ⟨er6, er7⟩ := Prod.mk.inj er5
            clear hf er1 er3 er5
            subst er0
            subst er2
            subst er4
            subst er6
            subst er7
            exact rt_i Cc hK hP hD hS dX4_sheet_52
        · replace hf := (if_neg hc6).symm.trans hf
          refine lv_aload_n hx hb dX4_sheet_34 rfl (lv_at hl 0 rfl) ?_
          refine lv_iconst (v := (4 : Int32)) hx hb dX4_sheet_35 (by decide) ?_
          obtain ⟨q36_1, hq11, hf⟩ := Option.bind_eq_some_iff.mp hf
          refine cV (ws' := (W_D cI cS a_d a_f a_t a_r a_z a_f_kind a_f_wet a_g a_g_kind a_g_wet a_r_cells a_r_hours a_r_cracked a_s0 a_s0_row a_s1 a_s1_row a_s2 a_s2_row a_s3 a_s3_row d_hour d_traced q36_1.2 f_kind f_wet f_wide f_rows f_cells f_sun f_all f_firstColumn f_lastColumn t_hours t_opened t_firstWrong g_kind g_wet g_wide g_rows g_cells g_sun g_all g_firstColumn g_lastColumn r_cells r_hours r_cracked r_count S_row S_lane S_length)) (rest := []) (st1 := [.int q36_1.1]) Cc hK hA hP hD hS hl.1 (ctX4_faulted l D cI cS a_d a_f a_t a_r a_z d_hour d_traced (0 : Int32) (4 : Int32) n q36_1.1 q36_1.2 hq11) ⟨tw_173, tw_170, tw_172, tp_0, tw_1⟩ mdX4_faulted ⟨rfl, rfl, Nat.le_of_ble_eq_true rfl, Nat.le_of_ble_eq_true rfl⟩ rfl dX4_sheet_36 rfl (Nat.le_of_ble_eq_true rfl) ⟨Nat.zero_le _, Nat.zero_le _⟩ rfl rfl rfl [0] [1, 2, 3, 4, 5, 6, 7, 8, 9, 10, 11, 12, 13, 14, 15, 16, 17, 18, 19, 20] [20, 0, 1, 2, 3, 4, 5, 6, 7, 8, 9, 10, 11, 12, 13, 14, 15, 16, 17, 18, 19] rfl rfl (by decide) rfl (fun H locs hP hD hS => ?_)
          replace hf := Option.some.inj hf
          obtain ⟨er0, er1⟩ := Prod.mk.inj hf
          obtain ⟨er2, er3⟩ := Prod.mk.inj er1
          obtain ⟨er4, er5⟩ := Prod.mk.inj er3
          obtain ⟨er6, er7⟩ := Prod.mk.inj er5
          clear hf er1 er3 er5
          subst er0
          subst er2
          subst er4
          subst er6
          subst er7
          exact rt_i Cc hK hP hD hS dX4_sheet_39
      · replace hf := (if_neg hc5).symm.trans hf
        refine lv_bipush (v := (-2 : Int32)) hx hb dX4_sheet_27 (by decide) ?_
        replace hf := Option.some.inj hf
        obtain ⟨er0, er1⟩ := Prod.mk.inj hf
        obtain ⟨er2, er3⟩ := Prod.mk.inj er1
        obtain ⟨er4, er5⟩ := Prod.mk.inj er3
        obtain ⟨er6, er7⟩ := Prod.mk.inj er5
        clear hf er1 er3 er5
        subst er0
        subst er2
        subst er4
        subst er6
        subst er7
        exact rt_i Cc hK hP hD hS dX4_sheet_29
  · replace hf := (if_pos hc2).symm.trans hf
    refine lv_iconst (v := (-1 : Int32)) hx hb dX4_sheet_12 (by decide) ?_
    replace hf := Option.some.inj hf
    obtain ⟨er0, er1⟩ := Prod.mk.inj hf
    obtain ⟨er2, er3⟩ := Prod.mk.inj er1
    obtain ⟨er4, er5⟩ := Prod.mk.inj er3
    obtain ⟨er6, er7⟩ := Prod.mk.inj er5
    clear hf er1 er3 er5
    subst er0
    subst er2
    subst er4
    subst er6
    subst er7
    exact rt_i Cc hK hP hD hS dX4_sheet_13
-- X4_lose
def fX4_lose_26 (n : Nat) (S_lane : Nat → Int32) (S_length : Nat → Int32) (t0 : Nat) (x1 : Int32) (y0 : Int32) : Option (Int32 × (Nat → Int32) × (Nat → Int32)) := gd x1 4 ((fX2_becomeNothing n (S_lane x1.toNatClampNeg) (S_length x1.toNatClampNeg)).bind fun q33_1 => some (y0, (va_up S_lane x1.toNatClampNeg q33_1.1), (va_up S_length x1.toNatClampNeg q33_1.2)))
def fX4_lose (n : Nat) (S_lane : Nat → Int32) (S_length : Nat → Int32) (p1 : Int32) : Option (Int32 × (Nat → Int32) × (Nat → Int32)) := (fX4_isSheet n p1).bind fun q1_1 => if q1_1 = 0 then some ((-1 : Int32), S_lane, S_length) else gd p1 4 ((fX2_isNothing n (S_lane p1.toNatClampNeg)).bind fun q15_1 => if q15_1 = 0 then fX4_lose_26 n S_lane S_length p1.toNatClampNeg p1 (1 : Int32) else fX4_lose_26 n S_lane S_length p1.toNatClampNeg p1 (0 : Int32))
theorem mdX4_lose : yX4_lose.cls = RX4 ∧ yX4_lose.cls ≠ "java/lang/invoke/MethodHandle" ∧ yX4_lose.cls ≠ "java/lang/invoke/VarHandle" ∧ (parseMethodDescriptor yX4_lose.desc).map (fun d => d.parameters.length) = some 1 := by decide +kernel
set_option maxHeartbeats 4000000 in
set_option maxRecDepth 100000 in
theorem bX4_lose_26_0 {p : Program} {l : Launch} {e : Env} {s : State} {m : MethodId} {args : Array Value} {below : List Frame} {meth : Method} {c : Code} {A : Nat → Prop} {D : va_G} {cI cS : ClassId} (a_d a_f a_t a_r a_z a_f_kind a_f_wet a_g a_g_kind a_g_wet a_r_cells a_r_hours a_r_cracked a_s0 a_s0_row a_s1 a_s1_row a_s2 a_s2_row a_s3 a_s3_row : Nat) (d_hour : Int32) (d_traced : Int32) (d_latestFault : Int32) (f_kind : Nat → Int32) (f_wet : Nat → Int32) (f_wide : Int32) (f_rows : Int32) (f_cells : Int32) (f_sun : Int32) (f_all : Int32) (f_firstColumn : Int32) (f_lastColumn : Int32) (t_hours : Int32) (t_opened : Int32) (t_firstWrong : Int32) (g_kind : Nat → Int32) (g_wet : Nat → Int32) (g_wide : Int32) (g_rows : Int32) (g_cells : Int32) (g_sun : Int32) (g_all : Int32) (g_firstColumn : Int32) (g_lastColumn : Int32) (r_cells : Nat → Int32) (r_hours : Nat → Int32) (r_cracked : Nat → Int32) (r_count : Int32) (S_row : Nat → Nat → Int32) (Cc : Cx p s m args meth c RX4 cX4_lose 3 (some .int)) (hK : va_K D classes (tysA cI cS) s) (hA : ∀ q, s.heap.size ≤ q → A q) (n : Nat) : ∀ (S_lane : Nat → Int32) (S_length : Nat → Int32) (x1 : Int32) (y0 : Int32) (r : Int32) (S_lane' : Nat → Int32) (S_length' : Nat → Int32), fX4_lose_26 n S_lane S_length 0 x1 y0 = some (r, S_lane', S_length') → ∀ (H : Heap) (locs : List Loc) (ls : Array Slot), va_P D classes (W_D cI cS a_d a_f a_t a_r a_z a_f_kind a_f_wet a_g a_g_kind a_g_wet a_r_cells a_r_hours a_r_cracked a_s0 a_s0_row a_s1 a_s1_row a_s2 a_s2_row a_s3 a_s3_row d_hour d_traced d_latestFault f_kind f_wet f_wide f_rows f_cells f_sun f_all f_firstColumn f_lastColumn t_hours t_opened t_firstWrong g_kind g_wet g_wide g_rows g_cells g_sun g_all g_firstColumn g_lastColumn r_cells r_hours r_cracked r_count S_row S_lane S_length) H → va_D A (W_D cI cS a_d a_f a_t a_r a_z a_f_kind a_f_wet a_g a_g_kind a_g_wet a_r_cells a_r_hours a_r_cracked a_s0 a_s0_row a_s1 a_s1_row a_s2 a_s2_row a_s3 a_s3_row d_hour d_traced d_latestFault f_kind f_wet f_wide f_rows f_cells f_sun f_all f_firstColumn f_lastColumn t_hours t_opened t_firstWrong g_kind g_wet g_wide g_rows g_cells g_sun g_all g_firstColumn g_lastColumn r_cells r_hours r_cracked r_count S_row S_lane S_length) → va_S A s.heap H locs → lv_has ls 3 [(0, .ref a_d), (1, .int x1)] → W p l e (Rm 2) s m args below meth c H locs 0 0 (MQ below (QW D (tysA cI cS) (some (.int r)) (W_D cI cS a_d a_f a_t a_r a_z a_f_kind a_f_wet a_g a_g_kind a_g_wet a_r_cells a_r_hours a_r_cracked a_s0 a_s0_row a_s1 a_s1_row a_s2 a_s2_row a_s3 a_s3_row d_hour d_traced d_latestFault f_kind f_wet f_wide f_rows f_cells f_sun f_all f_firstColumn f_lastColumn t_hours t_opened t_firstWrong g_kind g_wet g_wide g_rows g_cells g_sun g_all g_firstColumn g_lastColumn r_cells r_hours r_cracked r_count S_row S_lane' S_length') A) args s 0 0 A) (F0 m 26 ls [.int y0]) := by
  obtain ⟨hx, hb, hr, hml, hown, hts, hlk, hnw⟩ := id Cc
  intro S_lane S_length x1 y0 r S_lane' S_length' hf H locs ls hP hD hS hl
  unfold fX4_lose_26 at hf
  refine lv_istore_n (lv' := [(2, .int y0), (0, .ref a_d), (1, .int x1)]) hx hb dX4_lose_26 rfl hl (by decide) rfl (fun ls hl => ?_)
  refine lv_aload_n hx hb dX4_lose_27 rfl (lv_at hl 1 rfl) ?_
  refine va_get (D := D) (ci := 4) (v := .ref a_z) (C := RX4) (T := TX4) (N := 7) hx hb hts inX4 hown hK hP 0 rfl rfl 3 (by decide) (hts _ tw_126) (fun _ h9 => h9) rfl dX4_lose_28 ?_
  refine lv_iload_n hx hb dX4_lose_31 rfl (lv_at hl 2 rfl) ?_
  obtain ⟨hin, hf⟩ := gd_some hf
  refine va_aldq hx hb hK hP 12 1 rfl rfl hin dX4_lose_32 ?_
  obtain ⟨j, hj, hjx⟩ : ∃ j, j < 4 ∧ x1.toNatClampNeg = j := ⟨_, Nat.not_le.mp fun q => hin (Or.inr q), rfl⟩
  rw [hjx] at hf ⊢
  clear hin hjx
  rcases (show j = 0 ∨ j = 1 ∨ j = 2 ∨ j = 3 by omega) with rfl | rfl | rfl | rfl
  · refine W.eq (g2 := F0 m 33 ls [.ref a_s0]) rfl ?_
    obtain ⟨q33_1, hq5, hf⟩ := Option.bind_eq_some_iff.mp hf
    refine cV (ws' := (W_D cI cS a_d a_f a_t a_r a_z a_f_kind a_f_wet a_g a_g_kind a_g_wet a_r_cells a_r_hours a_r_cracked a_s0 a_s0_row a_s1 a_s1_row a_s2 a_s2_row a_s3 a_s3_row d_hour d_traced d_latestFault f_kind f_wet f_wide f_rows f_cells f_sun f_all f_firstColumn f_lastColumn t_hours t_opened t_firstWrong g_kind g_wet g_wide g_rows g_cells g_sun g_all g_firstColumn g_lastColumn r_cells r_hours r_cracked r_count S_row (va_up S_lane 0 q33_1.1) (va_up S_length 0 q33_1.2))) (rest := []) (st1 := []) Cc hK hA hP hD hS hl.1 (ctX2_becomeNothing l D cI cS a_s0 a_s0_row (S_row 0) (S_lane 0) (S_length 0)  n q33_1.1 q33_1.2 hq5) ⟨tw_432, tw_429, tw_430, tw_431, tw_5⟩ mdX2_becomeNothing ⟨rfl, rfl, Nat.le_of_ble_eq_true rfl, Nat.le_of_ble_eq_true rfl⟩ rfl dX4_lose_33 rfl (Nat.le_of_ble_eq_true rfl) ⟨Nat.zero_le _, Nat.zero_le _⟩ rfl rfl rfl [13, 14] [0, 1, 2, 3, 4, 5, 6, 7, 8, 9, 10, 11, 12, 15, 16, 17, 18, 19, 20] [0, 1, 2, 3, 4, 5, 6, 7, 8, 9, 10, 11, 12, 19, 20, 13, 14, 15, 16, 17, 18] rfl rfl (by decide) rfl (fun H locs hP hD hS => ?_)
    refine lv_iload_n hx hb dX4_lose_36 rfl (lv_at hl 0 rfl) ?_
    replace hf := Option.some.inj hf
    obtain ⟨er0, er1⟩ := Prod.mk.inj hf
    obtain ⟨er2, er3⟩ := Prod.mk.inj er1
    clear hf er1
    subst er0
    subst er2
    subst er3
    exact rt_i Cc hK hP hD hS dX4_lose_37
  · refine W.eq (g2 := F0 m 33 ls [.ref a_s1]) rfl ?_
    obtain ⟨q33_1, hq6, hf⟩ := Option.bind_eq_some_iff.mp hf
    refine cV (ws' := (W_D cI cS a_d a_f a_t a_r a_z a_f_kind a_f_wet a_g a_g_kind a_g_wet a_r_cells a_r_hours a_r_cracked a_s0 a_s0_row a_s1 a_s1_row a_s2 a_s2_row a_s3 a_s3_row d_hour d_traced d_latestFault f_kind f_wet f_wide f_rows f_cells f_sun f_all f_firstColumn f_lastColumn t_hours t_opened t_firstWrong g_kind g_wet g_wide g_rows g_cells g_sun g_all g_firstColumn g_lastColumn r_cells r_hours r_cracked r_count S_row (va_up S_lane 1 q33_1.1) (va_up S_length 1 q33_1.2))) (rest := []) (st1 := []) Cc hK hA hP hD hS hl.1 (ctX2_becomeNothing l D cI cS a_s1 a_s1_row (S_row 1) (S_lane 1) (S_length 1)  n q33_1.1 q33_1.2 hq6) ⟨tw_432, tw_429, tw_430, tw_431, tw_5⟩ mdX2_becomeNothing ⟨rfl, rfl, Nat.le_of_ble_eq_true rfl, Nat.le_of_ble_eq_true rfl⟩ rfl dX4_lose_33 rfl (Nat.le_of_ble_eq_true rfl) ⟨Nat.zero_le _, Nat.zero_le _⟩ rfl rfl rfl [15, 16] [0, 1, 2, 3, 4, 5, 6, 7, 8, 9, 10, 11, 12, 13, 14, 17, 18, 19, 20] [0, 1, 2, 3, 4, 5, 6, 7, 8, 9, 10, 11, 12, 13, 14, 19, 20, 15, 16, 17, 18] rfl rfl (by decide) rfl (fun H locs hP hD hS => ?_)
    refine lv_iload_n hx hb dX4_lose_36 rfl (lv_at hl 0 rfl) ?_
    replace hf := Option.some.inj hf
    obtain ⟨er0, er1⟩ := Prod.mk.inj hf
    obtain ⟨er2, er3⟩ := Prod.mk.inj er1
    clear hf er1
    subst er0
    subst er2
    subst er3
    exact rt_i Cc hK hP hD hS dX4_lose_37
  · refine W.eq (g2 := F0 m 33 ls [.ref a_s2]) rfl ?_
    obtain ⟨q33_1, hq7, hf⟩ := Option.bind_eq_some_iff.mp hf
    refine cV (ws' := (W_D cI cS a_d a_f a_t a_r a_z a_f_kind a_f_wet a_g a_g_kind a_g_wet a_r_cells a_r_hours a_r_cracked a_s0 a_s0_row a_s1 a_s1_row a_s2 a_s2_row a_s3 a_s3_row d_hour d_traced d_latestFault f_kind f_wet f_wide f_rows f_cells f_sun f_all f_firstColumn f_lastColumn t_hours t_opened t_firstWrong g_kind g_wet g_wide g_rows g_cells g_sun g_all g_firstColumn g_lastColumn r_cells r_hours r_cracked r_count S_row (va_up S_lane 2 q33_1.1) (va_up S_length 2 q33_1.2))) (rest := []) (st1 := []) Cc hK hA hP hD hS hl.1 (ctX2_becomeNothing l D cI cS a_s2 a_s2_row (S_row 2) (S_lane 2) (S_length 2)  n q33_1.1 q33_1.2 hq7) ⟨tw_432, tw_429, tw_430, tw_431, tw_5⟩ mdX2_becomeNothing ⟨rfl, rfl, Nat.le_of_ble_eq_true rfl, Nat.le_of_ble_eq_true rfl⟩ rfl dX4_lose_33 rfl (Nat.le_of_ble_eq_true rfl) ⟨Nat.zero_le _, Nat.zero_le _⟩ rfl rfl rfl [17, 18] [0, 1, 2, 3, 4, 5, 6, 7, 8, 9, 10, 11, 12, 13, 14, 15, 16, 19, 20] [0, 1, 2, 3, 4, 5, 6, 7, 8, 9, 10, 11, 12, 13, 14, 15, 16, 19, 20, 17, 18] rfl rfl (by decide) rfl (fun H locs hP hD hS => ?_)
    refine lv_iload_n hx hb dX4_lose_36 rfl (lv_at hl 0 rfl) ?_
    replace hf := Option.some.inj hf
    obtain ⟨er0, er1⟩ := Prod.mk.inj hf
    obtain ⟨er2, er3⟩ := Prod.mk.inj er1
    clear hf er1
    subst er0
    subst er2
    subst er3
    exact rt_i Cc hK hP hD hS dX4_lose_37
  · refine W.eq (g2 := F0 m 33 ls [.ref a_s3]) rfl ?_
    obtain ⟨q33_1, hq8, hf⟩ := Option.bind_eq_some_iff.mp hf
    refine cV (ws' := (W_D cI cS a_d a_f a_t a_r a_z a_f_kind a_f_wet a_g a_g_kind a_g_wet a_r_cells a_r_hours a_r_cracked a_s0 a_s0_row a_s1 a_s1_row a_s2 a_s2_row a_s3 a_s3_row d_hour d_traced d_latestFault f_kind f_wet f_wide f_rows f_cells f_sun f_all f_firstColumn f_lastColumn t_hours t_opened t_firstWrong g_kind g_wet g_wide g_rows g_cells g_sun g_all g_firstColumn g_lastColumn r_cells r_hours r_cracked r_count S_row (va_up S_lane 3 q33_1.1) (va_up S_length 3 q33_1.2))) (rest := []) (st1 := []) Cc hK hA hP hD hS hl.1 (ctX2_becomeNothing l D cI cS a_s3 a_s3_row (S_row 3) (S_lane 3) (S_length 3)  n q33_1.1 q33_1.2 hq8) ⟨tw_432, tw_429, tw_430, tw_431, tw_5⟩ mdX2_becomeNothing ⟨rfl, rfl, Nat.le_of_ble_eq_true rfl, Nat.le_of_ble_eq_true rfl⟩ rfl dX4_lose_33 rfl (Nat.le_of_ble_eq_true rfl) ⟨Nat.zero_le _, Nat.zero_le _⟩ rfl rfl rfl [19, 20] [0, 1, 2, 3, 4, 5, 6, 7, 8, 9, 10, 11, 12, 13, 14, 15, 16, 17, 18] [0, 1, 2, 3, 4, 5, 6, 7, 8, 9, 10, 11, 12, 13, 14, 15, 16, 17, 18, 19, 20] rfl rfl (by decide) rfl (fun H locs hP hD hS => ?_)
    refine lv_iload_n hx hb dX4_lose_36 rfl (lv_at hl 0 rfl) ?_
    replace hf := Option.some.inj hf
    obtain ⟨er0, er1⟩ := Prod.mk.inj hf
    obtain ⟨er2, er3⟩ := Prod.mk.inj er1
    clear hf er1
    subst er0
    subst er2
    subst er3
    exact rt_i Cc hK hP hD hS dX4_lose_37
set_option maxHeartbeats 4000000 in
set_option maxRecDepth 100000 in
theorem bX4_lose_26_1 {p : Program} {l : Launch} {e : Env} {s : State} {m : MethodId} {args : Array Value} {below : List Frame} {meth : Method} {c : Code} {A : Nat → Prop} {D : va_G} {cI cS : ClassId} (a_d a_f a_t a_r a_z a_f_kind a_f_wet a_g a_g_kind a_g_wet a_r_cells a_r_hours a_r_cracked a_s0 a_s0_row a_s1 a_s1_row a_s2 a_s2_row a_s3 a_s3_row : Nat) (d_hour : Int32) (d_traced : Int32) (d_latestFault : Int32) (f_kind : Nat → Int32) (f_wet : Nat → Int32) (f_wide : Int32) (f_rows : Int32) (f_cells : Int32) (f_sun : Int32) (f_all : Int32) (f_firstColumn : Int32) (f_lastColumn : Int32) (t_hours : Int32) (t_opened : Int32) (t_firstWrong : Int32) (g_kind : Nat → Int32) (g_wet : Nat → Int32) (g_wide : Int32) (g_rows : Int32) (g_cells : Int32) (g_sun : Int32) (g_all : Int32) (g_firstColumn : Int32) (g_lastColumn : Int32) (r_cells : Nat → Int32) (r_hours : Nat → Int32) (r_cracked : Nat → Int32) (r_count : Int32) (S_row : Nat → Nat → Int32) (Cc : Cx p s m args meth c RX4 cX4_lose 3 (some .int)) (hK : va_K D classes (tysA cI cS) s) (hA : ∀ q, s.heap.size ≤ q → A q) (n : Nat) : ∀ (S_lane : Nat → Int32) (S_length : Nat → Int32) (x1 : Int32) (y0 : Int32) (r : Int32) (S_lane' : Nat → Int32) (S_length' : Nat → Int32), fX4_lose_26 n S_lane S_length 1 x1 y0 = some (r, S_lane', S_length') → ∀ (H : Heap) (locs : List Loc) (ls : Array Slot), va_P D classes (W_D cI cS a_d a_f a_t a_r a_z a_f_kind a_f_wet a_g a_g_kind a_g_wet a_r_cells a_r_hours a_r_cracked a_s0 a_s0_row a_s1 a_s1_row a_s2 a_s2_row a_s3 a_s3_row d_hour d_traced d_latestFault f_kind f_wet f_wide f_rows f_cells f_sun f_all f_firstColumn f_lastColumn t_hours t_opened t_firstWrong g_kind g_wet g_wide g_rows g_cells g_sun g_all g_firstColumn g_lastColumn r_cells r_hours r_cracked r_count S_row S_lane S_length) H → va_D A (W_D cI cS a_d a_f a_t a_r a_z a_f_kind a_f_wet a_g a_g_kind a_g_wet a_r_cells a_r_hours a_r_cracked a_s0 a_s0_row a_s1 a_s1_row a_s2 a_s2_row a_s3 a_s3_row d_hour d_traced d_latestFault f_kind f_wet f_wide f_rows f_cells f_sun f_all f_firstColumn f_lastColumn t_hours t_opened t_firstWrong g_kind g_wet g_wide g_rows g_cells g_sun g_all g_firstColumn g_lastColumn r_cells r_hours r_cracked r_count S_row S_lane S_length) → va_S A s.heap H locs → lv_has ls 3 [(0, .ref a_d), (1, .int x1)] → W p l e (Rm 2) s m args below meth c H locs 0 0 (MQ below (QW D (tysA cI cS) (some (.int r)) (W_D cI cS a_d a_f a_t a_r a_z a_f_kind a_f_wet a_g a_g_kind a_g_wet a_r_cells a_r_hours a_r_cracked a_s0 a_s0_row a_s1 a_s1_row a_s2 a_s2_row a_s3 a_s3_row d_hour d_traced d_latestFault f_kind f_wet f_wide f_rows f_cells f_sun f_all f_firstColumn f_lastColumn t_hours t_opened t_firstWrong g_kind g_wet g_wide g_rows g_cells g_sun g_all g_firstColumn g_lastColumn r_cells r_hours r_cracked r_count S_row S_lane' S_length') A) args s 0 0 A) (F0 m 26 ls [.int y0]) := by
  obtain ⟨hx, hb, hr, hml, hown, hts, hlk, hnw⟩ := id Cc
  intro S_lane S_length x1 y0 r S_lane' S_length' hf H locs ls hP hD hS hl
  unfold fX4_lose_26 at hf
  refine lv_istore_n (lv' := [(2, .int y0), (0, .ref a_d), (1, .int x1)]) hx hb dX4_lose_26 rfl hl (by decide) rfl (fun ls hl => ?_)
  refine lv_aload_n hx hb dX4_lose_27 rfl (lv_at hl 1 rfl) ?_
  refine va_get (D := D) (ci := 4) (v := .ref a_z) (C := RX4) (T := TX4) (N := 7) hx hb hts inX4 hown hK hP 0 rfl rfl 3 (by decide) (hts _ tw_126) (fun _ h9 => h9) rfl dX4_lose_28 ?_
  refine lv_iload_n hx hb dX4_lose_31 rfl (lv_at hl 2 rfl) ?_
  obtain ⟨hin, hf⟩ := gd_some hf
  refine va_aldq hx hb hK hP 12 1 rfl rfl hin dX4_lose_32 ?_
  obtain ⟨j, hj, hjx⟩ : ∃ j, j < 4 ∧ x1.toNatClampNeg = j := ⟨_, Nat.not_le.mp fun q => hin (Or.inr q), rfl⟩
  rw [hjx] at hf ⊢
  clear hin hjx
  rcases (show j = 0 ∨ j = 1 ∨ j = 2 ∨ j = 3 by omega) with rfl | rfl | rfl | rfl
  · refine W.eq (g2 := F0 m 33 ls [.ref a_s0]) rfl ?_
    obtain ⟨q33_1, hq11, hf⟩ := Option.bind_eq_some_iff.mp hf
    refine cV (ws' := (W_D cI cS a_d a_f a_t a_r a_z a_f_kind a_f_wet a_g a_g_kind a_g_wet a_r_cells a_r_hours a_r_cracked a_s0 a_s0_row a_s1 a_s1_row a_s2 a_s2_row a_s3 a_s3_row d_hour d_traced d_latestFault f_kind f_wet f_wide f_rows f_cells f_sun f_all f_firstColumn f_lastColumn t_hours t_opened t_firstWrong g_kind g_wet g_wide g_rows g_cells g_sun g_all g_firstColumn g_lastColumn r_cells r_hours r_cracked r_count S_row (va_up S_lane 0 q33_1.1) (va_up S_length 0 q33_1.2))) (rest := []) (st1 := []) Cc hK hA hP hD hS hl.1 (ctX2_becomeNothing l D cI cS a_s0 a_s0_row (S_row 0) (S_lane 0) (S_length 0)  n q33_1.1 q33_1.2 hq11) ⟨tw_432, tw_429, tw_430, tw_431, tw_5⟩ mdX2_becomeNothing ⟨rfl, rfl, Nat.le_of_ble_eq_true rfl, Nat.le_of_ble_eq_true rfl⟩ rfl dX4_lose_33 rfl (Nat.le_of_ble_eq_true rfl) ⟨Nat.zero_le _, Nat.zero_le _⟩ rfl rfl rfl [13, 14] [0, 1, 2, 3, 4, 5, 6, 7, 8, 9, 10, 11, 12, 15, 16, 17, 18, 19, 20] [0, 1, 2, 3, 4, 5, 6, 7, 8, 9, 10, 11, 12, 19, 20, 13, 14, 15, 16, 17, 18] rfl rfl (by decide) rfl (fun H locs hP hD hS => ?_)
    refine lv_iload_n hx hb dX4_lose_36 rfl (lv_at hl 0 rfl) ?_
    replace hf := Option.some.inj hf
    obtain ⟨er0, er1⟩ := Prod.mk.inj hf
    obtain ⟨er2, er3⟩ := Prod.mk.inj er1
    clear hf er1
    subst er0
    subst er2
    subst er3
    exact rt_i Cc hK hP hD hS dX4_lose_37
  · refine W.eq (g2 := F0 m 33 ls [.ref a_s1]) rfl ?_
    obtain ⟨q33_1, hq12, hf⟩ := Option.bind_eq_some_iff.mp hf
    refine cV (ws' := (W_D cI cS a_d a_f a_t a_r a_z a_f_kind a_f_wet a_g a_g_kind a_g_wet a_r_cells a_r_hours a_r_cracked a_s0 a_s0_row a_s1 a_s1_row a_s2 a_s2_row a_s3 a_s3_row d_hour d_traced d_latestFault f_kind f_wet f_wide f_rows f_cells f_sun f_all f_firstColumn f_lastColumn t_hours t_opened t_firstWrong g_kind g_wet g_wide g_rows g_cells g_sun g_all g_firstColumn g_lastColumn r_cells r_hours r_cracked r_count S_row (va_up S_lane 1 q33_1.1) (va_up S_length 1 q33_1.2))) (rest := []) (st1 := []) Cc hK hA hP hD hS hl.1 (ctX2_becomeNothing l D cI cS a_s1 a_s1_row (S_row 1) (S_lane 1) (S_length 1)  n q33_1.1 q33_1.2 hq12) ⟨tw_432, tw_429, tw_430, tw_431, tw_5⟩ mdX2_becomeNothing ⟨rfl, rfl, Nat.le_of_ble_eq_true rfl, Nat.le_of_ble_eq_true rfl⟩ rfl dX4_lose_33 rfl (Nat.le_of_ble_eq_true rfl) ⟨Nat.zero_le _, Nat.zero_le _⟩ rfl rfl rfl [15, 16] [0, 1, 2, 3, 4, 5, 6, 7, 8, 9, 10, 11, 12, 13, 14, 17, 18, 19, 20] [0, 1, 2, 3, 4, 5, 6, 7, 8, 9, 10, 11, 12, 13, 14, 19, 20, 15, 16, 17, 18] rfl rfl (by decide) rfl (fun H locs hP hD hS => ?_)
    refine lv_iload_n hx hb dX4_lose_36 rfl (lv_at hl 0 rfl) ?_
    replace hf := Option.some.inj hf
    obtain ⟨er0, er1⟩ := Prod.mk.inj hf
    obtain ⟨er2, er3⟩ := Prod.mk.inj er1
    clear hf er1
    subst er0
    subst er2
    subst er3
    exact rt_i Cc hK hP hD hS dX4_lose_37
  · refine W.eq (g2 := F0 m 33 ls [.ref a_s2]) rfl ?_
    obtain ⟨q33_1, hq13, hf⟩ := Option.bind_eq_some_iff.mp hf
    refine cV (ws' := (W_D cI cS a_d a_f a_t a_r a_z a_f_kind a_f_wet a_g a_g_kind a_g_wet a_r_cells a_r_hours a_r_cracked a_s0 a_s0_row a_s1 a_s1_row a_s2 a_s2_row a_s3 a_s3_row d_hour d_traced d_latestFault f_kind f_wet f_wide f_rows f_cells f_sun f_all f_firstColumn f_lastColumn t_hours t_opened t_firstWrong g_kind g_wet g_wide g_rows g_cells g_sun g_all g_firstColumn g_lastColumn r_cells r_hours r_cracked r_count S_row (va_up S_lane 2 q33_1.1) (va_up S_length 2 q33_1.2))) (rest := []) (st1 := []) Cc hK hA hP hD hS hl.1 (ctX2_becomeNothing l D cI cS a_s2 a_s2_row (S_row 2) (S_lane 2) (S_length 2)  n q33_1.1 q33_1.2 hq13) ⟨tw_432, tw_429, tw_430, tw_431, tw_5⟩ mdX2_becomeNothing ⟨rfl, rfl, Nat.le_of_ble_eq_true rfl, Nat.le_of_ble_eq_true rfl⟩ rfl dX4_lose_33 rfl (Nat.le_of_ble_eq_true rfl) ⟨Nat.zero_le _, Nat.zero_le _⟩ rfl rfl rfl [17, 18] [0, 1, 2, 3, 4, 5, 6, 7, 8, 9, 10, 11, 12, 13, 14, 15, 16, 19, 20] [0, 1, 2, 3, 4, 5, 6, 7, 8, 9, 10, 11, 12, 13, 14, 15, 16, 19, 20, 17, 18] rfl rfl (by decide) rfl (fun H locs hP hD hS => ?_)
    refine lv_iload_n hx hb dX4_lose_36 rfl (lv_at hl 0 rfl) ?_
    replace hf := Option.some.inj hf
    obtain ⟨er0, er1⟩ := Prod.mk.inj hf
    obtain ⟨er2, er3⟩ := Prod.mk.inj er1
    clear hf er1
    subst er0
    subst er2
    subst er3
    exact rt_i Cc hK hP hD hS dX4_lose_37
  · refine W.eq (g2 := F0 m 33 ls [.ref a_s3]) rfl ?_
    obtain ⟨q33_1, hq14, hf⟩ := Option.bind_eq_some_iff.mp hf
    refine cV (ws' := (W_D cI cS a_d a_f a_t a_r a_z a_f_kind a_f_wet a_g a_g_kind a_g_wet a_r_cells a_r_hours a_r_cracked a_s0 a_s0_row a_s1 a_s1_row a_s2 a_s2_row a_s3 a_s3_row d_hour d_traced d_latestFault f_kind f_wet f_wide f_rows f_cells f_sun f_all f_firstColumn f_lastColumn t_hours t_opened t_firstWrong g_kind g_wet g_wide g_rows g_cells g_sun g_all g_firstColumn g_lastColumn r_cells r_hours r_cracked r_count S_row (va_up S_lane 3 q33_1.1) (va_up S_length 3 q33_1.2))) (rest := []) (st1 := []) Cc hK hA hP hD hS hl.1 (ctX2_becomeNothing l D cI cS a_s3 a_s3_row (S_row 3) (S_lane 3) (S_length 3)  n q33_1.1 q33_1.2 hq14) ⟨tw_432, tw_429, tw_430, tw_431, tw_5⟩ mdX2_becomeNothing ⟨rfl, rfl, Nat.le_of_ble_eq_true rfl, Nat.le_of_ble_eq_true rfl⟩ rfl dX4_lose_33 rfl (Nat.le_of_ble_eq_true rfl) ⟨Nat.zero_le _, Nat.zero_le _⟩ rfl rfl rfl [19, 20] [0, 1, 2, 3, 4, 5, 6, 7, 8, 9, 10, 11, 12, 13, 14, 15, 16, 17, 18] [0, 1, 2, 3, 4, 5, 6, 7, 8, 9, 10, 11, 12, 13, 14, 15, 16, 17, 18, 19, 20] rfl rfl (by decide) rfl (fun H locs hP hD hS => ?_)
    refine lv_iload_n hx hb dX4_lose_36 rfl (lv_at hl 0 rfl) ?_
    replace hf := Option.some.inj hf
    obtain ⟨er0, er1⟩ := Prod.mk.inj hf
    obtain ⟨er2, er3⟩ := Prod.mk.inj er1
    clear hf er1
    subst er0
    subst er2
    subst er3
    exact rt_i Cc hK hP hD hS dX4_lose_37
set_option maxHeartbeats 4000000 in
set_option maxRecDepth 100000 in
theorem bX4_lose_26_2 {p : Program} {l : Launch} {e : Env} {s : State} {m : MethodId} {args : Array Value} {below : List Frame} {meth : Method} {c : Code} {A : Nat → Prop} {D : va_G} {cI cS : ClassId} (a_d a_f a_t a_r a_z a_f_kind a_f_wet a_g a_g_kind a_g_wet a_r_cells a_r_hours a_r_cracked a_s0 a_s0_row a_s1 a_s1_row a_s2 a_s2_row a_s3 a_s3_row : Nat) (d_hour : Int32) (d_traced : Int32) (d_latestFault : Int32) (f_kind : Nat → Int32) (f_wet : Nat → Int32) (f_wide : Int32) (f_rows : Int32) (f_cells : Int32) (f_sun : Int32) (f_all : Int32) (f_firstColumn : Int32) (f_lastColumn : Int32) (t_hours : Int32) (t_opened : Int32) (t_firstWrong : Int32) (g_kind : Nat → Int32) (g_wet : Nat → Int32) (g_wide : Int32) (g_rows : Int32) (g_cells : Int32) (g_sun : Int32) (g_all : Int32) (g_firstColumn : Int32) (g_lastColumn : Int32) (r_cells : Nat → Int32) (r_hours : Nat → Int32) (r_cracked : Nat → Int32) (r_count : Int32) (S_row : Nat → Nat → Int32) (Cc : Cx p s m args meth c RX4 cX4_lose 3 (some .int)) (hK : va_K D classes (tysA cI cS) s) (hA : ∀ q, s.heap.size ≤ q → A q) (n : Nat) : ∀ (S_lane : Nat → Int32) (S_length : Nat → Int32) (x1 : Int32) (y0 : Int32) (r : Int32) (S_lane' : Nat → Int32) (S_length' : Nat → Int32), fX4_lose_26 n S_lane S_length 2 x1 y0 = some (r, S_lane', S_length') → ∀ (H : Heap) (locs : List Loc) (ls : Array Slot), va_P D classes (W_D cI cS a_d a_f a_t a_r a_z a_f_kind a_f_wet a_g a_g_kind a_g_wet a_r_cells a_r_hours a_r_cracked a_s0 a_s0_row a_s1 a_s1_row a_s2 a_s2_row a_s3 a_s3_row d_hour d_traced d_latestFault f_kind f_wet f_wide f_rows f_cells f_sun f_all f_firstColumn f_lastColumn t_hours t_opened t_firstWrong g_kind g_wet g_wide g_rows g_cells g_sun g_all g_firstColumn g_lastColumn r_cells r_hours r_cracked r_count S_row S_lane S_length) H → va_D A (W_D cI cS a_d a_f a_t a_r a_z a_f_kind a_f_wet a_g a_g_kind a_g_wet a_r_cells a_r_hours a_r_cracked a_s0 a_s0_row a_s1 a_s1_row a_s2 a_s2_row a_s3 a_s3_row d_hour d_traced d_latestFault f_kind f_wet f_wide f_rows f_cells f_sun f_all f_firstColumn f_lastColumn t_hours t_opened t_firstWrong g_kind g_wet g_wide g_rows g_cells g_sun g_all g_firstColumn g_lastColumn r_cells r_hours r_cracked r_count S_row S_lane S_length) → va_S A s.heap H locs → lv_has ls 3 [(0, .ref a_d), (1, .int x1)] → W p l e (Rm 2) s m args below meth c H locs 0 0 (MQ below (QW D (tysA cI cS) (some (.int r)) (W_D cI cS a_d a_f a_t a_r a_z a_f_kind a_f_wet a_g a_g_kind a_g_wet a_r_cells a_r_hours a_r_cracked a_s0 a_s0_row a_s1 a_s1_row a_s2 a_s2_row a_s3 a_s3_row d_hour d_traced d_latestFault f_kind f_wet f_wide f_rows f_cells f_sun f_all f_firstColumn f_lastColumn t_hours t_opened t_firstWrong g_kind g_wet g_wide g_rows g_cells g_sun g_all g_firstColumn g_lastColumn r_cells r_hours r_cracked r_count S_row S_lane' S_length') A) args s 0 0 A) (F0 m 26 ls [.int y0]) := by
  obtain ⟨hx, hb, hr, hml, hown, hts, hlk, hnw⟩ := id Cc
  intro S_lane S_length x1 y0 r S_lane' S_length' hf H locs ls hP hD hS hl
  unfold fX4_lose_26 at hf
  refine lv_istore_n (lv' := [(2, .int y0), (0, .ref a_d), (1, .int x1)]) hx hb dX4_lose_26 rfl hl (by decide) rfl (fun ls hl => ?_)
  refine lv_aload_n hx hb dX4_lose_27 rfl (lv_at hl 1 rfl) ?_
  refine va_get (D := D) (ci := 4) (v := .ref a_z) (C := RX4) (T := TX4) (N := 7) hx hb hts inX4 hown hK hP 0 rfl rfl 3 (by decide) (hts _ tw_126) (fun _ h9 => h9) rfl dX4_lose_28 ?_
  refine lv_iload_n hx hb dX4_lose_31 rfl (lv_at hl 2 rfl) ?_
  obtain ⟨hin, hf⟩ := gd_some hf
  refine va_aldq hx hb hK hP 12 1 rfl rfl hin dX4_lose_32 ?_
  obtain ⟨j, hj, hjx⟩ : ∃ j, j < 4 ∧ x1.toNatClampNeg = j := ⟨_, Nat.not_le.mp fun q => hin (Or.inr q), rfl⟩
  rw [hjx] at hf ⊢
  clear hin hjx
  rcases (show j = 0 ∨ j = 1 ∨ j = 2 ∨ j = 3 by omega) with rfl | rfl | rfl | rfl
  · refine W.eq (g2 := F0 m 33 ls [.ref a_s0]) rfl ?_
    obtain ⟨q33_1, hq17, hf⟩ := Option.bind_eq_some_iff.mp hf
    refine cV (ws' := (W_D cI cS a_d a_f a_t a_r a_z a_f_kind a_f_wet a_g a_g_kind a_g_wet a_r_cells a_r_hours a_r_cracked a_s0 a_s0_row a_s1 a_s1_row a_s2 a_s2_row a_s3 a_s3_row d_hour d_traced d_latestFault f_kind f_wet f_wide f_rows f_cells f_sun f_all f_firstColumn f_lastColumn t_hours t_opened t_firstWrong g_kind g_wet g_wide g_rows g_cells g_sun g_all g_firstColumn g_lastColumn r_cells r_hours r_cracked r_count S_row (va_up S_lane 0 q33_1.1) (va_up S_length 0 q33_1.2))) (rest := []) (st1 := []) Cc hK hA hP hD hS hl.1 (ctX2_becomeNothing l D cI cS a_s0 a_s0_row (S_row 0) (S_lane 0) (S_length 0)  n q33_1.1 q33_1.2 hq17) ⟨tw_432, tw_429, tw_430, tw_431, tw_5⟩ mdX2_becomeNothing ⟨rfl, rfl, Nat.le_of_ble_eq_true rfl, Nat.le_of_ble_eq_true rfl⟩ rfl dX4_lose_33 rfl (Nat.le_of_ble_eq_true rfl) ⟨Nat.zero_le _, Nat.zero_le _⟩ rfl rfl rfl [13, 14] [0, 1, 2, 3, 4, 5, 6, 7, 8, 9, 10, 11, 12, 15, 16, 17, 18, 19, 20] [0, 1, 2, 3, 4, 5, 6, 7, 8, 9, 10, 11, 12, 19, 20, 13, 14, 15, 16, 17, 18] rfl rfl (by decide) rfl (fun H locs hP hD hS => ?_)
    refine lv_iload_n hx hb dX4_lose_36 rfl (lv_at hl 0 rfl) ?_
    replace hf := Option.some.inj hf
    obtain ⟨er0, er1⟩ := Prod.mk.inj hf
    obtain ⟨er2, er3⟩ := Prod.mk.inj er1
    clear hf er1
    subst er0
    subst er2
    subst er3
    exact rt_i Cc hK hP hD hS dX4_lose_37
  · refine W.eq (g2 := F0 m 33 ls [.ref a_s1]) rfl ?_
    obtain ⟨q33_1, hq18, hf⟩ := Option.bind_eq_some_iff.mp hf
    refine cV (ws' := (W_D cI cS a_d a_f a_t a_r a_z a_f_kind a_f_wet a_g a_g_kind a_g_wet a_r_cells a_r_hours a_r_cracked a_s0 a_s0_row a_s1 a_s1_row a_s2 a_s2_row a_s3 a_s3_row d_hour d_traced d_latestFault f_kind f_wet f_wide f_rows f_cells f_sun f_all f_firstColumn f_lastColumn t_hours t_opened t_firstWrong g_kind g_wet g_wide g_rows g_cells g_sun g_all g_firstColumn g_lastColumn r_cells r_hours r_cracked r_count S_row (va_up S_lane 1 q33_1.1) (va_up S_length 1 q33_1.2))) (rest := []) (st1 := []) Cc hK hA hP hD hS hl.1 (ctX2_becomeNothing l D cI cS a_s1 a_s1_row (S_row 1) (S_lane 1) (S_length 1)  n q33_1.1 q33_1.2 hq18) ⟨tw_432, tw_429, tw_430, tw_431, tw_5⟩ mdX2_becomeNothing ⟨rfl, rfl, Nat.le_of_ble_eq_true rfl, Nat.le_of_ble_eq_true rfl⟩ rfl dX4_lose_33 rfl (Nat.le_of_ble_eq_true rfl) ⟨Nat.zero_le _, Nat.zero_le _⟩ rfl rfl rfl [15, 16] [0, 1, 2, 3, 4, 5, 6, 7, 8, 9, 10, 11, 12, 13, 14, 17, 18, 19, 20] [0, 1, 2, 3, 4, 5, 6, 7, 8, 9, 10, 11, 12, 13, 14, 19, 20, 15, 16, 17, 18] rfl rfl (by decide) rfl (fun H locs hP hD hS => ?_)
    refine lv_iload_n hx hb dX4_lose_36 rfl (lv_at hl 0 rfl) ?_
    replace hf := Option.some.inj hf
    obtain ⟨er0, er1⟩ := Prod.mk.inj hf
    obtain ⟨er2, er3⟩ := Prod.mk.inj er1
    clear hf er1
    subst er0
    subst er2
    subst er3
    exact rt_i Cc hK hP hD hS dX4_lose_37
  · refine W.eq (g2 := F0 m 33 ls [.ref a_s2]) rfl ?_
    obtain ⟨q33_1, hq19, hf⟩ := Option.bind_eq_some_iff.mp hf
    refine cV (ws' := (W_D cI cS a_d a_f a_t a_r a_z a_f_kind a_f_wet a_g a_g_kind a_g_wet a_r_cells a_r_hours a_r_cracked a_s0 a_s0_row a_s1 a_s1_row a_s2 a_s2_row a_s3 a_s3_row d_hour d_traced d_latestFault f_kind f_wet f_wide f_rows f_cells f_sun f_all f_firstColumn f_lastColumn t_hours t_opened t_firstWrong g_kind g_wet g_wide g_rows g_cells g_sun g_all g_firstColumn g_lastColumn r_cells r_hours r_cracked r_count S_row (va_up S_lane 2 q33_1.1) (va_up S_length 2 q33_1.2))) (rest := []) (st1 := []) Cc hK hA hP hD hS hl.1 (ctX2_becomeNothing l D cI cS a_s2 a_s2_row (S_row 2) (S_lane 2) (S_length 2)  n q33_1.1 q33_1.2 hq19) ⟨tw_432, tw_429, tw_430, tw_431, tw_5⟩ mdX2_becomeNothing ⟨rfl, rfl, Nat.le_of_ble_eq_true rfl, Nat.le_of_ble_eq_true rfl⟩ rfl dX4_lose_33 rfl (Nat.le_of_ble_eq_true rfl) ⟨Nat.zero_le _, Nat.zero_le _⟩ rfl rfl rfl [17, 18] [0, 1, 2, 3, 4, 5, 6, 7, 8, 9, 10, 11, 12, 13, 14, 15, 16, 19, 20] [0, 1, 2, 3, 4, 5, 6, 7, 8, 9, 10, 11, 12, 13, 14, 15, 16, 19, 20, 17, 18] rfl rfl (by decide) rfl (fun H locs hP hD hS => ?_)
    refine lv_iload_n hx hb dX4_lose_36 rfl (lv_at hl 0 rfl) ?_
    replace hf := Option.some.inj hf
    obtain ⟨er0, er1⟩ := Prod.mk.inj hf
    obtain ⟨er2, er3⟩ := Prod.mk.inj er1
    clear hf er1
    subst er0
    subst er2
    subst er3
    exact rt_i Cc hK hP hD hS dX4_lose_37
  · refine W.eq (g2 := F0 m 33 ls [.ref a_s3]) rfl ?_
    obtain ⟨q33_1, hq20, hf⟩ := Option.bind_eq_some_iff.mp hf
    refine cV (ws' := (W_D cI cS a_d a_f a_t a_r a_z a_f_kind a_f_wet a_g a_g_kind a_g_wet a_r_cells a_r_hours a_r_cracked a_s0 a_s0_row a_s1 a_s1_row a_s2 a_s2_row a_s3 a_s3_row d_hour d_traced d_latestFault f_kind f_wet f_wide f_rows f_cells f_sun f_all f_firstColumn f_lastColumn t_hours t_opened t_firstWrong g_kind g_wet g_wide g_rows g_cells g_sun g_all g_firstColumn g_lastColumn r_cells r_hours r_cracked r_count S_row (va_up S_lane 3 q33_1.1) (va_up S_length 3 q33_1.2))) (rest := []) (st1 := []) Cc hK hA hP hD hS hl.1 (ctX2_becomeNothing l D cI cS a_s3 a_s3_row (S_row 3) (S_lane 3) (S_length 3)  n q33_1.1 q33_1.2 hq20) ⟨tw_432, tw_429, tw_430, tw_431, tw_5⟩ mdX2_becomeNothing ⟨rfl, rfl, Nat.le_of_ble_eq_true rfl, Nat.le_of_ble_eq_true rfl⟩ rfl dX4_lose_33 rfl (Nat.le_of_ble_eq_true rfl) ⟨Nat.zero_le _, Nat.zero_le _⟩ rfl rfl rfl [19, 20] [0, 1, 2, 3, 4, 5, 6, 7, 8, 9, 10, 11, 12, 13, 14, 15, 16, 17, 18] [0, 1, 2, 3, 4, 5, 6, 7, 8, 9, 10, 11, 12, 13, 14, 15, 16, 17, 18, 19, 20] rfl rfl (by decide) rfl (fun H locs hP hD hS => ?_)
    refine lv_iload_n hx hb dX4_lose_36 rfl (lv_at hl 0 rfl) ?_
    replace hf := Option.some.inj hf
    obtain ⟨er0, er1⟩ := Prod.mk.inj hf
    obtain ⟨er2, er3⟩ := Prod.mk.inj er1
    clear hf er1
    subst er0
    subst er2
    subst er3
    exact rt_i Cc hK hP hD hS dX4_lose_37
set_option maxHeartbeats 4000000 in
set_option maxRecDepth 100000 in
theorem bX4_lose_26_3 {p : Program} {l : Launch} {e : Env} {s : State} {m : MethodId} {args : Array Value} {below : List Frame} {meth : Method} {c : Code} {A : Nat → Prop} {D : va_G} {cI cS : ClassId} (a_d a_f a_t a_r a_z a_f_kind a_f_wet a_g a_g_kind a_g_wet a_r_cells a_r_hours a_r_cracked a_s0 a_s0_row a_s1 a_s1_row a_s2 a_s2_row a_s3 a_s3_row : Nat) (d_hour : Int32) (d_traced : Int32) (d_latestFault : Int32) (f_kind : Nat → Int32) (f_wet : Nat → Int32) (f_wide : Int32) (f_rows : Int32) (f_cells : Int32) (f_sun : Int32) (f_all : Int32) (f_firstColumn : Int32) (f_lastColumn : Int32) (t_hours : Int32) (t_opened : Int32) (t_firstWrong : Int32) (g_kind : Nat → Int32) (g_wet : Nat → Int32) (g_wide : Int32) (g_rows : Int32) (g_cells : Int32) (g_sun : Int32) (g_all : Int32) (g_firstColumn : Int32) (g_lastColumn : Int32) (r_cells : Nat → Int32) (r_hours : Nat → Int32) (r_cracked : Nat → Int32) (r_count : Int32) (S_row : Nat → Nat → Int32) (Cc : Cx p s m args meth c RX4 cX4_lose 3 (some .int)) (hK : va_K D classes (tysA cI cS) s) (hA : ∀ q, s.heap.size ≤ q → A q) (n : Nat) : ∀ (S_lane : Nat → Int32) (S_length : Nat → Int32) (x1 : Int32) (y0 : Int32) (r : Int32) (S_lane' : Nat → Int32) (S_length' : Nat → Int32), fX4_lose_26 n S_lane S_length 3 x1 y0 = some (r, S_lane', S_length') → ∀ (H : Heap) (locs : List Loc) (ls : Array Slot), va_P D classes (W_D cI cS a_d a_f a_t a_r a_z a_f_kind a_f_wet a_g a_g_kind a_g_wet a_r_cells a_r_hours a_r_cracked a_s0 a_s0_row a_s1 a_s1_row a_s2 a_s2_row a_s3 a_s3_row d_hour d_traced d_latestFault f_kind f_wet f_wide f_rows f_cells f_sun f_all f_firstColumn f_lastColumn t_hours t_opened t_firstWrong g_kind g_wet g_wide g_rows g_cells g_sun g_all g_firstColumn g_lastColumn r_cells r_hours r_cracked r_count S_row S_lane S_length) H → va_D A (W_D cI cS a_d a_f a_t a_r a_z a_f_kind a_f_wet a_g a_g_kind a_g_wet a_r_cells a_r_hours a_r_cracked a_s0 a_s0_row a_s1 a_s1_row a_s2 a_s2_row a_s3 a_s3_row d_hour d_traced d_latestFault f_kind f_wet f_wide f_rows f_cells f_sun f_all f_firstColumn f_lastColumn t_hours t_opened t_firstWrong g_kind g_wet g_wide g_rows g_cells g_sun g_all g_firstColumn g_lastColumn r_cells r_hours r_cracked r_count S_row S_lane S_length) → va_S A s.heap H locs → lv_has ls 3 [(0, .ref a_d), (1, .int x1)] → W p l e (Rm 2) s m args below meth c H locs 0 0 (MQ below (QW D (tysA cI cS) (some (.int r)) (W_D cI cS a_d a_f a_t a_r a_z a_f_kind a_f_wet a_g a_g_kind a_g_wet a_r_cells a_r_hours a_r_cracked a_s0 a_s0_row a_s1 a_s1_row a_s2 a_s2_row a_s3 a_s3_row d_hour d_traced d_latestFault f_kind f_wet f_wide f_rows f_cells f_sun f_all f_firstColumn f_lastColumn t_hours t_opened t_firstWrong g_kind g_wet g_wide g_rows g_cells g_sun g_all g_firstColumn g_lastColumn r_cells r_hours r_cracked r_count S_row S_lane' S_length') A) args s 0 0 A) (F0 m 26 ls [.int y0]) := by
  obtain ⟨hx, hb, hr, hml, hown, hts, hlk, hnw⟩ := id Cc
  intro S_lane S_length x1 y0 r S_lane' S_length' hf H locs ls hP hD hS hl
  unfold fX4_lose_26 at hf
  refine lv_istore_n (lv' := [(2, .int y0), (0, .ref a_d), (1, .int x1)]) hx hb dX4_lose_26 rfl hl (by decide) rfl (fun ls hl => ?_)
  refine lv_aload_n hx hb dX4_lose_27 rfl (lv_at hl 1 rfl) ?_
  refine va_get (D := D) (ci := 4) (v := .ref a_z) (C := RX4) (T := TX4) (N := 7) hx hb hts inX4 hown hK hP 0 rfl rfl 3 (by decide) (hts _ tw_126) (fun _ h9 => h9) rfl dX4_lose_28 ?_
  refine lv_iload_n hx hb dX4_lose_31 rfl (lv_at hl 2 rfl) ?_
  obtain ⟨hin, hf⟩ := gd_some hf
  refine va_aldq hx hb hK hP 12 1 rfl rfl hin dX4_lose_32 ?_
  obtain ⟨j, hj, hjx⟩ : ∃ j, j < 4 ∧ x1.toNatClampNeg = j := ⟨_, Nat.not_le.mp fun q => hin (Or.inr q), rfl⟩
  rw [hjx] at hf ⊢
  clear hin hjx
  rcases (show j = 0 ∨ j = 1 ∨ j = 2 ∨ j = 3 by omega) with rfl | rfl | rfl | rfl
  · refine W.eq (g2 := F0 m 33 ls [.ref a_s0]) rfl ?_
    obtain ⟨q33_1, hq23, hf⟩ := Option.bind_eq_some_iff.mp hf
    refine cV (ws' := (W_D cI cS a_d a_f a_t a_r a_z a_f_kind a_f_wet a_g a_g_kind a_g_wet a_r_cells a_r_hours a_r_cracked a_s0 a_s0_row a_s1 a_s1_row a_s2 a_s2_row a_s3 a_s3_row d_hour d_traced d_latestFault f_kind f_wet f_wide f_rows f_cells f_sun f_all f_firstColumn f_lastColumn t_hours t_opened t_firstWrong g_kind g_wet g_wide g_rows g_cells g_sun g_all g_firstColumn g_lastColumn r_cells r_hours r_cracked r_count S_row (va_up S_lane 0 q33_1.1) (va_up S_length 0 q33_1.2))) (rest := []) (st1 := []) Cc hK hA hP hD hS hl.1 (ctX2_becomeNothing l D cI cS a_s0 a_s0_row (S_row 0) (S_lane 0) (S_length 0)  n q33_1.1 q33_1.2 hq23) ⟨tw_432, tw_429, tw_430, tw_431, tw_5⟩ mdX2_becomeNothing ⟨rfl, rfl, Nat.le_of_ble_eq_true rfl, Nat.le_of_ble_eq_true rfl⟩ rfl dX4_lose_33 rfl (Nat.le_of_ble_eq_true rfl) ⟨Nat.zero_le _, Nat.zero_le _⟩ rfl rfl rfl [13, 14] [0, 1, 2, 3, 4, 5, 6, 7, 8, 9, 10, 11, 12, 15, 16, 17, 18, 19, 20] [0, 1, 2, 3, 4, 5, 6, 7, 8, 9, 10, 11, 12, 19, 20, 13, 14, 15, 16, 17, 18] rfl rfl (by decide) rfl (fun H locs hP hD hS => ?_)
    refine lv_iload_n hx hb dX4_lose_36 rfl (lv_at hl 0 rfl) ?_
    replace hf := Option.some.inj hf
    obtain ⟨er0, er1⟩ := Prod.mk.inj hf
    obtain ⟨er2, er3⟩ := Prod.mk.inj er1
    clear hf er1
    subst er0
    subst er2
    subst er3
    exact rt_i Cc hK hP hD hS dX4_lose_37
  · refine W.eq (g2 := F0 m 33 ls [.ref a_s1]) rfl ?_
    obtain ⟨q33_1, hq24, hf⟩ := Option.bind_eq_some_iff.mp hf
    refine cV (ws' := (W_D cI cS a_d a_f a_t a_r a_z a_f_kind a_f_wet a_g a_g_kind a_g_wet a_r_cells a_r_hours a_r_cracked a_s0 a_s0_row a_s1 a_s1_row a_s2 a_s2_row a_s3 a_s3_row d_hour d_traced d_latestFault f_kind f_wet f_wide f_rows f_cells f_sun f_all f_firstColumn f_lastColumn t_hours t_opened t_firstWrong g_kind g_wet g_wide g_rows g_cells g_sun g_all g_firstColumn g_lastColumn r_cells r_hours r_cracked r_count S_row (va_up S_lane 1 q33_1.1) (va_up S_length 1 q33_1.2))) (rest := []) (st1 := []) Cc hK hA hP hD hS hl.1 (ctX2_becomeNothing l D cI cS a_s1 a_s1_row (S_row 1) (S_lane 1) (S_length 1)  n q33_1.1 q33_1.2 hq24) ⟨tw_432, tw_429, tw_430, tw_431, tw_5⟩ mdX2_becomeNothing ⟨rfl, rfl, Nat.le_of_ble_eq_true rfl, Nat.le_of_ble_eq_true rfl⟩ rfl dX4_lose_33 rfl (Nat.le_of_ble_eq_true rfl) ⟨Nat.zero_le _, Nat.zero_le _⟩ rfl rfl rfl [15, 16] [0, 1, 2, 3, 4, 5, 6, 7, 8, 9, 10, 11, 12, 13, 14, 17, 18, 19, 20] [0, 1, 2, 3, 4, 5, 6, 7, 8, 9, 10, 11, 12, 13, 14, 19, 20, 15, 16, 17, 18] rfl rfl (by decide) rfl (fun H locs hP hD hS => ?_)
    refine lv_iload_n hx hb dX4_lose_36 rfl (lv_at hl 0 rfl) ?_
    replace hf := Option.some.inj hf
    obtain ⟨er0, er1⟩ := Prod.mk.inj hf
    obtain ⟨er2, er3⟩ := Prod.mk.inj er1
    clear hf er1
    subst er0
    subst er2
    subst er3
    exact rt_i Cc hK hP hD hS dX4_lose_37
  · refine W.eq (g2 := F0 m 33 ls [.ref a_s2]) rfl ?_
    obtain ⟨q33_1, hq25, hf⟩ := Option.bind_eq_some_iff.mp hf
    refine cV (ws' := (W_D cI cS a_d a_f a_t a_r a_z a_f_kind a_f_wet a_g a_g_kind a_g_wet a_r_cells a_r_hours a_r_cracked a_s0 a_s0_row a_s1 a_s1_row a_s2 a_s2_row a_s3 a_s3_row d_hour d_traced d_latestFault f_kind f_wet f_wide f_rows f_cells f_sun f_all f_firstColumn f_lastColumn t_hours t_opened t_firstWrong g_kind g_wet g_wide g_rows g_cells g_sun g_all g_firstColumn g_lastColumn r_cells r_hours r_cracked r_count S_row (va_up S_lane 2 q33_1.1) (va_up S_length 2 q33_1.2))) (rest := []) (st1 := []) Cc hK hA hP hD hS hl.1 (ctX2_becomeNothing l D cI cS a_s2 a_s2_row (S_row 2) (S_lane 2) (S_length 2)  n q33_1.1 q33_1.2 hq25) ⟨tw_432, tw_429, tw_430, tw_431, tw_5⟩ mdX2_becomeNothing ⟨rfl, rfl, Nat.le_of_ble_eq_true rfl, Nat.le_of_ble_eq_true rfl⟩ rfl dX4_lose_33 rfl (Nat.le_of_ble_eq_true rfl) ⟨Nat.zero_le _, Nat.zero_le _⟩ rfl rfl rfl [17, 18] [0, 1, 2, 3, 4, 5, 6, 7, 8, 9, 10, 11, 12, 13, 14, 15, 16, 19, 20] [0, 1, 2, 3, 4, 5, 6, 7, 8, 9, 10, 11, 12, 13, 14, 15, 16, 19, 20, 17, 18] rfl rfl (by decide) rfl (fun H locs hP hD hS => ?_)
    refine lv_iload_n hx hb dX4_lose_36 rfl (lv_at hl 0 rfl) ?_
    replace hf := Option.some.inj hf
    obtain ⟨er0, er1⟩ := Prod.mk.inj hf
    obtain ⟨er2, er3⟩ := Prod.mk.inj er1
    clear hf er1
    subst er0
    subst er2
    subst er3
    exact rt_i Cc hK hP hD hS dX4_lose_37
  · refine W.eq (g2 := F0 m 33 ls [.ref a_s3]) rfl ?_
    obtain ⟨q33_1, hq26, hf⟩ := Option.bind_eq_some_iff.mp hf
    refine cV (ws' := (W_D cI cS a_d a_f a_t a_r a_z a_f_kind a_f_wet a_g a_g_kind a_g_wet a_r_cells a_r_hours a_r_cracked a_s0 a_s0_row a_s1 a_s1_row a_s2 a_s2_row a_s3 a_s3_row d_hour d_traced d_latestFault f_kind f_wet f_wide f_rows f_cells f_sun f_all f_firstColumn f_lastColumn t_hours t_opened t_firstWrong g_kind g_wet g_wide g_rows g_cells g_sun g_all g_firstColumn g_lastColumn r_cells r_hours r_cracked r_count S_row (va_up S_lane 3 q33_1.1) (va_up S_length 3 q33_1.2))) (rest := []) (st1 := []) Cc hK hA hP hD hS hl.1 (ctX2_becomeNothing l D cI cS a_s3 a_s3_row (S_row 3) (S_lane 3) (S_length 3)  n q33_1.1 q33_1.2 hq26) ⟨tw_432, tw_429, tw_430, tw_431, tw_5⟩ mdX2_becomeNothing ⟨rfl, rfl, Nat.le_of_ble_eq_true rfl, Nat.le_of_ble_eq_true rfl⟩ rfl dX4_lose_33 rfl (Nat.le_of_ble_eq_true rfl) ⟨Nat.zero_le _, Nat.zero_le _⟩ rfl rfl rfl [19, 20] [0, 1, 2, 3, 4, 5, 6, 7, 8, 9, 10, 11, 12, 13, 14, 15, 16, 17, 18] [0, 1, 2, 3, 4, 5, 6, 7, 8, 9, 10, 11, 12, 13, 14, 15, 16, 17, 18, 19, 20] rfl rfl (by decide) rfl (fun H locs hP hD hS => ?_)
    refine lv_iload_n hx hb dX4_lose_36 rfl (lv_at hl 0 rfl) ?_
    replace hf := Option.some.inj hf
    obtain ⟨er0, er1⟩ := Prod.mk.inj hf
    obtain ⟨er2, er3⟩ := Prod.mk.inj er1
    clear hf er1
    subst er0
    subst er2
    subst er3
    exact rt_i Cc hK hP hD hS dX4_lose_37
set_option maxHeartbeats 4000000 in
set_option maxRecDepth 100000 in
theorem ctX4_lose (l : Launch) (D : va_G) (cI cS : ClassId) (a_d a_f a_t a_r a_z a_f_kind a_f_wet a_g a_g_kind a_g_wet a_r_cells a_r_hours a_r_cracked a_s0 a_s0_row a_s1 a_s1_row a_s2 a_s2_row a_s3 a_s3_row : Nat) (d_hour : Int32) (d_traced : Int32) (d_latestFault : Int32) (f_kind : Nat → Int32) (f_wet : Nat → Int32) (f_wide : Int32) (f_rows : Int32) (f_cells : Int32) (f_sun : Int32) (f_all : Int32) (f_firstColumn : Int32) (f_lastColumn : Int32) (t_hours : Int32) (t_opened : Int32) (t_firstWrong : Int32) (g_kind : Nat → Int32) (g_wet : Nat → Int32) (g_wide : Int32) (g_rows : Int32) (g_cells : Int32) (g_sun : Int32) (g_all : Int32) (g_firstColumn : Int32) (g_lastColumn : Int32) (r_cells : Nat → Int32) (r_hours : Nat → Int32) (r_cracked : Nat → Int32) (r_count : Int32) (S_row : Nat → Nat → Int32) (S_lane : Nat → Int32) (S_length : Nat → Int32) (p1 : Int32) (n : Nat) (r : Int32) (S_lane' : Nat → Int32) (S_length' : Nat → Int32) (hf : fX4_lose n S_lane S_length p1 = some (r, S_lane', S_length')) : Ct l D (tysA cI cS) yX4_lose cX4_lose 3 (some .int) (Rm 2) [.ref a_d, .int p1] (W_D cI cS a_d a_f a_t a_r a_z a_f_kind a_f_wet a_g a_g_kind a_g_wet a_r_cells a_r_hours a_r_cracked a_s0 a_s0_row a_s1 a_s1_row a_s2 a_s2_row a_s3 a_s3_row d_hour d_traced d_latestFault f_kind f_wet f_wide f_rows f_cells f_sun f_all f_firstColumn f_lastColumn t_hours t_opened t_firstWrong g_kind g_wet g_wide g_rows g_cells g_sun g_all g_firstColumn g_lastColumn r_cells r_hours r_cracked r_count S_row S_lane S_length) (some (.int r)) (W_D cI cS a_d a_f a_t a_r a_z a_f_kind a_f_wet a_g a_g_kind a_g_wet a_r_cells a_r_hours a_r_cracked a_s0 a_s0_row a_s1 a_s1_row a_s2 a_s2_row a_s3 a_s3_row d_hour d_traced d_latestFault f_kind f_wet f_wide f_rows f_cells f_sun f_all f_firstColumn f_lastColumn t_hours t_opened t_firstWrong g_kind g_wet g_wide g_rows g_cells g_sun g_all g_firstColumn g_lastColumn r_cells r_hours r_cracked r_count S_row S_lane' S_length') := by
  refine Ct_of (by decide) (Nat.le_of_ble_eq_true rfl) ?_
  intro p e s m args below meth c A ls Cc hK hA hP hD hS hl
  have hl : lv_has ls 3 [(0, .ref a_d), (1, .int p1)] := hl
  obtain ⟨hx, hb, hr, hml, hown, hts, hlk, hnw⟩ := id Cc
  unfold fX4_lose at hf
  refine lv_iload_n hx hb dX4_lose_0 rfl (lv_at hl 1 rfl) ?_
  obtain ⟨q1_1, hq1, hf⟩ := Option.bind_eq_some_iff.mp hf
  refine cSt (ws' := (W_D cI cS a_d a_f a_t a_r a_z a_f_kind a_f_wet a_g a_g_kind a_g_wet a_r_cells a_r_hours a_r_cracked a_s0 a_s0_row a_s1 a_s1_row a_s2 a_s2_row a_s3 a_s3_row d_hour d_traced d_latestFault f_kind f_wet f_wide f_rows f_cells f_sun f_all f_firstColumn f_lastColumn t_hours t_opened t_firstWrong g_kind g_wet g_wide g_rows g_cells g_sun g_all g_firstColumn g_lastColumn r_cells r_hours r_cracked r_count S_row S_lane S_length)) (rest := []) (st1 := [.int q1_1]) Cc hK hA hP hD hS hl.1 (ctX4_isSheet l D cI cS   p1 n q1_1 hq1) ⟨tw_151, tw_149, tw_150, tw_1⟩ mdX4_isSheet ⟨rfl, rfl, Nat.le_of_ble_eq_true rfl, Nat.le_of_ble_eq_true rfl⟩ rfl dX4_lose_1 rfl (Nat.le_of_ble_eq_true rfl) ⟨Nat.zero_le _, Nat.zero_le _⟩ rfl [] [0, 1, 2, 3, 4, 5, 6, 7, 8, 9, 10, 11, 12, 13, 14, 15, 16, 17, 18, 19, 20] [0, 1, 2, 3, 4, 5, 6, 7, 8, 9, 10, 11, 12, 13, 14, 15, 16, 17, 18, 19, 20] rfl rfl (by decide) rfl (fun H locs hP hD hS => ?_)
  refine lv_if_ne (tgt := 9) hx hb dX4_lose_4 (by decide) (fun hc2 => ?_) (fun hc2 => ?_)
  · replace hf := (if_neg hc2).symm.trans hf
    refine lv_aload_n hx hb dX4_lose_9 rfl (lv_at hl 0 rfl) ?_
    refine va_get (D := D) (ci := 4) (v := .ref a_z) (C := RX4) (T := TX4) (N := 7) hx hb hts inX4 hown hK hP 0 rfl rfl 3 (by decide) (hts _ tw_126) (fun _ h9 => h9) rfl dX4_lose_10 ?_
    refine lv_iload_n hx hb dX4_lose_13 rfl (lv_at hl 1 rfl) ?_
    obtain ⟨hin, hf⟩ := gd_some hf
    refine va_aldq hx hb hK hP 12 1 rfl rfl hin dX4_lose_14 ?_
    obtain ⟨j, hj, hjx⟩ : ∃ j, j < 4 ∧ p1.toNatClampNeg = j := ⟨_, Nat.not_le.mp fun q => hin (Or.inr q), rfl⟩
    rw [hjx] at hf ⊢
    clear hin hjx
    rcases (show j = 0 ∨ j = 1 ∨ j = 2 ∨ j = 3 by omega) with rfl | rfl | rfl | rfl
    · refine W.eq (g2 := F0 m 15 ls [.ref a_s0]) rfl ?_
      obtain ⟨q15_1, hq3, hf⟩ := Option.bind_eq_some_iff.mp hf
      refine cV (ws' := (W_D cI cS a_d a_f a_t a_r a_z a_f_kind a_f_wet a_g a_g_kind a_g_wet a_r_cells a_r_hours a_r_cracked a_s0 a_s0_row a_s1 a_s1_row a_s2 a_s2_row a_s3 a_s3_row d_hour d_traced d_latestFault f_kind f_wet f_wide f_rows f_cells f_sun f_all f_firstColumn f_lastColumn t_hours t_opened t_firstWrong g_kind g_wet g_wide g_rows g_cells g_sun g_all g_firstColumn g_lastColumn r_cells r_hours r_cracked r_count S_row S_lane S_length)) (rest := []) (st1 := [.int q15_1]) Cc hK hA hP hD hS hl.1 (ctX2_isNothing l D cI cS a_s0 a_s0_row (S_row 0) (S_lane 0) (S_length 0)  n q15_1 hq3) ⟨tw_165, tw_428, tw_163, tw_164, tw_5⟩ mdX2_isNothing ⟨rfl, rfl, Nat.le_of_ble_eq_true rfl, Nat.le_of_ble_eq_true rfl⟩ rfl dX4_lose_15 rfl (Nat.le_of_ble_eq_true rfl) ⟨Nat.zero_le _, Nat.zero_le _⟩ rfl rfl rfl [13, 14] [0, 1, 2, 3, 4, 5, 6, 7, 8, 9, 10, 11, 12, 15, 16, 17, 18, 19, 20] [0, 1, 2, 3, 4, 5, 6, 7, 8, 9, 10, 11, 12, 19, 20, 13, 14, 15, 16, 17, 18] rfl rfl (by decide) rfl (fun H locs hP hD hS => ?_)
      refine lv_if_eq (tgt := 25) hx hb dX4_lose_18 (by decide) (fun hc4 => ?_) (fun hc4 => ?_)
      · replace hf := (if_pos hc4).symm.trans hf
        refine lv_iconst (v := (1 : Int32)) hx hb dX4_lose_25 (by decide) ?_
        exact bX4_lose_26_0 a_d a_f a_t a_r a_z a_f_kind a_f_wet a_g a_g_kind a_g_wet a_r_cells a_r_hours a_r_cracked a_s0 a_s0_row a_s1 a_s1_row a_s2 a_s2_row a_s3 a_s3_row d_hour d_traced d_latestFault f_kind f_wet f_wide f_rows f_cells f_sun f_all f_firstColumn f_lastColumn t_hours t_opened t_firstWrong g_kind g_wet g_wide g_rows g_cells g_sun g_all g_firstColumn g_lastColumn r_cells r_hours r_cracked r_count S_row Cc hK hA n _ _ _ _ _ _ _ hf _ _ _ hP hD hS (lv_sub hl [0, 1] rfl)
      · replace hf := (if_neg hc4).symm.trans hf
        refine lv_iconst (v := (0 : Int32)) hx hb dX4_lose_21 (by decide) ?_
        refine lv_goto (tgt := 26) hx hb dX4_lose_22 (by decide) ?_
        exact bX4_lose_26_0 a_d a_f a_t a_r a_z a_f_kind a_f_wet a_g a_g_kind a_g_wet a_r_cells a_r_hours a_r_cracked a_s0 a_s0_row a_s1 a_s1_row a_s2 a_s2_row a_s3 a_s3_row d_hour d_traced d_latestFault f_kind f_wet f_wide f_rows f_cells f_sun f_all f_firstColumn f_lastColumn t_hours t_opened t_firstWrong g_kind g_wet g_wide g_rows g_cells g_sun g_all g_firstColumn g_lastColumn r_cells r_hours r_cracked r_count S_row Cc hK hA n _ _ _ _ _ _ _ hf _ _ _ hP hD hS (lv_sub hl [0, 1] rfl)
    · refine W.eq (g2 := F0 m 15 ls [.ref a_s1]) rfl ?_
      obtain ⟨q15_1, hq9, hf⟩ := Option.bind_eq_some_iff.mp hf
      refine cV (ws' := (W_D cI cS a_d a_f a_t a_r a_z a_f_kind a_f_wet a_g a_g_kind a_g_wet a_r_cells a_r_hours a_r_cracked a_s0 a_s0_row a_s1 a_s1_row a_s2 a_s2_row a_s3 a_s3_row d_hour d_traced d_latestFault f_kind f_wet f_wide f_rows f_cells f_sun f_all f_firstColumn f_lastColumn t_hours t_opened t_firstWrong g_kind g_wet g_wide g_rows g_cells g_sun g_all g_firstColumn g_lastColumn r_cells r_hours r_cracked r_count S_row S_lane S_length)) (rest := []) (st1 := [.int q15_1]) Cc hK hA hP hD hS hl.1 (ctX2_isNothing l D cI cS a_s1 a_s1_row (S_row 1) (S_lane 1) (S_length 1)  n q15_1 hq9) ⟨tw_165, tw_428, tw_163, tw_164, tw_5⟩ mdX2_isNothing ⟨rfl, rfl, Nat.le_of_ble_eq_true rfl, Nat.le_of_ble_eq_true rfl⟩ rfl dX4_lose_15 rfl (Nat.le_of_ble_eq_true rfl) ⟨Nat.zero_le _, Nat.zero_le _⟩ rfl rfl rfl [15, 16] [0, 1, 2, 3, 4, 5, 6, 7, 8, 9, 10, 11, 12, 13, 14, 17, 18, 19, 20] [0, 1, 2, 3, 4, 5, 6, 7, 8, 9, 10, 11, 12, 13, 14, 19, 20, 15, 16, 17, 18] rfl rfl (by decide) rfl (fun H locs hP hD hS => ?_)
      refine lv_if_eq (tgt := 25) hx hb dX4_lose_18 (by decide) (fun hc10 => ?_) (fun hc10 => ?_)
      · replace hf := (if_pos hc10).symm.trans hf
        refine lv_iconst (v := (1 : Int32)) hx hb dX4_lose_25 (by decide) ?_
        exact bX4_lose_26_1 a_d a_f a_t a_r a_z a_f_kind a_f_wet a_g a_g_kind a_g_wet a_r_cells a_r_hours a_r_cracked a_s0 a_s0_row a_s1 a_s1_row a_s2 a_s2_row a_s3 a_s3_row d_hour d_traced d_latestFault f_kind f_wet f_wide f_rows f_cells f_sun f_all f_firstColumn f_lastColumn t_hours t_opened t_firstWrong g_kind g_wet g_wide g_rows g_cells g_sun g_all g_firstColumn g_lastColumn r_cells r_hours r_cracked r_count S_row Cc hK hA n _ _ _ _ _ _ _ hf _ _ _ hP hD hS (lv_sub hl [0, 1] rfl)
      · replace hf := (if_neg hc10).symm.trans hf
        refine lv_iconst (v := (0 : Int32)) hx hb dX4_lose_21 (by decide) ?_
        refine lv_goto (tgt := 26) hx hb dX4_lose_22 (by decide) ?_
        exact bX4_lose_26_1 a_d a_f a_t a_r a_z a_f_kind a_f_wet a_g a_g_kind a_g_wet a_r_cells a_r_hours a_r_cracked a_s0 a_s0_row a_s1 a_s1_row a_s2 a_s2_row a_s3 a_s3_row d_hour d_traced d_latestFault f_kind f_wet f_wide f_rows f_cells f_sun f_all f_firstColumn f_lastColumn t_hours t_opened t_firstWrong g_kind g_wet g_wide g_rows g_cells g_sun g_all g_firstColumn g_lastColumn r_cells r_hours r_cracked r_count S_row Cc hK hA n _ _ _ _ _ _ _ hf _ _ _ hP hD hS (lv_sub hl [0, 1] rfl)
    · refine W.eq (g2 := F0 m 15 ls [.ref a_s2]) rfl ?_
      obtain ⟨q15_1, hq15, hf⟩ := Option.bind_eq_some_iff.mp hf
      refine cV (ws' := (W_D cI cS a_d a_f a_t a_r a_z a_f_kind a_f_wet a_g a_g_kind a_g_wet a_r_cells a_r_hours a_r_cracked a_s0 a_s0_row a_s1 a_s1_row a_s2 a_s2_row a_s3 a_s3_row d_hour d_traced d_latestFault f_kind f_wet f_wide f_rows f_cells f_sun f_all f_firstColumn f_lastColumn t_hours t_opened t_firstWrong g_kind g_wet g_wide g_rows g_cells g_sun g_all g_firstColumn g_lastColumn r_cells r_hours r_cracked r_count S_row S_lane S_length)) (rest := []) (st1 := [.int q15_1]) Cc hK hA hP hD hS hl.1 (ctX2_isNothing l D cI cS a_s2 a_s2_row (S_row 2) (S_lane 2) (S_length 2)  n q15_1 hq15) ⟨tw_165, tw_428, tw_163, tw_164, tw_5⟩ mdX2_isNothing ⟨rfl, rfl, Nat.le_of_ble_eq_true rfl, Nat.le_of_ble_eq_true rfl⟩ rfl dX4_lose_15 rfl (Nat.le_of_ble_eq_true rfl) ⟨Nat.zero_le _, Nat.zero_le _⟩ rfl rfl rfl [17, 18] [0, 1, 2, 3, 4, 5, 6, 7, 8, 9, 10, 11, 12, 13, 14, 15, 16, 19, 20] [0, 1, 2, 3, 4, 5, 6, 7, 8, 9, 10, 11, 12, 13, 14, 15, 16, 19, 20, 17, 18] rfl rfl (by decide) rfl (fun H locs hP hD hS => ?_)
      refine lv_if_eq (tgt := 25) hx hb dX4_lose_18 (by decide) (fun hc16 => ?_) (fun hc16 => ?_)
      · replace hf := (if_pos hc16).symm.trans hf
        refine lv_iconst (v := (1 : Int32)) hx hb dX4_lose_25 (by decide) ?_
        exact bX4_lose_26_2 a_d a_f a_t a_r a_z a_f_kind a_f_wet a_g a_g_kind a_g_wet a_r_cells a_r_hours a_r_cracked a_s0 a_s0_row a_s1 a_s1_row a_s2 a_s2_row a_s3 a_s3_row d_hour d_traced d_latestFault f_kind f_wet f_wide f_rows f_cells f_sun f_all f_firstColumn f_lastColumn t_hours t_opened t_firstWrong g_kind g_wet g_wide g_rows g_cells g_sun g_all g_firstColumn g_lastColumn r_cells r_hours r_cracked r_count S_row Cc hK hA n _ _ _ _ _ _ _ hf _ _ _ hP hD hS (lv_sub hl [0, 1] rfl)
      · replace hf := (if_neg hc16).symm.trans hf
        refine lv_iconst (v := (0 : Int32)) hx hb dX4_lose_21 (by decide) ?_
        refine lv_goto (tgt := 26) hx hb dX4_lose_22 (by decide) ?_
        exact bX4_lose_26_2 a_d a_f a_t a_r a_z a_f_kind a_f_wet a_g a_g_kind a_g_wet a_r_cells a_r_hours a_r_cracked a_s0 a_s0_row a_s1 a_s1_row a_s2 a_s2_row a_s3 a_s3_row d_hour d_traced d_latestFault f_kind f_wet f_wide f_rows f_cells f_sun f_all f_firstColumn f_lastColumn t_hours t_opened t_firstWrong g_kind g_wet g_wide g_rows g_cells g_sun g_all g_firstColumn g_lastColumn r_cells r_hours r_cracked r_count S_row Cc hK hA n _ _ _ _ _ _ _ hf _ _ _ hP hD hS (lv_sub hl [0, 1] rfl)
    · refine W.eq (g2 := F0 m 15 ls [.ref a_s3]) rfl ?_
      obtain ⟨q15_1, hq21, hf⟩ := Option.bind_eq_some_iff.mp hf
      refine cV (ws' := (W_D cI cS a_d a_f a_t a_r a_z a_f_kind a_f_wet a_g a_g_kind a_g_wet a_r_cells a_r_hours a_r_cracked a_s0 a_s0_row a_s1 a_s1_row a_s2 a_s2_row a_s3 a_s3_row d_hour d_traced d_latestFault f_kind f_wet f_wide f_rows f_cells f_sun f_all f_firstColumn f_lastColumn t_hours t_opened t_firstWrong g_kind g_wet g_wide g_rows g_cells g_sun g_all g_firstColumn g_lastColumn r_cells r_hours r_cracked r_count S_row S_lane S_length)) (rest := []) (st1 := [.int q15_1]) Cc hK hA hP hD hS hl.1 (ctX2_isNothing l D cI cS a_s3 a_s3_row (S_row 3) (S_lane 3) (S_length 3)  n q15_1 hq21) ⟨tw_165, tw_428, tw_163, tw_164, tw_5⟩ mdX2_isNothing ⟨rfl, rfl, Nat.le_of_ble_eq_true rfl, Nat.le_of_ble_eq_true rfl⟩ rfl dX4_lose_15 rfl (Nat.le_of_ble_eq_true rfl) ⟨Nat.zero_le _, Nat.zero_le _⟩ rfl rfl rfl [19, 20] [0, 1, 2, 3, 4, 5, 6, 7, 8, 9, 10, 11, 12, 13, 14, 15, 16, 17, 18] [0, 1, 2, 3, 4, 5, 6, 7, 8, 9, 10, 11, 12, 13, 14, 15, 16, 17, 18, 19, 20] rfl rfl (by decide) rfl (fun H locs hP hD hS => ?_)
      refine lv_if_eq (tgt := 25) hx hb dX4_lose_18 (by decide) (fun hc22 => ?_) (fun hc22 => ?_)
      · replace hf := (if_pos hc22).symm.trans hf
        refine lv_iconst (v := (1 : Int32)) hx hb dX4_lose_25 (by decide) ?_
        exact bX4_lose_26_3 a_d a_f a_t a_r a_z a_f_kind a_f_wet a_g a_g_kind a_g_wet a_r_cells a_r_hours a_r_cracked a_s0 a_s0_row a_s1 a_s1_row a_s2 a_s2_row a_s3 a_s3_row d_hour d_traced d_latestFault f_kind f_wet f_wide f_rows f_cells f_sun f_all f_firstColumn f_lastColumn t_hours t_opened t_firstWrong g_kind g_wet g_wide g_rows g_cells g_sun g_all g_firstColumn g_lastColumn r_cells r_hours r_cracked r_count S_row Cc hK hA n _ _ _ _ _ _ _ hf _ _ _ hP hD hS (lv_sub hl [0, 1] rfl)
      · replace hf := (if_neg hc22).symm.trans hf
        refine lv_iconst (v := (0 : Int32)) hx hb dX4_lose_21 (by decide) ?_
        refine lv_goto (tgt := 26) hx hb dX4_lose_22 (by decide) ?_
        exact bX4_lose_26_3 a_d a_f a_t a_r a_z a_f_kind a_f_wet a_g a_g_kind a_g_wet a_r_cells a_r_hours a_r_cracked a_s0 a_s0_row a_s1 a_s1_row a_s2 a_s2_row a_s3 a_s3_row d_hour d_traced d_latestFault f_kind f_wet f_wide f_rows f_cells f_sun f_all f_firstColumn f_lastColumn t_hours t_opened t_firstWrong g_kind g_wet g_wide g_rows g_cells g_sun g_all g_firstColumn g_lastColumn r_cells r_hours r_cracked r_count S_row Cc hK hA n _ _ _ _ _ _ _ hf _ _ _ hP hD hS (lv_sub hl [0, 1] rfl)
  · replace hf := (if_pos hc2).symm.trans hf
    refine lv_iconst (v := (-1 : Int32)) hx hb dX4_lose_7 (by decide) ?_
    replace hf := Option.some.inj hf
    obtain ⟨er0, er1⟩ := Prod.mk.inj hf
    obtain ⟨er2, er3⟩ := Prod.mk.inj er1
    clear hf er1
    subst er0
    subst er2
    subst er3
    exact rt_i Cc hK hP hD hS dX4_lose_8
-- X4_put
def fX4_put (n : Nat) (d_latestFault : Int32) (S_row : Nat → Nat → Int32) (S_lane : Nat → Int32) (S_length : Nat → Int32) (p1 : Int32) (p2 : Int32) (p3 : Int32) : Option (Int32 × Int32 × (Nat → Nat → Int32)) := (fX4_isSheet n p1).bind fun q6_1 => if q6_1 = 0 then some ((-1 : Int32), (0 : Int32), S_row) else gd p1 4 ((fX2_isNothing n (S_lane p1.toNatClampNeg)).bind fun q24_1 => if q24_1 = 0 then (fX2_hasPlace n (S_length p1.toNatClampNeg) p2).bind fun q39_1 => if q39_1 = 0 then (fX4_faulted n (0 : Int32) (3 : Int32)).bind fun q47_1 => some (q47_1.1, q47_1.2, S_row) else (fX2_setAt n (S_row p1.toNatClampNeg) (S_lane p1.toNatClampNeg) (S_length p1.toNatClampNeg) p2 p3).bind fun q55_1 => some ((1 : Int32), (0 : Int32), (va_up S_row p1.toNatClampNeg q55_1)) else (fX4_faulted n (0 : Int32) (1 : Int32)).bind fun q32_1 => some (q32_1.1, q32_1.2, S_row))
theorem mdX4_put : yX4_put.cls = RX4 ∧ yX4_put.cls ≠ "java/lang/invoke/MethodHandle" ∧ yX4_put.cls ≠ "java/lang/invoke/VarHandle" ∧ (parseMethodDescriptor yX4_put.desc).map (fun d => d.parameters.length) = some 3 := by decide +kernel
set_option maxHeartbeats 4000000 in
set_option maxRecDepth 100000 in
theorem ctX4_put (l : Launch) (D : va_G) (cI cS : ClassId) (a_d a_f a_t a_r a_z a_f_kind a_f_wet a_g a_g_kind a_g_wet a_r_cells a_r_hours a_r_cracked a_s0 a_s0_row a_s1 a_s1_row a_s2 a_s2_row a_s3 a_s3_row : Nat) (d_hour : Int32) (d_traced : Int32) (d_latestFault : Int32) (f_kind : Nat → Int32) (f_wet : Nat → Int32) (f_wide : Int32) (f_rows : Int32) (f_cells : Int32) (f_sun : Int32) (f_all : Int32) (f_firstColumn : Int32) (f_lastColumn : Int32) (t_hours : Int32) (t_opened : Int32) (t_firstWrong : Int32) (g_kind : Nat → Int32) (g_wet : Nat → Int32) (g_wide : Int32) (g_rows : Int32) (g_cells : Int32) (g_sun : Int32) (g_all : Int32) (g_firstColumn : Int32) (g_lastColumn : Int32) (r_cells : Nat → Int32) (r_hours : Nat → Int32) (r_cracked : Nat → Int32) (r_count : Int32) (S_row : Nat → Nat → Int32) (S_lane : Nat → Int32) (S_length : Nat → Int32) (p1 : Int32) (p2 : Int32) (p3 : Int32) (n : Nat) (r : Int32) (d_latestFault' : Int32) (S_row' : Nat → Nat → Int32) (hf : fX4_put n d_latestFault S_row S_lane S_length p1 p2 p3 = some (r, d_latestFault', S_row')) : Ct l D (tysA cI cS) yX4_put cX4_put 5 (some .int) (Rm 2) [.ref a_d, .int p1, .int p2, .int p3] (W_D cI cS a_d a_f a_t a_r a_z a_f_kind a_f_wet a_g a_g_kind a_g_wet a_r_cells a_r_hours a_r_cracked a_s0 a_s0_row a_s1 a_s1_row a_s2 a_s2_row a_s3 a_s3_row d_hour d_traced d_latestFault f_kind f_wet f_wide f_rows f_cells f_sun f_all f_firstColumn f_lastColumn t_hours t_opened t_firstWrong g_kind g_wet g_wide g_rows g_cells g_sun g_all g_firstColumn g_lastColumn r_cells r_hours r_cracked r_count S_row S_lane S_length) (some (.int r)) (W_D cI cS a_d a_f a_t a_r a_z a_f_kind a_f_wet a_g a_g_kind a_g_wet a_r_cells a_r_hours a_r_cracked a_s0 a_s0_row a_s1 a_s1_row a_s2 a_s2_row a_s3 a_s3_row d_hour d_traced d_latestFault' f_kind f_wet f_wide f_rows f_cells f_sun f_all f_firstColumn f_lastColumn t_hours t_opened t_firstWrong g_kind g_wet g_wide g_rows g_cells g_sun g_all g_firstColumn g_lastColumn r_cells r_hours r_cracked r_count S_row' S_lane S_length) := by
  refine Ct_of (by decide) (Nat.le_of_ble_eq_true rfl) ?_
  intro p e s m args below meth c A ls Cc hK hA hP hD hS hl
  have hl : lv_has ls 5 [(0, .ref a_d), (1, .int p1), (2, .int p2), (3, .int p3)] := hl
  obtain ⟨hx, hb, hr, hml, hown, hts, hlk, hnw⟩ := id Cc
  unfold fX4_put at hf
  refine lv_aload_n hx hb dX4_put_0 rfl (lv_at hl 0 rfl) ?_
  refine lv_iconst (v := (0 : Int32)) hx hb dX4_put_1 (by decide) ?_
  refine va_put (D := D) (ci := 4) (v := .int (0 : Int32)) (ty := .int) (C := RX4) (T := TX4) (N := 7) hx hb hts inX4 tyX4 tyX4_ok nmX4 hown hK hP hD hS 0 rfl rfl 6 (by decide) (hts _ tw_129) (fun _ h9 => h9) rfl (tyX4_ok 6 (by decide)) rfl rfl (Nat.le_of_ble_eq_true rfl) dX4_put_2 (fun H locs hP hD hS => ?_)
  have hP : va_P D classes (W_D cI cS a_d a_f a_t a_r a_z a_f_kind a_f_wet a_g a_g_kind a_g_wet a_r_cells a_r_hours a_r_cracked a_s0 a_s0_row a_s1 a_s1_row a_s2 a_s2_row a_s3 a_s3_row d_hour d_traced (0 : Int32) f_kind f_wet f_wide f_rows f_cells f_sun f_all f_firstColumn f_lastColumn t_hours t_opened t_firstWrong g_kind g_wet g_wide g_rows g_cells g_sun g_all g_firstColumn g_lastColumn r_cells r_hours r_cracked r_count S_row S_lane S_length) H := hP
  have hD : va_D A (W_D cI cS a_d a_f a_t a_r a_z a_f_kind a_f_wet a_g a_g_kind a_g_wet a_r_cells a_r_hours a_r_cracked a_s0 a_s0_row a_s1 a_s1_row a_s2 a_s2_row a_s3 a_s3_row d_hour d_traced (0 : Int32) f_kind f_wet f_wide f_rows f_cells f_sun f_all f_firstColumn f_lastColumn t_hours t_opened t_firstWrong g_kind g_wet g_wide g_rows g_cells g_sun g_all g_firstColumn g_lastColumn r_cells r_hours r_cracked r_count S_row S_lane S_length) := hD
  refine lv_iload_n hx hb dX4_put_5 rfl (lv_at hl 1 rfl) ?_
  obtain ⟨q6_1, hq1, hf⟩ := Option.bind_eq_some_iff.mp hf
  refine cSt (ws' := (W_D cI cS a_d a_f a_t a_r a_z a_f_kind a_f_wet a_g a_g_kind a_g_wet a_r_cells a_r_hours a_r_cracked a_s0 a_s0_row a_s1 a_s1_row a_s2 a_s2_row a_s3 a_s3_row d_hour d_traced (0 : Int32) f_kind f_wet f_wide f_rows f_cells f_sun f_all f_firstColumn f_lastColumn t_hours t_opened t_firstWrong g_kind g_wet g_wide g_rows g_cells g_sun g_all g_firstColumn g_lastColumn r_cells r_hours r_cracked r_count S_row S_lane S_length)) (rest := []) (st1 := [.int q6_1]) Cc hK hA hP hD hS hl.1 (ctX4_isSheet l D cI cS   p1 n q6_1 hq1) ⟨tw_151, tw_149, tw_150, tw_1⟩ mdX4_isSheet ⟨rfl, rfl, Nat.le_of_ble_eq_true rfl, Nat.le_of_ble_eq_true rfl⟩ rfl dX4_put_6 rfl (Nat.le_of_ble_eq_true rfl) ⟨Nat.zero_le _, Nat.zero_le _⟩ rfl [] [0, 1, 2, 3, 4, 5, 6, 7, 8, 9, 10, 11, 12, 13, 14, 15, 16, 17, 18, 19, 20] [0, 1, 2, 3, 4, 5, 6, 7, 8, 9, 10, 11, 12, 13, 14, 15, 16, 17, 18, 19, 20] rfl rfl (by decide) rfl (fun H locs hP hD hS => ?_)
  refine lv_if_ne (tgt := 14) hx hb dX4_put_9 (by decide) (fun hc2 => ?_) (fun hc2 => ?_)
  · replace hf := (if_neg hc2).symm.trans hf
    refine lv_aload_n hx hb dX4_put_14 rfl (lv_at hl 0 rfl) ?_
    refine va_get (D := D) (ci := 4) (v := .ref a_z) (C := RX4) (T := TX4) (N := 7) hx hb hts inX4 hown hK hP 0 rfl rfl 3 (by decide) (hts _ tw_126) (fun _ h9 => h9) rfl dX4_put_15 ?_
    refine lv_iload_n hx hb dX4_put_18 rfl (lv_at hl 1 rfl) ?_
    obtain ⟨hin, hf⟩ := gd_some hf
    refine va_aldq hx hb hK hP 12 1 rfl rfl hin dX4_put_19 ?_
    obtain ⟨j, hj, hjx⟩ : ∃ j, j < 4 ∧ p1.toNatClampNeg = j := ⟨_, Nat.not_le.mp fun q => hin (Or.inr q), rfl⟩
    rw [hjx] at hf ⊢
    clear hin hjx
    rcases (show j = 0 ∨ j = 1 ∨ j = 2 ∨ j = 3 by omega) with rfl | rfl | rfl | rfl
    · refine W.eq (g2 := F0 m 20 ls [.ref a_s0]) rfl ?_
      refine lv_astore (lv' := [(4, .ref a_s0), (0, .ref a_d), (1, .int p1), (2, .int p2), (3, .int p3)]) hx hb dX4_put_20 hl (by decide) rfl (fun ls hl => ?_)
      refine lv_aload hx hb dX4_put_22 (lv_at hl 0 rfl) ?_
      obtain ⟨q24_1, hq3, hf⟩ := Option.bind_eq_some_iff.mp hf
      refine cV (ws' := (W_D cI cS a_d a_f a_t a_r a_z a_f_kind a_f_wet a_g a_g_kind a_g_wet a_r_cells a_r_hours a_r_cracked a_s0 a_s0_row a_s1 a_s1_row a_s2 a_s2_row a_s3 a_s3_row d_hour d_traced (0 : Int32) f_kind f_wet f_wide f_rows f_cells f_sun f_all f_firstColumn f_lastColumn t_hours t_opened t_firstWrong g_kind g_wet g_wide g_rows g_cells g_sun g_all g_firstColumn g_lastColumn r_cells r_hours r_cracked r_count S_row S_lane S_length)) (rest := []) (st1 := [.int q24_1]) Cc hK hA hP hD hS hl.1 (ctX2_isNothing l D cI cS a_s0 a_s0_row (S_row 0) (S_lane 0) (S_length 0)  n q24_1 hq3) ⟨tw_165, tw_428, tw_163, tw_164, tw_5⟩ mdX2_isNothing ⟨rfl, rfl, Nat.le_of_ble_eq_true rfl, Nat.le_of_ble_eq_true rfl⟩ rfl dX4_put_24 rfl (Nat.le_of_ble_eq_true rfl) ⟨Nat.zero_le _, Nat.zero_le _⟩ rfl rfl rfl [13, 14] [0, 1, 2, 3, 4, 5, 6, 7, 8, 9, 10, 11, 12, 15, 16, 17, 18, 19, 20] [0, 1, 2, 3, 4, 5, 6, 7, 8, 9, 10, 11, 12, 19, 20, 13, 14, 15, 16, 17, 18] rfl rfl (by decide) rfl (fun H locs hP hD hS => ?_)
      refine lv_if_eq (tgt := 36) hx hb dX4_put_27 (by decide) (fun hc4 => ?_) (fun hc4 => ?_)
      · replace hf := (if_pos hc4).symm.trans hf
        refine lv_aload hx hb dX4_put_36 (lv_at hl 0 rfl) ?_
        refine lv_iload_n hx hb dX4_put_38 rfl (lv_at hl 3 rfl) ?_
        obtain ⟨q39_1, hq5, hf⟩ := Option.bind_eq_some_iff.mp hf
        refine cV (ws' := (W_D cI cS a_d a_f a_t a_r a_z a_f_kind a_f_wet a_g a_g_kind a_g_wet a_r_cells a_r_hours a_r_cracked a_s0 a_s0_row a_s1 a_s1_row a_s2 a_s2_row a_s3 a_s3_row d_hour d_traced (0 : Int32) f_kind f_wet f_wide f_rows f_cells f_sun f_all f_firstColumn f_lastColumn t_hours t_opened t_firstWrong g_kind g_wet g_wide g_rows g_cells g_sun g_all g_firstColumn g_lastColumn r_cells r_hours r_cracked r_count S_row S_lane S_length)) (rest := []) (st1 := [.int q39_1]) Cc hK hA hP hD hS hl.1 (ctX2_hasPlace l D cI cS a_s0 a_s0_row (S_row 0) (S_lane 0) (S_length 0) p2 n q39_1 hq5) ⟨tw_187, tw_437, tw_185, tw_186, tw_5⟩ mdX2_hasPlace ⟨rfl, rfl, Nat.le_of_ble_eq_true rfl, Nat.le_of_ble_eq_true rfl⟩ rfl dX4_put_39 rfl (Nat.le_of_ble_eq_true rfl) ⟨Nat.zero_le _, Nat.zero_le _⟩ rfl rfl rfl [13, 14] [0, 1, 2, 3, 4, 5, 6, 7, 8, 9, 10, 11, 12, 15, 16, 17, 18, 19, 20] [0, 1, 2, 3, 4, 5, 6, 7, 8, 9, 10, 11, 12, 19, 20, 13, 14, 15, 16, 17, 18] rfl rfl (by decide) rfl (fun H locs hP hD hS => ?_)
        refine lv_if_ne (tgt := 51) hx hb dX4_put_42 (by decide) (fun hc6 => ?_) (fun hc6 => ?_)
        · replace hf := (if_neg hc6).symm.trans hf
          refine lv_aload hx hb dX4_put_51 (lv_at hl 0 rfl) ?_
          refine lv_iload_n hx hb dX4_put_53 rfl (lv_at hl 3 rfl) ?_
          refine lv_iload_n hx hb dX4_put_54 rfl (lv_at hl 4 rfl) ?_
          obtain ⟨q55_1, hq7, hf⟩ := Option.bind_eq_some_iff.mp hf
          refine cV (ws' := (W_D cI cS a_d a_f a_t a_r a_z a_f_kind a_f_wet a_g a_g_kind a_g_wet a_r_cells a_r_hours a_r_cracked a_s0 a_s0_row a_s1 a_s1_row a_s2 a_s2_row a_s3 a_s3_row d_hour d_traced (0 : Int32) f_kind f_wet f_wide f_rows f_cells f_sun f_all f_firstColumn f_lastColumn t_hours t_opened t_firstWrong g_kind g_wet g_wide g_rows g_cells g_sun g_all g_firstColumn g_lastColumn r_cells r_hours r_cracked r_count (va_up S_row 0 q55_1) S_lane S_length)) (rest := []) (st1 := []) Cc hK hA hP hD hS hl.1 (ctX2_setAt l D cI cS a_s0 a_s0_row (S_row 0) (S_lane 0) (S_length 0) p2 p3 n q55_1 hq7) ⟨tw_441, tw_438, tw_439, tw_440, tw_5⟩ mdX2_setAt ⟨rfl, rfl, Nat.le_of_ble_eq_true rfl, Nat.le_of_ble_eq_true rfl⟩ rfl dX4_put_55 rfl (Nat.le_of_ble_eq_true rfl) ⟨Nat.zero_le _, Nat.zero_le _⟩ rfl rfl rfl [13, 14] [0, 1, 2, 3, 4, 5, 6, 7, 8, 9, 10, 11, 12, 15, 16, 17, 18, 19, 20] [0, 1, 2, 3, 4, 5, 6, 7, 8, 9, 10, 11, 12, 19, 20, 13, 14, 15, 16, 17, 18] rfl rfl (by decide) rfl (fun H locs hP hD hS => ?_)
          refine lv_iconst (v := (1 : Int32)) hx hb dX4_put_58 (by decide) ?_
          replace hf := Option.some.inj hf
          obtain ⟨er0, er1⟩ := Prod.mk.inj hf
          obtain ⟨er2, er3⟩ := Prod.mk.inj er1
          clear hf er1
          subst er0
          subst er2
          subst er3
          exact rt_i Cc hK hP hD hS dX4_put_59
        · replace hf := (if_pos hc6).symm.trans hf
          refine lv_aload_n hx hb dX4_put_45 rfl (lv_at hl 1 rfl) ?_
          refine lv_iconst (v := (3 : Int32)) hx hb dX4_put_46 (by decide) ?_
          obtain ⟨q47_1, hq8, hf⟩ := Option.bind_eq_some_iff.mp hf
          refine cV (ws' := (W_D cI cS a_d a_f a_t a_r a_z a_f_kind a_f_wet a_g a_g_kind a_g_wet a_r_cells a_r_hours a_r_cracked a_s0 a_s0_row a_s1 a_s1_row a_s2 a_s2_row a_s3 a_s3_row d_hour d_traced q47_1.2 f_kind f_wet f_wide f_rows f_cells f_sun f_all f_firstColumn f_lastColumn t_hours t_opened t_firstWrong g_kind g_wet g_wide g_rows g_cells g_sun g_all g_firstColumn g_lastColumn r_cells r_hours r_cracked r_count S_row S_lane S_length)) (rest := []) (st1 := [.int q47_1.1]) Cc hK hA hP hD hS hl.1 (ctX4_faulted l D cI cS a_d a_f a_t a_r a_z d_hour d_traced (0 : Int32) (3 : Int32) n q47_1.1 q47_1.2 hq8) ⟨tw_173, tw_170, tw_172, tp_0, tw_1⟩ mdX4_faulted ⟨rfl, rfl, Nat.le_of_ble_eq_true rfl, Nat.le_of_ble_eq_true rfl⟩ rfl dX4_put_47 rfl (Nat.le_of_ble_eq_true rfl) ⟨Nat.zero_le _, Nat.zero_le _⟩ rfl rfl rfl [0] [1, 2, 3, 4, 5, 6, 7, 8, 9, 10, 11, 12, 13, 14, 15, 16, 17, 18, 19, 20] [20, 0, 1, 2, 3, 4, 5, 6, 7, 8, 9, 10, 11, 12, 13, 14, 15, 16, 17, 18, 19] rfl rfl (by decide) rfl (fun H locs hP hD hS => ?_)
          replace hf := Option.some.inj hf
          obtain ⟨er0, er1⟩ := Prod.mk.inj hf
          obtain ⟨er2, er3⟩ := Prod.mk.inj er1
          clear hf er1
          subst er0
          subst er2
          subst er3
          exact rt_i Cc hK hP hD hS dX4_put_50
      · replace hf := (if_neg hc4).symm.trans hf
        refine lv_aload_n hx hb dX4_put_30 rfl (lv_at hl 1 rfl) ?_
        refine lv_iconst (v := (1 : Int32)) hx hb dX4_put_31 (by decide) ?_
        obtain ⟨q32_1, hq9, hf⟩ := Option.bind_eq_some_iff.mp hf
        refine cV (ws' := (W_D cI cS a_d a_f a_t a_r a_z a_f_kind a_f_wet a_g a_g_kind a_g_wet a_r_cells a_r_hours a_r_cracked a_s0 a_s0_row a_s1 a_s1_row a_s2 a_s2_row a_s3 a_s3_row d_hour d_traced q32_1.2 f_kind f_wet f_wide f_rows f_cells f_sun f_all f_firstColumn f_lastColumn t_hours t_opened t_firstWrong g_kind g_wet g_wide g_rows g_cells g_sun g_all g_firstColumn g_lastColumn r_cells r_hours r_cracked r_count S_row S_lane S_length)) (rest := []) (st1 := [.int q32_1.1]) Cc hK hA hP hD hS hl.1 (ctX4_faulted l D cI cS a_d a_f a_t a_r a_z d_hour d_traced (0 : Int32) (1 : Int32) n q32_1.1 q32_1.2 hq9) ⟨tw_173, tw_170, tw_172, tp_0, tw_1⟩ mdX4_faulted ⟨rfl, rfl, Nat.le_of_ble_eq_true rfl, Nat.le_of_ble_eq_true rfl⟩ rfl dX4_put_32 rfl (Nat.le_of_ble_eq_true rfl) ⟨Nat.zero_le _, Nat.zero_le _⟩ rfl rfl rfl [0] [1, 2, 3, 4, 5, 6, 7, 8, 9, 10, 11, 12, 13, 14, 15, 16, 17, 18, 19, 20] [20, 0, 1, 2, 3, 4, 5, 6, 7, 8, 9, 10, 11, 12, 13, 14, 15, 16, 17, 18, 19] rfl rfl (by decide) rfl (fun H locs hP hD hS => ?_)
        replace hf := Option.some.inj hf
        obtain ⟨er0, er1⟩ := Prod.mk.inj hf
        obtain ⟨er2, er3⟩ := Prod.mk.inj er1
        clear hf er1
        subst er0
        subst er2
        subst er3
        exact rt_i Cc hK hP hD hS dX4_put_35
    · refine W.eq (g2 := F0 m 20 ls [.ref a_s1]) rfl ?_
      refine lv_astore (lv' := [(4, .ref a_s1), (0, .ref a_d), (1, .int p1), (2, .int p2), (3, .int p3)]) hx hb dX4_put_20 hl (by decide) rfl (fun ls hl => ?_)
      refine lv_aload hx hb dX4_put_22 (lv_at hl 0 rfl) ?_
      obtain ⟨q24_1, hq10, hf⟩ := Option.bind_eq_some_iff.mp hf
      refine cV (ws' := (W_D cI cS a_d a_f a_t a_r a_z a_f_kind a_f_wet a_g a_g_kind a_g_wet a_r_cells a_r_hours a_r_cracked a_s0 a_s0_row a_s1 a_s1_row a_s2 a_s2_row a_s3 a_s3_row d_hour d_traced (0 : Int32) f_kind f_wet f_wide f_rows f_cells f_sun f_all f_firstColumn f_lastColumn t_hours t_opened t_firstWrong g_kind g_wet g_wide g_rows g_cells g_sun g_all g_firstColumn g_lastColumn r_cells r_hours r_cracked r_count S_row S_lane S_length)) (rest := []) (st1 := [.int q24_1]) Cc hK hA hP hD hS hl.1 (ctX2_isNothing l D cI cS a_s1 a_s1_row (S_row 1) (S_lane 1) (S_length 1)  n q24_1 hq10) ⟨tw_165, tw_428, tw_163, tw_164, tw_5⟩ mdX2_isNothing ⟨rfl, rfl, Nat.le_of_ble_eq_true rfl, Nat.le_of_ble_eq_true rfl⟩ rfl dX4_put_24 rfl (Nat.le_of_ble_eq_true rfl) ⟨Nat.zero_le _, Nat.zero_le _⟩ rfl rfl rfl [15, 16] [0, 1, 2, 3, 4, 5, 6, 7, 8, 9, 10, 11, 12, 13, 14, 17, 18, 19, 20] [0, 1, 2, 3, 4, 5, 6, 7, 8, 9, 10, 11, 12, 13, 14, 19, 20, 15, 16, 17, 18] rfl rfl (by decide) rfl (fun H locs hP hD hS => ?_)
      refine lv_if_eq (tgt := 36) hx hb dX4_put_27 (by decide) (fun hc11 => ?_) (fun hc11 => ?_)
      · replace hf := (if_pos hc11).symm.trans hf
        refine lv_aload hx hb dX4_put_36 (lv_at hl 0 rfl) ?_
        refine lv_iload_n hx hb dX4_put_38 rfl (lv_at hl 3 rfl) ?_
        obtain ⟨q39_1, hq12, hf⟩ := Option.bind_eq_some_iff.mp hf
        refine cV (ws' := (W_D cI cS a_d a_f a_t a_r a_z a_f_kind a_f_wet a_g a_g_kind a_g_wet a_r_cells a_r_hours a_r_cracked a_s0 a_s0_row a_s1 a_s1_row a_s2 a_s2_row a_s3 a_s3_row d_hour d_traced (0 : Int32) f_kind f_wet f_wide f_rows f_cells f_sun f_all f_firstColumn f_lastColumn t_hours t_opened t_firstWrong g_kind g_wet g_wide g_rows g_cells g_sun g_all g_firstColumn g_lastColumn r_cells r_hours r_cracked r_count S_row S_lane S_length)) (rest := []) (st1 := [.int q39_1]) Cc hK hA hP hD hS hl.1 (ctX2_hasPlace l D cI cS a_s1 a_s1_row (S_row 1) (S_lane 1) (S_length 1) p2 n q39_1 hq12) ⟨tw_187, tw_437, tw_185, tw_186, tw_5⟩ mdX2_hasPlace ⟨rfl, rfl, Nat.le_of_ble_eq_true rfl, Nat.le_of_ble_eq_true rfl⟩ rfl dX4_put_39 rfl (Nat.le_of_ble_eq_true rfl) ⟨Nat.zero_le _, Nat.zero_le _⟩ rfl rfl rfl [15, 16] [0, 1, 2, 3, 4, 5, 6, 7, 8, 9, 10, 11, 12, 13, 14, 17, 18, 19, 20] [0, 1, 2, 3, 4, 5, 6, 7, 8, 9, 10, 11, 12, 13, 14, 19, 20, 15, 16, 17, 18] rfl rfl (by decide) rfl (fun H locs hP hD hS => ?_)
        refine lv_if_ne (tgt := 51) hx hb dX4_put_42 (by decide) (fun hc13 => ?_) (fun hc13 => ?_)
        · replace hf := (if_neg hc13).symm.trans hf
          refine lv_aload hx hb dX4_put_51 (lv_at hl 0 rfl) ?_
          refine lv_iload_n hx hb dX4_put_53 rfl (lv_at hl 3 rfl) ?_
          refine lv_iload_n hx hb dX4_put_54 rfl (lv_at hl 4 rfl) ?_
          obtain ⟨q55_1, hq14, hf⟩ := Option.bind_eq_some_iff.mp hf
          refine cV (ws' := (W_D cI cS a_d a_f a_t a_r a_z a_f_kind a_f_wet a_g a_g_kind a_g_wet a_r_cells a_r_hours a_r_cracked a_s0 a_s0_row a_s1 a_s1_row a_s2 a_s2_row a_s3 a_s3_row d_hour d_traced (0 : Int32) f_kind f_wet f_wide f_rows f_cells f_sun f_all f_firstColumn f_lastColumn t_hours t_opened t_firstWrong g_kind g_wet g_wide g_rows g_cells g_sun g_all g_firstColumn g_lastColumn r_cells r_hours r_cracked r_count (va_up S_row 1 q55_1) S_lane S_length)) (rest := []) (st1 := []) Cc hK hA hP hD hS hl.1 (ctX2_setAt l D cI cS a_s1 a_s1_row (S_row 1) (S_lane 1) (S_length 1) p2 p3 n q55_1 hq14) ⟨tw_441, tw_438, tw_439, tw_440, tw_5⟩ mdX2_setAt ⟨rfl, rfl, Nat.le_of_ble_eq_true rfl, Nat.le_of_ble_eq_true rfl⟩ rfl dX4_put_55 rfl (Nat.le_of_ble_eq_true rfl) ⟨Nat.zero_le _, Nat.zero_le _⟩ rfl rfl rfl [15, 16] [0, 1, 2, 3, 4, 5, 6, 7, 8, 9, 10, 11, 12, 13, 14, 17, 18, 19, 20] [0, 1, 2, 3, 4, 5, 6, 7, 8, 9, 10, 11, 12, 13, 14, 19, 20, 15, 16, 17, 18] rfl rfl (by decide) rfl (fun H locs hP hD hS => ?_)
          refine lv_iconst (v := (1 : Int32)) hx hb dX4_put_58 (by decide) ?_
          replace hf := Option.some.inj hf
          obtain ⟨er0, er1⟩ := Prod.mk.inj hf
          obtain ⟨er2, er3⟩ := Prod.mk.inj er1
          clear hf er1
          subst er0
          subst er2
          subst er3
          exact rt_i Cc hK hP hD hS dX4_put_59
        · replace hf := (if_pos hc13).symm.trans hf
          refine lv_aload_n hx hb dX4_put_45 rfl (lv_at hl 1 rfl) ?_
          refine lv_iconst (v := (3 : Int32)) hx hb dX4_put_46 (by decide) ?_
          obtain ⟨q47_1, hq15, hf⟩ := Option.bind_eq_some_iff.mp hf
          refine cV (ws' := (W_D cI cS a_d a_f a_t a_r a_z a_f_kind a_f_wet a_g a_g_kind a_g_wet a_r_cells a_r_hours a_r_cracked a_s0 a_s0_row a_s1 a_s1_row a_s2 a_s2_row a_s3 a_s3_row d_hour d_traced q47_1.2 f_kind f_wet f_wide f_rows f_cells f_sun f_all f_firstColumn f_lastColumn t_hours t_opened t_firstWrong g_kind g_wet g_wide g_rows g_cells g_sun g_all g_firstColumn g_lastColumn r_cells r_hours r_cracked r_count S_row S_lane S_length)) (rest := []) (st1 := [.int q47_1.1]) Cc hK hA hP hD hS hl.1 (ctX4_faulted l D cI cS a_d a_f a_t a_r a_z d_hour d_traced (0 : Int32) (3 : Int32) n q47_1.1 q47_1.2 hq15) ⟨tw_173, tw_170, tw_172, tp_0, tw_1⟩ mdX4_faulted ⟨rfl, rfl, Nat.le_of_ble_eq_true rfl, Nat.le_of_ble_eq_true rfl⟩ rfl dX4_put_47 rfl (Nat.le_of_ble_eq_true rfl) ⟨Nat.zero_le _, Nat.zero_le _⟩ rfl rfl rfl [0] [1, 2, 3, 4, 5, 6, 7, 8, 9, 10, 11, 12, 13, 14, 15, 16, 17, 18, 19, 20] [20, 0, 1, 2, 3, 4, 5, 6, 7, 8, 9, 10, 11, 12, 13, 14, 15, 16, 17, 18, 19] rfl rfl (by decide) rfl (fun H locs hP hD hS => ?_)
          replace hf := Option.some.inj hf
          obtain ⟨er0, er1⟩ := Prod.mk.inj hf
          obtain ⟨er2, er3⟩ := Prod.mk.inj er1
          clear hf er1
          subst er0
          subst er2
          subst er3
          exact rt_i Cc hK hP hD hS dX4_put_50
      · replace hf := (if_neg hc11).symm.trans hf
        refine lv_aload_n hx hb dX4_put_30 rfl (lv_at hl 1 rfl) ?_
        refine lv_iconst (v := (1 : Int32)) hx hb dX4_put_31 (by decide) ?_
        obtain ⟨q32_1, hq16, hf⟩ := Option.bind_eq_some_iff.mp hf
        refine cV (ws' := (W_D cI cS a_d a_f a_t a_r a_z a_f_kind a_f_wet a_g a_g_kind a_g_wet a_r_cells a_r_hours a_r_cracked a_s0 a_s0_row a_s1 a_s1_row a_s2 a_s2_row a_s3 a_s3_row d_hour d_traced q32_1.2 f_kind f_wet f_wide f_rows f_cells f_sun f_all f_firstColumn f_lastColumn t_hours t_opened t_firstWrong g_kind g_wet g_wide g_rows g_cells g_sun g_all g_firstColumn g_lastColumn r_cells r_hours r_cracked r_count S_row S_lane S_length)) (rest := []) (st1 := [.int q32_1.1]) Cc hK hA hP hD hS hl.1 (ctX4_faulted l D cI cS a_d a_f a_t a_r a_z d_hour d_traced (0 : Int32) (1 : Int32) n q32_1.1 q32_1.2 hq16) ⟨tw_173, tw_170, tw_172, tp_0, tw_1⟩ mdX4_faulted ⟨rfl, rfl, Nat.le_of_ble_eq_true rfl, Nat.le_of_ble_eq_true rfl⟩ rfl dX4_put_32 rfl (Nat.le_of_ble_eq_true rfl) ⟨Nat.zero_le _, Nat.zero_le _⟩ rfl rfl rfl [0] [1, 2, 3, 4, 5, 6, 7, 8, 9, 10, 11, 12, 13, 14, 15, 16, 17, 18, 19, 20] [20, 0, 1, 2, 3, 4, 5, 6, 7, 8, 9, 10, 11, 12, 13, 14, 15, 16, 17, 18, 19] rfl rfl (by decide) rfl (fun H locs hP hD hS => ?_)
        replace hf := Option.some.inj hf
        obtain ⟨er0, er1⟩ := Prod.mk.inj hf
        obtain ⟨er2, er3⟩ := Prod.mk.inj er1
        clear hf er1
        subst er0
        subst er2
        subst er3
        exact rt_i Cc hK hP hD hS dX4_put_35
    · refine W.eq (g2 := F0 m 20 ls [.ref a_s2]) rfl ?_
      refine lv_astore (lv' := [(4, .ref a_s2), (0, .ref a_d), (1, .int p1), (2, .int p2), (3, .int p3)]) hx hb dX4_put_20 hl (by decide) rfl (fun ls hl => ?_)
      refine lv_aload hx hb dX4_put_22 (lv_at hl 0 rfl) ?_
      obtain ⟨q24_1, hq17, hf⟩ := Option.bind_eq_some_iff.mp hf
      refine cV (ws' := (W_D cI cS a_d a_f a_t a_r a_z a_f_kind a_f_wet a_g a_g_kind a_g_wet a_r_cells a_r_hours a_r_cracked a_s0 a_s0_row a_s1 a_s1_row a_s2 a_s2_row a_s3 a_s3_row d_hour d_traced (0 : Int32) f_kind f_wet f_wide f_rows f_cells f_sun f_all f_firstColumn f_lastColumn t_hours t_opened t_firstWrong g_kind g_wet g_wide g_rows g_cells g_sun g_all g_firstColumn g_lastColumn r_cells r_hours r_cracked r_count S_row S_lane S_length)) (rest := []) (st1 := [.int q24_1]) Cc hK hA hP hD hS hl.1 (ctX2_isNothing l D cI cS a_s2 a_s2_row (S_row 2) (S_lane 2) (S_length 2)  n q24_1 hq17) ⟨tw_165, tw_428, tw_163, tw_164, tw_5⟩ mdX2_isNothing ⟨rfl, rfl, Nat.le_of_ble_eq_true rfl, Nat.le_of_ble_eq_true rfl⟩ rfl dX4_put_24 rfl (Nat.le_of_ble_eq_true rfl) ⟨Nat.zero_le _, Nat.zero_le _⟩ rfl rfl rfl [17, 18] [0, 1, 2, 3, 4, 5, 6, 7, 8, 9, 10, 11, 12, 13, 14, 15, 16, 19, 20] [0, 1, 2, 3, 4, 5, 6, 7, 8, 9, 10, 11, 12, 13, 14, 15, 16, 19, 20, 17, 18] rfl rfl (by decide) rfl (fun H locs hP hD hS => ?_)
      refine lv_if_eq (tgt := 36) hx hb dX4_put_27 (by decide) (fun hc18 => ?_) (fun hc18 => ?_)
      · replace hf := (if_pos hc18).symm.trans hf
        refine lv_aload hx hb dX4_put_36 (lv_at hl 0 rfl) ?_
        refine lv_iload_n hx hb dX4_put_38 rfl (lv_at hl 3 rfl) ?_
        obtain ⟨q39_1, hq19, hf⟩ := Option.bind_eq_some_iff.mp hf
        refine cV (ws' := (W_D cI cS a_d a_f a_t a_r a_z a_f_kind a_f_wet a_g a_g_kind a_g_wet a_r_cells a_r_hours a_r_cracked a_s0 a_s0_row a_s1 a_s1_row a_s2 a_s2_row a_s3 a_s3_row d_hour d_traced (0 : Int32) f_kind f_wet f_wide f_rows f_cells f_sun f_all f_firstColumn f_lastColumn t_hours t_opened t_firstWrong g_kind g_wet g_wide g_rows g_cells g_sun g_all g_firstColumn g_lastColumn r_cells r_hours r_cracked r_count S_row S_lane S_length)) (rest := []) (st1 := [.int q39_1]) Cc hK hA hP hD hS hl.1 (ctX2_hasPlace l D cI cS a_s2 a_s2_row (S_row 2) (S_lane 2) (S_length 2) p2 n q39_1 hq19) ⟨tw_187, tw_437, tw_185, tw_186, tw_5⟩ mdX2_hasPlace ⟨rfl, rfl, Nat.le_of_ble_eq_true rfl, Nat.le_of_ble_eq_true rfl⟩ rfl dX4_put_39 rfl (Nat.le_of_ble_eq_true rfl) ⟨Nat.zero_le _, Nat.zero_le _⟩ rfl rfl rfl [17, 18] [0, 1, 2, 3, 4, 5, 6, 7, 8, 9, 10, 11, 12, 13, 14, 15, 16, 19, 20] [0, 1, 2, 3, 4, 5, 6, 7, 8, 9, 10, 11, 12, 13, 14, 15, 16, 19, 20, 17, 18] rfl rfl (by decide) rfl (fun H locs hP hD hS => ?_)
        refine lv_if_ne (tgt := 51) hx hb dX4_put_42 (by decide) (fun hc20 => ?_) (fun hc20 => ?_)
        · replace hf := (if_neg hc20).symm.trans hf
          refine lv_aload hx hb dX4_put_51 (lv_at hl 0 rfl) ?_
          refine lv_iload_n hx hb dX4_put_53 rfl (lv_at hl 3 rfl) ?_
          refine lv_iload_n hx hb dX4_put_54 rfl (lv_at hl 4 rfl) ?_
          obtain ⟨q55_1, hq21, hf⟩ := Option.bind_eq_some_iff.mp hf
          refine cV (ws' := (W_D cI cS a_d a_f a_t a_r a_z a_f_kind a_f_wet a_g a_g_kind a_g_wet a_r_cells a_r_hours a_r_cracked a_s0 a_s0_row a_s1 a_s1_row a_s2 a_s2_row a_s3 a_s3_row d_hour d_traced (0 : Int32) f_kind f_wet f_wide f_rows f_cells f_sun f_all f_firstColumn f_lastColumn t_hours t_opened t_firstWrong g_kind g_wet g_wide g_rows g_cells g_sun g_all g_firstColumn g_lastColumn r_cells r_hours r_cracked r_count (va_up S_row 2 q55_1) S_lane S_length)) (rest := []) (st1 := []) Cc hK hA hP hD hS hl.1 (ctX2_setAt l D cI cS a_s2 a_s2_row (S_row 2) (S_lane 2) (S_length 2) p2 p3 n q55_1 hq21) ⟨tw_441, tw_438, tw_439, tw_440, tw_5⟩ mdX2_setAt ⟨rfl, rfl, Nat.le_of_ble_eq_true rfl, Nat.le_of_ble_eq_true rfl⟩ rfl dX4_put_55 rfl (Nat.le_of_ble_eq_true rfl) ⟨Nat.zero_le _, Nat.zero_le _⟩ rfl rfl rfl [17, 18] [0, 1, 2, 3, 4, 5, 6, 7, 8, 9, 10, 11, 12, 13, 14, 15, 16, 19, 20] [0, 1, 2, 3, 4, 5, 6, 7, 8, 9, 10, 11, 12, 13, 14, 15, 16, 19, 20, 17, 18] rfl rfl (by decide) rfl (fun H locs hP hD hS => ?_)
          refine lv_iconst (v := (1 : Int32)) hx hb dX4_put_58 (by decide) ?_
          replace hf := Option.some.inj hf
          obtain ⟨er0, er1⟩ := Prod.mk.inj hf
          obtain ⟨er2, er3⟩ := Prod.mk.inj er1
          clear hf er1
          subst er0
          subst er2
          subst er3
          exact rt_i Cc hK hP hD hS dX4_put_59
        · replace hf := (if_pos hc20).symm.trans hf
          refine lv_aload_n hx hb dX4_put_45 rfl (lv_at hl 1 rfl) ?_
          refine lv_iconst (v := (3 : Int32)) hx hb dX4_put_46 (by decide) ?_
          obtain ⟨q47_1, hq22, hf⟩ := Option.bind_eq_some_iff.mp hf
          refine cV (ws' := (W_D cI cS a_d a_f a_t a_r a_z a_f_kind a_f_wet a_g a_g_kind a_g_wet a_r_cells a_r_hours a_r_cracked a_s0 a_s0_row a_s1 a_s1_row a_s2 a_s2_row a_s3 a_s3_row d_hour d_traced q47_1.2 f_kind f_wet f_wide f_rows f_cells f_sun f_all f_firstColumn f_lastColumn t_hours t_opened t_firstWrong g_kind g_wet g_wide g_rows g_cells g_sun g_all g_firstColumn g_lastColumn r_cells r_hours r_cracked r_count S_row S_lane S_length)) (rest := []) (st1 := [.int q47_1.1]) Cc hK hA hP hD hS hl.1 (ctX4_faulted l D cI cS a_d a_f a_t a_r a_z d_hour d_traced (0 : Int32) (3 : Int32) n q47_1.1 q47_1.2 hq22) ⟨tw_173, tw_170, tw_172, tp_0, tw_1⟩ mdX4_faulted ⟨rfl, rfl, Nat.le_of_ble_eq_true rfl, Nat.le_of_ble_eq_true rfl⟩ rfl dX4_put_47 rfl (Nat.le_of_ble_eq_true rfl) ⟨Nat.zero_le _, Nat.zero_le _⟩ rfl rfl rfl [0] [1, 2, 3, 4, 5, 6, 7, 8, 9, 10, 11, 12, 13, 14, 15, 16, 17, 18, 19, 20] [20, 0, 1, 2, 3, 4, 5, 6, 7, 8, 9, 10, 11, 12, 13, 14, 15, 16, 17, 18, 19] rfl rfl (by decide) rfl (fun H locs hP hD hS => ?_)
          replace hf := Option.some.inj hf
          obtain ⟨er0, er1⟩ := Prod.mk.inj hf
          obtain ⟨er2, er3⟩ := Prod.mk.inj er1
          clear hf er1
          subst er0
          subst er2
          subst er3
          exact rt_i Cc hK hP hD hS dX4_put_50
      · replace hf := (if_neg hc18).symm.trans hf
        refine lv_aload_n hx hb dX4_put_30 rfl (lv_at hl 1 rfl) ?_
        refine lv_iconst (v := (1 : Int32)) hx hb dX4_put_31 (by decide) ?_
        obtain ⟨q32_1, hq23, hf⟩ := Option.bind_eq_some_iff.mp hf
        refine cV (ws' := (W_D cI cS a_d a_f a_t a_r a_z a_f_kind a_f_wet a_g a_g_kind a_g_wet a_r_cells a_r_hours a_r_cracked a_s0 a_s0_row a_s1 a_s1_row a_s2 a_s2_row a_s3 a_s3_row d_hour d_traced q32_1.2 f_kind f_wet f_wide f_rows f_cells f_sun f_all f_firstColumn f_lastColumn t_hours t_opened t_firstWrong g_kind g_wet g_wide g_rows g_cells g_sun g_all g_firstColumn g_lastColumn r_cells r_hours r_cracked r_count S_row S_lane S_length)) (rest := []) (st1 := [.int q32_1.1]) Cc hK hA hP hD hS hl.1 (ctX4_faulted l D cI cS a_d a_f a_t a_r a_z d_hour d_traced (0 : Int32) (1 : Int32) n q32_1.1 q32_1.2 hq23) ⟨tw_173, tw_170, tw_172, tp_0, tw_1⟩ mdX4_faulted ⟨rfl, rfl, Nat.le_of_ble_eq_true rfl, Nat.le_of_ble_eq_true rfl⟩ rfl dX4_put_32 rfl (Nat.le_of_ble_eq_true rfl) ⟨Nat.zero_le _, Nat.zero_le _⟩ rfl rfl rfl [0] [1, 2, 3, 4, 5, 6, 7, 8, 9, 10, 11, 12, 13, 14, 15, 16, 17, 18, 19, 20] [20, 0, 1, 2, 3, 4, 5, 6, 7, 8, 9, 10, 11, 12, 13, 14, 15, 16, 17, 18, 19] rfl rfl (by decide) rfl (fun H locs hP hD hS => ?_)
        replace hf := Option.some.inj hf
        obtain ⟨er0, er1⟩ := Prod.mk.inj hf
        obtain ⟨er2, er3⟩ := Prod.mk.inj er1
        clear hf er1
        subst er0
        subst er2
        subst er3
        exact rt_i Cc hK hP hD hS dX4_put_35
    · refine W.eq (g2 := F0 m 20 ls [.ref a_s3]) rfl ?_
      refine lv_astore (lv' := [(4, .ref a_s3), (0, .ref a_d), (1, .int p1), (2, .int p2), (3, .int p3)]) hx hb dX4_put_20 hl (by decide) rfl (fun ls hl => ?_)
      refine lv_aload hx hb dX4_put_22 (lv_at hl 0 rfl) ?_
      obtain ⟨q24_1, hq24, hf⟩ := Option.bind_eq_some_iff.mp hf
      refine cV (ws' := (W_D cI cS a_d a_f a_t a_r a_z a_f_kind a_f_wet a_g a_g_kind a_g_wet a_r_cells a_r_hours a_r_cracked a_s0 a_s0_row a_s1 a_s1_row a_s2 a_s2_row a_s3 a_s3_row d_hour d_traced (0 : Int32) f_kind f_wet f_wide f_rows f_cells f_sun f_all f_firstColumn f_lastColumn t_hours t_opened t_firstWrong g_kind g_wet g_wide g_rows g_cells g_sun g_all g_firstColumn g_lastColumn r_cells r_hours r_cracked r_count S_row S_lane S_length)) (rest := []) (st1 := [.int q24_1]) Cc hK hA hP hD hS hl.1 (ctX2_isNothing l D cI cS a_s3 a_s3_row (S_row 3) (S_lane 3) (S_length 3)  n q24_1 hq24) ⟨tw_165, tw_428, tw_163, tw_164, tw_5⟩ mdX2_isNothing ⟨rfl, rfl, Nat.le_of_ble_eq_true rfl, Nat.le_of_ble_eq_true rfl⟩ rfl dX4_put_24 rfl (Nat.le_of_ble_eq_true rfl) ⟨Nat.zero_le _, Nat.zero_le _⟩ rfl rfl rfl [19, 20] [0, 1, 2, 3, 4, 5, 6, 7, 8, 9, 10, 11, 12, 13, 14, 15, 16, 17, 18] [0, 1, 2, 3, 4, 5, 6, 7, 8, 9, 10, 11, 12, 13, 14, 15, 16, 17, 18, 19, 20] rfl rfl (by decide) rfl (fun H locs hP hD hS => ?_)
      refine lv_if_eq (tgt := 36) hx hb dX4_put_27 (by decide) (fun hc25 => ?_) (fun hc25 => ?_)
      · replace hf := (if_pos hc25).symm.trans hf
        refine lv_aload hx hb dX4_put_36 (lv_at hl 0 rfl) ?_
        refine lv_iload_n hx hb dX4_put_38 rfl (lv_at hl 3 rfl) ?_
        obtain ⟨q39_1, hq26, hf⟩ := Option.bind_eq_some_iff.mp hf
        refine cV (ws' := (W_D cI cS a_d a_f a_t a_r a_z a_f_kind a_f_wet a_g a_g_kind a_g_wet a_r_cells a_r_hours a_r_cracked a_s0 a_s0_row a_s1 a_s1_row a_s2 a_s2_row a_s3 a_s3_row d_hour d_traced (0 : Int32) f_kind f_wet f_wide f_rows f_cells f_sun f_all f_firstColumn f_lastColumn t_hours t_opened t_firstWrong g_kind g_wet g_wide g_rows g_cells g_sun g_all g_firstColumn g_lastColumn r_cells r_hours r_cracked r_count S_row S_lane S_length)) (rest := []) (st1 := [.int q39_1]) Cc hK hA hP hD hS hl.1 (ctX2_hasPlace l D cI cS a_s3 a_s3_row (S_row 3) (S_lane 3) (S_length 3) p2 n q39_1 hq26) ⟨tw_187, tw_437, tw_185, tw_186, tw_5⟩ mdX2_hasPlace ⟨rfl, rfl, Nat.le_of_ble_eq_true rfl, Nat.le_of_ble_eq_true rfl⟩ rfl dX4_put_39 rfl (Nat.le_of_ble_eq_true rfl) ⟨Nat.zero_le _, Nat.zero_le _⟩ rfl rfl rfl [19, 20] [0, 1, 2, 3, 4, 5, 6, 7, 8, 9, 10, 11, 12, 13, 14, 15, 16, 17, 18] [0, 1, 2, 3, 4, 5, 6, 7, 8, 9, 10, 11, 12, 13, 14, 15, 16, 17, 18, 19, 20] rfl rfl (by decide) rfl (fun H locs hP hD hS => ?_)
        refine lv_if_ne (tgt := 51) hx hb dX4_put_42 (by decide) (fun hc27 => ?_) (fun hc27 => ?_)
        · replace hf := (if_neg hc27).symm.trans hf
          refine lv_aload hx hb dX4_put_51 (lv_at hl 0 rfl) ?_
          refine lv_iload_n hx hb dX4_put_53 rfl (lv_at hl 3 rfl) ?_
          refine lv_iload_n hx hb dX4_put_54 rfl (lv_at hl 4 rfl) ?_
          obtain ⟨q55_1, hq28, hf⟩ := Option.bind_eq_some_iff.mp hf
          refine cV (ws' := (W_D cI cS a_d a_f a_t a_r a_z a_f_kind a_f_wet a_g a_g_kind a_g_wet a_r_cells a_r_hours a_r_cracked a_s0 a_s0_row a_s1 a_s1_row a_s2 a_s2_row a_s3 a_s3_row d_hour d_traced (0 : Int32) f_kind f_wet f_wide f_rows f_cells f_sun f_all f_firstColumn f_lastColumn t_hours t_opened t_firstWrong g_kind g_wet g_wide g_rows g_cells g_sun g_all g_firstColumn g_lastColumn r_cells r_hours r_cracked r_count (va_up S_row 3 q55_1) S_lane S_length)) (rest := []) (st1 := []) Cc hK hA hP hD hS hl.1 (ctX2_setAt l D cI cS a_s3 a_s3_row (S_row 3) (S_lane 3) (S_length 3) p2 p3 n q55_1 hq28) ⟨tw_441, tw_438, tw_439, tw_440, tw_5⟩ mdX2_setAt ⟨rfl, rfl, Nat.le_of_ble_eq_true rfl, Nat.le_of_ble_eq_true rfl⟩ rfl dX4_put_55 rfl (Nat.le_of_ble_eq_true rfl) ⟨Nat.zero_le _, Nat.zero_le _⟩ rfl rfl rfl [19, 20] [0, 1, 2, 3, 4, 5, 6, 7, 8, 9, 10, 11, 12, 13, 14, 15, 16, 17, 18] [0, 1, 2, 3, 4, 5, 6, 7, 8, 9, 10, 11, 12, 13, 14, 15, 16, 17, 18, 19, 20] rfl rfl (by decide) rfl (fun H locs hP hD hS => ?_)
          refine lv_iconst (v := (1 : Int32)) hx hb dX4_put_58 (by decide) ?_
          replace hf := Option.some.inj hf
          obtain ⟨er0, er1⟩ := Prod.mk.inj hf
          obtain ⟨er2, er3⟩ := Prod.mk.inj er1
          clear hf er1
          subst er0
          subst er2
          subst er3
          exact rt_i Cc hK hP hD hS dX4_put_59
        · replace hf := (if_pos hc27).symm.trans hf
          refine lv_aload_n hx hb dX4_put_45 rfl (lv_at hl 1 rfl) ?_
          refine lv_iconst (v := (3 : Int32)) hx hb dX4_put_46 (by decide) ?_
          obtain ⟨q47_1, hq29, hf⟩ := Option.bind_eq_some_iff.mp hf
          refine cV (ws' := (W_D cI cS a_d a_f a_t a_r a_z a_f_kind a_f_wet a_g a_g_kind a_g_wet a_r_cells a_r_hours a_r_cracked a_s0 a_s0_row a_s1 a_s1_row a_s2 a_s2_row a_s3 a_s3_row d_hour d_traced q47_1.2 f_kind f_wet f_wide f_rows f_cells f_sun f_all f_firstColumn f_lastColumn t_hours t_opened t_firstWrong g_kind g_wet g_wide g_rows g_cells g_sun g_all g_firstColumn g_lastColumn r_cells r_hours r_cracked r_count S_row S_lane S_length)) (rest := []) (st1 := [.int q47_1.1]) Cc hK hA hP hD hS hl.1 (ctX4_faulted l D cI cS a_d a_f a_t a_r a_z d_hour d_traced (0 : Int32) (3 : Int32) n q47_1.1 q47_1.2 hq29) ⟨tw_173, tw_170, tw_172, tp_0, tw_1⟩ mdX4_faulted ⟨rfl, rfl, Nat.le_of_ble_eq_true rfl, Nat.le_of_ble_eq_true rfl⟩ rfl dX4_put_47 rfl (Nat.le_of_ble_eq_true rfl) ⟨Nat.zero_le _, Nat.zero_le _⟩ rfl rfl rfl [0] [1, 2, 3, 4, 5, 6, 7, 8, 9, 10, 11, 12, 13, 14, 15, 16, 17, 18, 19, 20] [20, 0, 1, 2, 3, 4, 5, 6, 7, 8, 9, 10, 11, 12, 13, 14, 15, 16, 17, 18, 19] rfl rfl (by decide) rfl (fun H locs hP hD hS => ?_)
          replace hf := Option.some.inj hf
          obtain ⟨er0, er1⟩ := Prod.mk.inj hf
          obtain ⟨er2, er3⟩ := Prod.mk.inj er1
          clear hf er1
          subst er0
          subst er2
          subst er3
          exact rt_i Cc hK hP hD hS dX4_put_50
      · replace hf := (if_neg hc25).symm.trans hf
        refine lv_aload_n hx hb dX4_put_30 rfl (lv_at hl 1 rfl) ?_
        refine lv_iconst (v := (1 : Int32)) hx hb dX4_put_31 (by decide) ?_
        obtain ⟨q32_1, hq30, hf⟩ := Option.bind_eq_some_iff.mp hf
        refine cV (ws' := (W_D cI cS a_d a_f a_t a_r a_z a_f_kind a_f_wet a_g a_g_kind a_g_wet a_r_cells a_r_hours a_r_cracked a_s0 a_s0_row a_s1 a_s1_row a_s2 a_s2_row a_s3 a_s3_row d_hour d_traced q32_1.2 f_kind f_wet f_wide f_rows f_cells f_sun f_all f_firstColumn f_lastColumn t_hours t_opened t_firstWrong g_kind g_wet g_wide g_rows g_cells g_sun g_all g_firstColumn g_lastColumn r_cells r_hours r_cracked r_count S_row S_lane S_length)) (rest := []) (st1 := [.int q32_1.1]) Cc hK hA hP hD hS hl.1 (ctX4_faulted l D cI cS a_d a_f a_t a_r a_z d_hour d_traced (0 : Int32) (1 : Int32) n q32_1.1 q32_1.2 hq30) ⟨tw_173, tw_170, tw_172, tp_0, tw_1⟩ mdX4_faulted ⟨rfl, rfl, Nat.le_of_ble_eq_true rfl, Nat.le_of_ble_eq_true rfl⟩ rfl dX4_put_32 rfl (Nat.le_of_ble_eq_true rfl) ⟨Nat.zero_le _, Nat.zero_le _⟩ rfl rfl rfl [0] [1, 2, 3, 4, 5, 6, 7, 8, 9, 10, 11, 12, 13, 14, 15, 16, 17, 18, 19, 20] [20, 0, 1, 2, 3, 4, 5, 6, 7, 8, 9, 10, 11, 12, 13, 14, 15, 16, 17, 18, 19] rfl rfl (by decide) rfl (fun H locs hP hD hS => ?_)
        replace hf := Option.some.inj hf
        obtain ⟨er0, er1⟩ := Prod.mk.inj hf
        obtain ⟨er2, er3⟩ := Prod.mk.inj er1
        clear hf er1
        subst er0
        subst er2
        subst er3
        exact rt_i Cc hK hP hD hS dX4_put_35
  · replace hf := (if_pos hc2).symm.trans hf
    refine lv_iconst (v := (-1 : Int32)) hx hb dX4_put_12 (by decide) ?_
    replace hf := Option.some.inj hf
    obtain ⟨er0, er1⟩ := Prod.mk.inj hf
    obtain ⟨er2, er3⟩ := Prod.mk.inj er1
    clear hf er1
    subst er0
    subst er2
    subst er3
    exact rt_i Cc hK hP hD hS dX4_put_13
-- X4_cell
def fX4_cell_62 (n : Nat) (d_latestFault : Int32) (S_row : Nat → Nat → Int32) (S_lane : Nat → Int32) (S_length : Nat → Int32) (t0 : Nat) (x2 : Int32) : Option (Int64 × Int32) := if d_latestFault = 0 then (fX2_codeAt n (S_row t0) (S_length t0) x2).bind fun q72_1 => some ((q72_1).toInt64, d_latestFault) else some ((-9223372036854775808 : Int64), d_latestFault)
def fX4_cell (n : Nat) (d_latestFault : Int32) (S_row : Nat → Nat → Int32) (S_lane : Nat → Int32) (S_length : Nat → Int32) (p1 : Int32) (p2 : Int32) (p3 : Int32) : Option (Int64 × Int32) := (fX4_isSheet n p1).bind fun q6_1 => if q6_1 = 0 then some ((-9223372036854775808 : Int64), (0 : Int32)) else (fX4_isLane n p3).bind fun q13_1 => if q13_1 = 0 then some ((-9223372036854775808 : Int64), (0 : Int32)) else gd p1 4 ((fX2_faultAs n (S_lane p1.toNatClampNeg) p3).bind fun q35_1 => if q35_1 = 0 then (fX2_hasPlace n (S_length p1.toNatClampNeg) p2).bind fun q51_1 => if q51_1 = 0 then fX4_cell_62 n (3 : Int32) S_row S_lane S_length p1.toNatClampNeg p2 else fX4_cell_62 n q35_1 S_row S_lane S_length p1.toNatClampNeg p2 else fX4_cell_62 n q35_1 S_row S_lane S_length p1.toNatClampNeg p2)
theorem mdX4_cell : yX4_cell.cls = RX4 ∧ yX4_cell.cls ≠ "java/lang/invoke/MethodHandle" ∧ yX4_cell.cls ≠ "java/lang/invoke/VarHandle" ∧ (parseMethodDescriptor yX4_cell.desc).map (fun d => d.parameters.length) = some 3 := by decide +kernel
set_option maxHeartbeats 4000000 in
set_option maxRecDepth 100000 in
theorem bX4_cell_62_0 {p : Program} {l : Launch} {e : Env} {s : State} {m : MethodId} {args : Array Value} {below : List Frame} {meth : Method} {c : Code} {A : Nat → Prop} {D : va_G} {cI cS : ClassId} (a_d a_f a_t a_r a_z a_f_kind a_f_wet a_g a_g_kind a_g_wet a_r_cells a_r_hours a_r_cracked a_s0 a_s0_row a_s1 a_s1_row a_s2 a_s2_row a_s3 a_s3_row : Nat) (d_hour : Int32) (d_traced : Int32) (f_kind : Nat → Int32) (f_wet : Nat → Int32) (f_wide : Int32) (f_rows : Int32) (f_cells : Int32) (f_sun : Int32) (f_all : Int32) (f_firstColumn : Int32) (f_lastColumn : Int32) (t_hours : Int32) (t_opened : Int32) (t_firstWrong : Int32) (g_kind : Nat → Int32) (g_wet : Nat → Int32) (g_wide : Int32) (g_rows : Int32) (g_cells : Int32) (g_sun : Int32) (g_all : Int32) (g_firstColumn : Int32) (g_lastColumn : Int32) (r_cells : Nat → Int32) (r_hours : Nat → Int32) (r_cracked : Nat → Int32) (r_count : Int32) (Cc : Cx p s m args meth c RX4 cX4_cell 5 (some .long)) (hK : va_K D classes (tysA cI cS) s) (hA : ∀ q, s.heap.size ≤ q → A q) (n : Nat) : ∀ (d_latestFault : Int32) (S_row : Nat → Nat → Int32) (S_lane : Nat → Int32) (S_length : Nat → Int32) (x2 : Int32) (r : Int64) (d_latestFault' : Int32), fX4_cell_62 n d_latestFault S_row S_lane S_length 0 x2 = some (r, d_latestFault') → ∀ (H : Heap) (locs : List Loc) (ls : Array Slot), va_P D classes (W_D cI cS a_d a_f a_t a_r a_z a_f_kind a_f_wet a_g a_g_kind a_g_wet a_r_cells a_r_hours a_r_cracked a_s0 a_s0_row a_s1 a_s1_row a_s2 a_s2_row a_s3 a_s3_row d_hour d_traced d_latestFault f_kind f_wet f_wide f_rows f_cells f_sun f_all f_firstColumn f_lastColumn t_hours t_opened t_firstWrong g_kind g_wet g_wide g_rows g_cells g_sun g_all g_firstColumn g_lastColumn r_cells r_hours r_cracked r_count S_row S_lane S_length) H → va_D A (W_D cI cS a_d a_f a_t a_r a_z a_f_kind a_f_wet a_g a_g_kind a_g_wet a_r_cells a_r_hours a_r_cracked a_s0 a_s0_row a_s1 a_s1_row a_s2 a_s2_row a_s3 a_s3_row d_hour d_traced d_latestFault f_kind f_wet f_wide f_rows f_cells f_sun f_all f_firstColumn f_lastColumn t_hours t_opened t_firstWrong g_kind g_wet g_wide g_rows g_cells g_sun g_all g_firstColumn g_lastColumn r_cells r_hours r_cracked r_count S_row S_lane S_length) → va_S A s.heap H locs → lv_has ls 5 [(0, .ref a_d), (2, .int x2), (4, .ref a_s0)] → W p l e (Rm 2) s m args below meth c H locs 0 0 (MQ below (QW D (tysA cI cS) (some (.long r)) (W_D cI cS a_d a_f a_t a_r a_z a_f_kind a_f_wet a_g a_g_kind a_g_wet a_r_cells a_r_hours a_r_cracked a_s0 a_s0_row a_s1 a_s1_row a_s2 a_s2_row a_s3 a_s3_row d_hour d_traced d_latestFault' f_kind f_wet f_wide f_rows f_cells f_sun f_all f_firstColumn f_lastColumn t_hours t_opened t_firstWrong g_kind g_wet g_wide g_rows g_cells g_sun g_all g_firstColumn g_lastColumn r_cells r_hours r_cracked r_count S_row S_lane S_length) A) args s 0 0 A) (F0 m 62 ls []) := by
  obtain ⟨hx, hb, hr, hml, hown, hts, hlk, hnw⟩ := id Cc
  intro d_latestFault S_row S_lane S_length x2 r d_latestFault' hf H locs ls hP hD hS hl
  unfold fX4_cell_62 at hf
  refine lv_aload_n hx hb dX4_cell_62 rfl (lv_at hl 0 rfl) ?_
  refine va_get (D := D) (ci := 4) (v := .int d_latestFault) (C := RX4) (T := TX4) (N := 7) hx hb hts inX4 hown hK hP 0 rfl rfl 6 (by decide) (hts _ tw_129) (fun _ h9 => h9) rfl dX4_cell_63 ?_
  refine lv_if_ne (tgt := 79) hx hb dX4_cell_66 (by decide) (fun hc7 => ?_) (fun hc7 => ?_)
  · replace hf := (if_neg hc7).symm.trans hf
    refine lv_ldc2 hx hb hown (hts _ tw_411) dX4_cell_79 ?_
    replace hf := Option.some.inj hf
    obtain ⟨er0, er1⟩ := Prod.mk.inj hf
    clear hf 
    subst er0
    subst er1
    exact rt_l Cc hK hP hD hS dX4_cell_82
  · replace hf := (if_pos hc7).symm.trans hf
    refine lv_aload hx hb dX4_cell_69 (lv_at hl 2 rfl) ?_
    refine lv_iload_n hx hb dX4_cell_71 rfl (lv_at hl 1 rfl) ?_
    obtain ⟨q72_1, hq8, hf⟩ := Option.bind_eq_some_iff.mp hf
    refine cV (ws' := (W_D cI cS a_d a_f a_t a_r a_z a_f_kind a_f_wet a_g a_g_kind a_g_wet a_r_cells a_r_hours a_r_cracked a_s0 a_s0_row a_s1 a_s1_row a_s2 a_s2_row a_s3 a_s3_row d_hour d_traced d_latestFault f_kind f_wet f_wide f_rows f_cells f_sun f_all f_firstColumn f_lastColumn t_hours t_opened t_firstWrong g_kind g_wet g_wide g_rows g_cells g_sun g_all g_firstColumn g_lastColumn r_cells r_hours r_cracked r_count S_row S_lane S_length)) (rest := []) (st1 := [.int q72_1]) Cc hK hA hP hD hS hl.1 (ctX2_codeAt l D cI cS a_s0 a_s0_row (S_row 0) (S_lane 0) (S_length 0) x2 n q72_1 hq8) ⟨tw_183, tw_180, tw_181, tw_182, tw_5⟩ mdX2_codeAt ⟨rfl, rfl, Nat.le_of_ble_eq_true rfl, Nat.le_of_ble_eq_true rfl⟩ rfl dX4_cell_72 rfl (Nat.le_of_ble_eq_true rfl) ⟨Nat.zero_le _, Nat.zero_le _⟩ rfl rfl rfl [13, 14] [0, 1, 2, 3, 4, 5, 6, 7, 8, 9, 10, 11, 12, 15, 16, 17, 18, 19, 20] [0, 1, 2, 3, 4, 5, 6, 7, 8, 9, 10, 11, 12, 19, 20, 13, 14, 15, 16, 17, 18] rfl rfl (by decide) rfl (fun H locs hP hD hS => ?_)
    refine lv_i2l (v := (q72_1).toInt64) hx hb dX4_cell_75 rfl ?_
    refine lv_goto (tgt := 82) hx hb dX4_cell_76 (by decide) ?_
    replace hf := Option.some.inj hf
    obtain ⟨er0, er1⟩ := Prod.mk.inj hf
    clear hf 
    subst er0
    subst er1
    exact rt_l Cc hK hP hD hS dX4_cell_82
set_option maxHeartbeats 4000000 in
set_option maxRecDepth 100000 in
theorem bX4_cell_62_1 {p : Program} {l : Launch} {e : Env} {s : State} {m : MethodId} {args : Array Value} {below : List Frame} {meth : Method} {c : Code} {A : Nat → Prop} {D : va_G} {cI cS : ClassId} (a_d a_f a_t a_r a_z a_f_kind a_f_wet a_g a_g_kind a_g_wet a_r_cells a_r_hours a_r_cracked a_s0 a_s0_row a_s1 a_s1_row a_s2 a_s2_row a_s3 a_s3_row : Nat) (d_hour : Int32) (d_traced : Int32) (f_kind : Nat → Int32) (f_wet : Nat → Int32) (f_wide : Int32) (f_rows : Int32) (f_cells : Int32) (f_sun : Int32) (f_all : Int32) (f_firstColumn : Int32) (f_lastColumn : Int32) (t_hours : Int32) (t_opened : Int32) (t_firstWrong : Int32) (g_kind : Nat → Int32) (g_wet : Nat → Int32) (g_wide : Int32) (g_rows : Int32) (g_cells : Int32) (g_sun : Int32) (g_all : Int32) (g_firstColumn : Int32) (g_lastColumn : Int32) (r_cells : Nat → Int32) (r_hours : Nat → Int32) (r_cracked : Nat → Int32) (r_count : Int32) (Cc : Cx p s m args meth c RX4 cX4_cell 5 (some .long)) (hK : va_K D classes (tysA cI cS) s) (hA : ∀ q, s.heap.size ≤ q → A q) (n : Nat) : ∀ (d_latestFault : Int32) (S_row : Nat → Nat → Int32) (S_lane : Nat → Int32) (S_length : Nat → Int32) (x2 : Int32) (r : Int64) (d_latestFault' : Int32), fX4_cell_62 n d_latestFault S_row S_lane S_length 1 x2 = some (r, d_latestFault') → ∀ (H : Heap) (locs : List Loc) (ls : Array Slot), va_P D classes (W_D cI cS a_d a_f a_t a_r a_z a_f_kind a_f_wet a_g a_g_kind a_g_wet a_r_cells a_r_hours a_r_cracked a_s0 a_s0_row a_s1 a_s1_row a_s2 a_s2_row a_s3 a_s3_row d_hour d_traced d_latestFault f_kind f_wet f_wide f_rows f_cells f_sun f_all f_firstColumn f_lastColumn t_hours t_opened t_firstWrong g_kind g_wet g_wide g_rows g_cells g_sun g_all g_firstColumn g_lastColumn r_cells r_hours r_cracked r_count S_row S_lane S_length) H → va_D A (W_D cI cS a_d a_f a_t a_r a_z a_f_kind a_f_wet a_g a_g_kind a_g_wet a_r_cells a_r_hours a_r_cracked a_s0 a_s0_row a_s1 a_s1_row a_s2 a_s2_row a_s3 a_s3_row d_hour d_traced d_latestFault f_kind f_wet f_wide f_rows f_cells f_sun f_all f_firstColumn f_lastColumn t_hours t_opened t_firstWrong g_kind g_wet g_wide g_rows g_cells g_sun g_all g_firstColumn g_lastColumn r_cells r_hours r_cracked r_count S_row S_lane S_length) → va_S A s.heap H locs → lv_has ls 5 [(0, .ref a_d), (2, .int x2), (4, .ref a_s1)] → W p l e (Rm 2) s m args below meth c H locs 0 0 (MQ below (QW D (tysA cI cS) (some (.long r)) (W_D cI cS a_d a_f a_t a_r a_z a_f_kind a_f_wet a_g a_g_kind a_g_wet a_r_cells a_r_hours a_r_cracked a_s0 a_s0_row a_s1 a_s1_row a_s2 a_s2_row a_s3 a_s3_row d_hour d_traced d_latestFault' f_kind f_wet f_wide f_rows f_cells f_sun f_all f_firstColumn f_lastColumn t_hours t_opened t_firstWrong g_kind g_wet g_wide g_rows g_cells g_sun g_all g_firstColumn g_lastColumn r_cells r_hours r_cracked r_count S_row S_lane S_length) A) args s 0 0 A) (F0 m 62 ls []) := by
  obtain ⟨hx, hb, hr, hml, hown, hts, hlk, hnw⟩ := id Cc
  intro d_latestFault S_row S_lane S_length x2 r d_latestFault' hf H locs ls hP hD hS hl
  unfold fX4_cell_62 at hf
  refine lv_aload_n hx hb dX4_cell_62 rfl (lv_at hl 0 rfl) ?_
  refine va_get (D := D) (ci := 4) (v := .int d_latestFault) (C := RX4) (T := TX4) (N := 7) hx hb hts inX4 hown hK hP 0 rfl rfl 6 (by decide) (hts _ tw_129) (fun _ h9 => h9) rfl dX4_cell_63 ?_
  refine lv_if_ne (tgt := 79) hx hb dX4_cell_66 (by decide) (fun hc13 => ?_) (fun hc13 => ?_)
  · replace hf := (if_neg hc13).symm.trans hf
    refine lv_ldc2 hx hb hown (hts _ tw_411) dX4_cell_79 ?_
    replace hf := Option.some.inj hf
    obtain ⟨er0, er1⟩ := Prod.mk.inj hf
    clear hf 
    subst er0
    subst er1
    exact rt_l Cc hK hP hD hS dX4_cell_82
  · replace hf := (if_pos hc13).symm.trans hf
    refine lv_aload hx hb dX4_cell_69 (lv_at hl 2 rfl) ?_
    refine lv_iload_n hx hb dX4_cell_71 rfl (lv_at hl 1 rfl) ?_
    obtain ⟨q72_1, hq14, hf⟩ := Option.bind_eq_some_iff.mp hf
    refine cV (ws' := (W_D cI cS a_d a_f a_t a_r a_z a_f_kind a_f_wet a_g a_g_kind a_g_wet a_r_cells a_r_hours a_r_cracked a_s0 a_s0_row a_s1 a_s1_row a_s2 a_s2_row a_s3 a_s3_row d_hour d_traced d_latestFault f_kind f_wet f_wide f_rows f_cells f_sun f_all f_firstColumn f_lastColumn t_hours t_opened t_firstWrong g_kind g_wet g_wide g_rows g_cells g_sun g_all g_firstColumn g_lastColumn r_cells r_hours r_cracked r_count S_row S_lane S_length)) (rest := []) (st1 := [.int q72_1]) Cc hK hA hP hD hS hl.1 (ctX2_codeAt l D cI cS a_s1 a_s1_row (S_row 1) (S_lane 1) (S_length 1) x2 n q72_1 hq14) ⟨tw_183, tw_180, tw_181, tw_182, tw_5⟩ mdX2_codeAt ⟨rfl, rfl, Nat.le_of_ble_eq_true rfl, Nat.le_of_ble_eq_true rfl⟩ rfl dX4_cell_72 rfl (Nat.le_of_ble_eq_true rfl) ⟨Nat.zero_le _, Nat.zero_le _⟩ rfl rfl rfl [15, 16] [0, 1, 2, 3, 4, 5, 6, 7, 8, 9, 10, 11, 12, 13, 14, 17, 18, 19, 20] [0, 1, 2, 3, 4, 5, 6, 7, 8, 9, 10, 11, 12, 13, 14, 19, 20, 15, 16, 17, 18] rfl rfl (by decide) rfl (fun H locs hP hD hS => ?_)
    refine lv_i2l (v := (q72_1).toInt64) hx hb dX4_cell_75 rfl ?_
    refine lv_goto (tgt := 82) hx hb dX4_cell_76 (by decide) ?_
    replace hf := Option.some.inj hf
    obtain ⟨er0, er1⟩ := Prod.mk.inj hf
    clear hf 
    subst er0
    subst er1
    exact rt_l Cc hK hP hD hS dX4_cell_82
set_option maxHeartbeats 4000000 in
set_option maxRecDepth 100000 in
theorem bX4_cell_62_2 {p : Program} {l : Launch} {e : Env} {s : State} {m : MethodId} {args : Array Value} {below : List Frame} {meth : Method} {c : Code} {A : Nat → Prop} {D : va_G} {cI cS : ClassId} (a_d a_f a_t a_r a_z a_f_kind a_f_wet a_g a_g_kind a_g_wet a_r_cells a_r_hours a_r_cracked a_s0 a_s0_row a_s1 a_s1_row a_s2 a_s2_row a_s3 a_s3_row : Nat) (d_hour : Int32) (d_traced : Int32) (f_kind : Nat → Int32) (f_wet : Nat → Int32) (f_wide : Int32) (f_rows : Int32) (f_cells : Int32) (f_sun : Int32) (f_all : Int32) (f_firstColumn : Int32) (f_lastColumn : Int32) (t_hours : Int32) (t_opened : Int32) (t_firstWrong : Int32) (g_kind : Nat → Int32) (g_wet : Nat → Int32) (g_wide : Int32) (g_rows : Int32) (g_cells : Int32) (g_sun : Int32) (g_all : Int32) (g_firstColumn : Int32) (g_lastColumn : Int32) (r_cells : Nat → Int32) (r_hours : Nat → Int32) (r_cracked : Nat → Int32) (r_count : Int32) (Cc : Cx p s m args meth c RX4 cX4_cell 5 (some .long)) (hK : va_K D classes (tysA cI cS) s) (hA : ∀ q, s.heap.size ≤ q → A q) (n : Nat) : ∀ (d_latestFault : Int32) (S_row : Nat → Nat → Int32) (S_lane : Nat → Int32) (S_length : Nat → Int32) (x2 : Int32) (r : Int64) (d_latestFault' : Int32), fX4_cell_62 n d_latestFault S_row S_lane S_length 2 x2 = some (r, d_latestFault') → ∀ (H : Heap) (locs : List Loc) (ls : Array Slot), va_P D classes (W_D cI cS a_d a_f a_t a_r a_z a_f_kind a_f_wet a_g a_g_kind a_g_wet a_r_cells a_r_hours a_r_cracked a_s0 a_s0_row a_s1 a_s1_row a_s2 a_s2_row a_s3 a_s3_row d_hour d_traced d_latestFault f_kind f_wet f_wide f_rows f_cells f_sun f_all f_firstColumn f_lastColumn t_hours t_opened t_firstWrong g_kind g_wet g_wide g_rows g_cells g_sun g_all g_firstColumn g_lastColumn r_cells r_hours r_cracked r_count S_row S_lane S_length) H → va_D A (W_D cI cS a_d a_f a_t a_r a_z a_f_kind a_f_wet a_g a_g_kind a_g_wet a_r_cells a_r_hours a_r_cracked a_s0 a_s0_row a_s1 a_s1_row a_s2 a_s2_row a_s3 a_s3_row d_hour d_traced d_latestFault f_kind f_wet f_wide f_rows f_cells f_sun f_all f_firstColumn f_lastColumn t_hours t_opened t_firstWrong g_kind g_wet g_wide g_rows g_cells g_sun g_all g_firstColumn g_lastColumn r_cells r_hours r_cracked r_count S_row S_lane S_length) → va_S A s.heap H locs → lv_has ls 5 [(0, .ref a_d), (2, .int x2), (4, .ref a_s2)] → W p l e (Rm 2) s m args below meth c H locs 0 0 (MQ below (QW D (tysA cI cS) (some (.long r)) (W_D cI cS a_d a_f a_t a_r a_z a_f_kind a_f_wet a_g a_g_kind a_g_wet a_r_cells a_r_hours a_r_cracked a_s0 a_s0_row a_s1 a_s1_row a_s2 a_s2_row a_s3 a_s3_row d_hour d_traced d_latestFault' f_kind f_wet f_wide f_rows f_cells f_sun f_all f_firstColumn f_lastColumn t_hours t_opened t_firstWrong g_kind g_wet g_wide g_rows g_cells g_sun g_all g_firstColumn g_lastColumn r_cells r_hours r_cracked r_count S_row S_lane S_length) A) args s 0 0 A) (F0 m 62 ls []) := by
  obtain ⟨hx, hb, hr, hml, hown, hts, hlk, hnw⟩ := id Cc
  intro d_latestFault S_row S_lane S_length x2 r d_latestFault' hf H locs ls hP hD hS hl
  unfold fX4_cell_62 at hf
  refine lv_aload_n hx hb dX4_cell_62 rfl (lv_at hl 0 rfl) ?_
  refine va_get (D := D) (ci := 4) (v := .int d_latestFault) (C := RX4) (T := TX4) (N := 7) hx hb hts inX4 hown hK hP 0 rfl rfl 6 (by decide) (hts _ tw_129) (fun _ h9 => h9) rfl dX4_cell_63 ?_
  refine lv_if_ne (tgt := 79) hx hb dX4_cell_66 (by decide) (fun hc19 => ?_) (fun hc19 => ?_)
  · replace hf := (if_neg hc19).symm.trans hf
    refine lv_ldc2 hx hb hown (hts _ tw_411) dX4_cell_79 ?_
    replace hf := Option.some.inj hf
    obtain ⟨er0, er1⟩ := Prod.mk.inj hf
    clear hf 
    subst er0
    subst er1
    exact rt_l Cc hK hP hD hS dX4_cell_82
  · replace hf := (if_pos hc19).symm.trans hf
    refine lv_aload hx hb dX4_cell_69 (lv_at hl 2 rfl) ?_
    refine lv_iload_n hx hb dX4_cell_71 rfl (lv_at hl 1 rfl) ?_
    obtain ⟨q72_1, hq20, hf⟩ := Option.bind_eq_some_iff.mp hf
    refine cV (ws' := (W_D cI cS a_d a_f a_t a_r a_z a_f_kind a_f_wet a_g a_g_kind a_g_wet a_r_cells a_r_hours a_r_cracked a_s0 a_s0_row a_s1 a_s1_row a_s2 a_s2_row a_s3 a_s3_row d_hour d_traced d_latestFault f_kind f_wet f_wide f_rows f_cells f_sun f_all f_firstColumn f_lastColumn t_hours t_opened t_firstWrong g_kind g_wet g_wide g_rows g_cells g_sun g_all g_firstColumn g_lastColumn r_cells r_hours r_cracked r_count S_row S_lane S_length)) (rest := []) (st1 := [.int q72_1]) Cc hK hA hP hD hS hl.1 (ctX2_codeAt l D cI cS a_s2 a_s2_row (S_row 2) (S_lane 2) (S_length 2) x2 n q72_1 hq20) ⟨tw_183, tw_180, tw_181, tw_182, tw_5⟩ mdX2_codeAt ⟨rfl, rfl, Nat.le_of_ble_eq_true rfl, Nat.le_of_ble_eq_true rfl⟩ rfl dX4_cell_72 rfl (Nat.le_of_ble_eq_true rfl) ⟨Nat.zero_le _, Nat.zero_le _⟩ rfl rfl rfl [17, 18] [0, 1, 2, 3, 4, 5, 6, 7, 8, 9, 10, 11, 12, 13, 14, 15, 16, 19, 20] [0, 1, 2, 3, 4, 5, 6, 7, 8, 9, 10, 11, 12, 13, 14, 15, 16, 19, 20, 17, 18] rfl rfl (by decide) rfl (fun H locs hP hD hS => ?_)
    refine lv_i2l (v := (q72_1).toInt64) hx hb dX4_cell_75 rfl ?_
    refine lv_goto (tgt := 82) hx hb dX4_cell_76 (by decide) ?_
    replace hf := Option.some.inj hf
    obtain ⟨er0, er1⟩ := Prod.mk.inj hf
    clear hf 
    subst er0
    subst er1
    exact rt_l Cc hK hP hD hS dX4_cell_82
set_option maxHeartbeats 4000000 in
set_option maxRecDepth 100000 in
theorem bX4_cell_62_3 {p : Program} {l : Launch} {e : Env} {s : State} {m : MethodId} {args : Array Value} {below : List Frame} {meth : Method} {c : Code} {A : Nat → Prop} {D : va_G} {cI cS : ClassId} (a_d a_f a_t a_r a_z a_f_kind a_f_wet a_g a_g_kind a_g_wet a_r_cells a_r_hours a_r_cracked a_s0 a_s0_row a_s1 a_s1_row a_s2 a_s2_row a_s3 a_s3_row : Nat) (d_hour : Int32) (d_traced : Int32) (f_kind : Nat → Int32) (f_wet : Nat → Int32) (f_wide : Int32) (f_rows : Int32) (f_cells : Int32) (f_sun : Int32) (f_all : Int32) (f_firstColumn : Int32) (f_lastColumn : Int32) (t_hours : Int32) (t_opened : Int32) (t_firstWrong : Int32) (g_kind : Nat → Int32) (g_wet : Nat → Int32) (g_wide : Int32) (g_rows : Int32) (g_cells : Int32) (g_sun : Int32) (g_all : Int32) (g_firstColumn : Int32) (g_lastColumn : Int32) (r_cells : Nat → Int32) (r_hours : Nat → Int32) (r_cracked : Nat → Int32) (r_count : Int32) (Cc : Cx p s m args meth c RX4 cX4_cell 5 (some .long)) (hK : va_K D classes (tysA cI cS) s) (hA : ∀ q, s.heap.size ≤ q → A q) (n : Nat) : ∀ (d_latestFault : Int32) (S_row : Nat → Nat → Int32) (S_lane : Nat → Int32) (S_length : Nat → Int32) (x2 : Int32) (r : Int64) (d_latestFault' : Int32), fX4_cell_62 n d_latestFault S_row S_lane S_length 3 x2 = some (r, d_latestFault') → ∀ (H : Heap) (locs : List Loc) (ls : Array Slot), va_P D classes (W_D cI cS a_d a_f a_t a_r a_z a_f_kind a_f_wet a_g a_g_kind a_g_wet a_r_cells a_r_hours a_r_cracked a_s0 a_s0_row a_s1 a_s1_row a_s2 a_s2_row a_s3 a_s3_row d_hour d_traced d_latestFault f_kind f_wet f_wide f_rows f_cells f_sun f_all f_firstColumn f_lastColumn t_hours t_opened t_firstWrong g_kind g_wet g_wide g_rows g_cells g_sun g_all g_firstColumn g_lastColumn r_cells r_hours r_cracked r_count S_row S_lane S_length) H → va_D A (W_D cI cS a_d a_f a_t a_r a_z a_f_kind a_f_wet a_g a_g_kind a_g_wet a_r_cells a_r_hours a_r_cracked a_s0 a_s0_row a_s1 a_s1_row a_s2 a_s2_row a_s3 a_s3_row d_hour d_traced d_latestFault f_kind f_wet f_wide f_rows f_cells f_sun f_all f_firstColumn f_lastColumn t_hours t_opened t_firstWrong g_kind g_wet g_wide g_rows g_cells g_sun g_all g_firstColumn g_lastColumn r_cells r_hours r_cracked r_count S_row S_lane S_length) → va_S A s.heap H locs → lv_has ls 5 [(0, .ref a_d), (2, .int x2), (4, .ref a_s3)] → W p l e (Rm 2) s m args below meth c H locs 0 0 (MQ below (QW D (tysA cI cS) (some (.long r)) (W_D cI cS a_d a_f a_t a_r a_z a_f_kind a_f_wet a_g a_g_kind a_g_wet a_r_cells a_r_hours a_r_cracked a_s0 a_s0_row a_s1 a_s1_row a_s2 a_s2_row a_s3 a_s3_row d_hour d_traced d_latestFault' f_kind f_wet f_wide f_rows f_cells f_sun f_all f_firstColumn f_lastColumn t_hours t_opened t_firstWrong g_kind g_wet g_wide g_rows g_cells g_sun g_all g_firstColumn g_lastColumn r_cells r_hours r_cracked r_count S_row S_lane S_length) A) args s 0 0 A) (F0 m 62 ls []) := by
  obtain ⟨hx, hb, hr, hml, hown, hts, hlk, hnw⟩ := id Cc
  intro d_latestFault S_row S_lane S_length x2 r d_latestFault' hf H locs ls hP hD hS hl
  unfold fX4_cell_62 at hf
  refine lv_aload_n hx hb dX4_cell_62 rfl (lv_at hl 0 rfl) ?_
  refine va_get (D := D) (ci := 4) (v := .int d_latestFault) (C := RX4) (T := TX4) (N := 7) hx hb hts inX4 hown hK hP 0 rfl rfl 6 (by decide) (hts _ tw_129) (fun _ h9 => h9) rfl dX4_cell_63 ?_
  refine lv_if_ne (tgt := 79) hx hb dX4_cell_66 (by decide) (fun hc25 => ?_) (fun hc25 => ?_)
  · replace hf := (if_neg hc25).symm.trans hf
    refine lv_ldc2 hx hb hown (hts _ tw_411) dX4_cell_79 ?_
    replace hf := Option.some.inj hf
    obtain ⟨er0, er1⟩ := Prod.mk.inj hf
    clear hf 
    subst er0
    subst er1
    exact rt_l Cc hK hP hD hS dX4_cell_82
  · replace hf := (if_pos hc25).symm.trans hf
    refine lv_aload hx hb dX4_cell_69 (lv_at hl 2 rfl) ?_
    refine lv_iload_n hx hb dX4_cell_71 rfl (lv_at hl 1 rfl) ?_
    obtain ⟨q72_1, hq26, hf⟩ := Option.bind_eq_some_iff.mp hf
    refine cV (ws' := (W_D cI cS a_d a_f a_t a_r a_z a_f_kind a_f_wet a_g a_g_kind a_g_wet a_r_cells a_r_hours a_r_cracked a_s0 a_s0_row a_s1 a_s1_row a_s2 a_s2_row a_s3 a_s3_row d_hour d_traced d_latestFault f_kind f_wet f_wide f_rows f_cells f_sun f_all f_firstColumn f_lastColumn t_hours t_opened t_firstWrong g_kind g_wet g_wide g_rows g_cells g_sun g_all g_firstColumn g_lastColumn r_cells r_hours r_cracked r_count S_row S_lane S_length)) (rest := []) (st1 := [.int q72_1]) Cc hK hA hP hD hS hl.1 (ctX2_codeAt l D cI cS a_s3 a_s3_row (S_row 3) (S_lane 3) (S_length 3) x2 n q72_1 hq26) ⟨tw_183, tw_180, tw_181, tw_182, tw_5⟩ mdX2_codeAt ⟨rfl, rfl, Nat.le_of_ble_eq_true rfl, Nat.le_of_ble_eq_true rfl⟩ rfl dX4_cell_72 rfl (Nat.le_of_ble_eq_true rfl) ⟨Nat.zero_le _, Nat.zero_le _⟩ rfl rfl rfl [19, 20] [0, 1, 2, 3, 4, 5, 6, 7, 8, 9, 10, 11, 12, 13, 14, 15, 16, 17, 18] [0, 1, 2, 3, 4, 5, 6, 7, 8, 9, 10, 11, 12, 13, 14, 15, 16, 17, 18, 19, 20] rfl rfl (by decide) rfl (fun H locs hP hD hS => ?_)
    refine lv_i2l (v := (q72_1).toInt64) hx hb dX4_cell_75 rfl ?_
    refine lv_goto (tgt := 82) hx hb dX4_cell_76 (by decide) ?_
    replace hf := Option.some.inj hf
    obtain ⟨er0, er1⟩ := Prod.mk.inj hf
    clear hf 
    subst er0
    subst er1
    exact rt_l Cc hK hP hD hS dX4_cell_82
set_option maxHeartbeats 4000000 in
set_option maxRecDepth 100000 in
theorem ctX4_cell (l : Launch) (D : va_G) (cI cS : ClassId) (a_d a_f a_t a_r a_z a_f_kind a_f_wet a_g a_g_kind a_g_wet a_r_cells a_r_hours a_r_cracked a_s0 a_s0_row a_s1 a_s1_row a_s2 a_s2_row a_s3 a_s3_row : Nat) (d_hour : Int32) (d_traced : Int32) (d_latestFault : Int32) (f_kind : Nat → Int32) (f_wet : Nat → Int32) (f_wide : Int32) (f_rows : Int32) (f_cells : Int32) (f_sun : Int32) (f_all : Int32) (f_firstColumn : Int32) (f_lastColumn : Int32) (t_hours : Int32) (t_opened : Int32) (t_firstWrong : Int32) (g_kind : Nat → Int32) (g_wet : Nat → Int32) (g_wide : Int32) (g_rows : Int32) (g_cells : Int32) (g_sun : Int32) (g_all : Int32) (g_firstColumn : Int32) (g_lastColumn : Int32) (r_cells : Nat → Int32) (r_hours : Nat → Int32) (r_cracked : Nat → Int32) (r_count : Int32) (S_row : Nat → Nat → Int32) (S_lane : Nat → Int32) (S_length : Nat → Int32) (p1 : Int32) (p2 : Int32) (p3 : Int32) (n : Nat) (r : Int64) (d_latestFault' : Int32) (hf : fX4_cell n d_latestFault S_row S_lane S_length p1 p2 p3 = some (r, d_latestFault')) : Ct l D (tysA cI cS) yX4_cell cX4_cell 5 (some .long) (Rm 2) [.ref a_d, .int p1, .int p2, .int p3] (W_D cI cS a_d a_f a_t a_r a_z a_f_kind a_f_wet a_g a_g_kind a_g_wet a_r_cells a_r_hours a_r_cracked a_s0 a_s0_row a_s1 a_s1_row a_s2 a_s2_row a_s3 a_s3_row d_hour d_traced d_latestFault f_kind f_wet f_wide f_rows f_cells f_sun f_all f_firstColumn f_lastColumn t_hours t_opened t_firstWrong g_kind g_wet g_wide g_rows g_cells g_sun g_all g_firstColumn g_lastColumn r_cells r_hours r_cracked r_count S_row S_lane S_length) (some (.long r)) (W_D cI cS a_d a_f a_t a_r a_z a_f_kind a_f_wet a_g a_g_kind a_g_wet a_r_cells a_r_hours a_r_cracked a_s0 a_s0_row a_s1 a_s1_row a_s2 a_s2_row a_s3 a_s3_row d_hour d_traced d_latestFault' f_kind f_wet f_wide f_rows f_cells f_sun f_all f_firstColumn f_lastColumn t_hours t_opened t_firstWrong g_kind g_wet g_wide g_rows g_cells g_sun g_all g_firstColumn g_lastColumn r_cells r_hours r_cracked r_count S_row S_lane S_length) := by
  refine Ct_of (by decide) (Nat.le_of_ble_eq_true rfl) ?_
  intro p e s m args below meth c A ls Cc hK hA hP hD hS hl
  have hl : lv_has ls 5 [(0, .ref a_d), (1, .int p1), (2, .int p2), (3, .int p3)] := hl
  obtain ⟨hx, hb, hr, hml, hown, hts, hlk, hnw⟩ := id Cc
  unfold fX4_cell at hf
  refine lv_aload_n hx hb dX4_cell_0 rfl (lv_at hl 0 rfl) ?_
  refine lv_iconst (v := (0 : Int32)) hx hb dX4_cell_1 (by decide) ?_
  refine va_put (D := D) (ci := 4) (v := .int (0 : Int32)) (ty := .int) (C := RX4) (T := TX4) (N := 7) hx hb hts inX4 tyX4 tyX4_ok nmX4 hown hK hP hD hS 0 rfl rfl 6 (by decide) (hts _ tw_129) (fun _ h9 => h9) rfl (tyX4_ok 6 (by decide)) rfl rfl (Nat.le_of_ble_eq_true rfl) dX4_cell_2 (fun H locs hP hD hS => ?_)
  have hP : va_P D classes (W_D cI cS a_d a_f a_t a_r a_z a_f_kind a_f_wet a_g a_g_kind a_g_wet a_r_cells a_r_hours a_r_cracked a_s0 a_s0_row a_s1 a_s1_row a_s2 a_s2_row a_s3 a_s3_row d_hour d_traced (0 : Int32) f_kind f_wet f_wide f_rows f_cells f_sun f_all f_firstColumn f_lastColumn t_hours t_opened t_firstWrong g_kind g_wet g_wide g_rows g_cells g_sun g_all g_firstColumn g_lastColumn r_cells r_hours r_cracked r_count S_row S_lane S_length) H := hP
  have hD : va_D A (W_D cI cS a_d a_f a_t a_r a_z a_f_kind a_f_wet a_g a_g_kind a_g_wet a_r_cells a_r_hours a_r_cracked a_s0 a_s0_row a_s1 a_s1_row a_s2 a_s2_row a_s3 a_s3_row d_hour d_traced (0 : Int32) f_kind f_wet f_wide f_rows f_cells f_sun f_all f_firstColumn f_lastColumn t_hours t_opened t_firstWrong g_kind g_wet g_wide g_rows g_cells g_sun g_all g_firstColumn g_lastColumn r_cells r_hours r_cracked r_count S_row S_lane S_length) := hD
  refine lv_iload_n hx hb dX4_cell_5 rfl (lv_at hl 1 rfl) ?_
  obtain ⟨q6_1, hq1, hf⟩ := Option.bind_eq_some_iff.mp hf
  refine cSt (ws' := (W_D cI cS a_d a_f a_t a_r a_z a_f_kind a_f_wet a_g a_g_kind a_g_wet a_r_cells a_r_hours a_r_cracked a_s0 a_s0_row a_s1 a_s1_row a_s2 a_s2_row a_s3 a_s3_row d_hour d_traced (0 : Int32) f_kind f_wet f_wide f_rows f_cells f_sun f_all f_firstColumn f_lastColumn t_hours t_opened t_firstWrong g_kind g_wet g_wide g_rows g_cells g_sun g_all g_firstColumn g_lastColumn r_cells r_hours r_cracked r_count S_row S_lane S_length)) (rest := []) (st1 := [.int q6_1]) Cc hK hA hP hD hS hl.1 (ctX4_isSheet l D cI cS   p1 n q6_1 hq1) ⟨tw_151, tw_149, tw_150, tw_1⟩ mdX4_isSheet ⟨rfl, rfl, Nat.le_of_ble_eq_true rfl, Nat.le_of_ble_eq_true rfl⟩ rfl dX4_cell_6 rfl (Nat.le_of_ble_eq_true rfl) ⟨Nat.zero_le _, Nat.zero_le _⟩ rfl [] [0, 1, 2, 3, 4, 5, 6, 7, 8, 9, 10, 11, 12, 13, 14, 15, 16, 17, 18, 19, 20] [0, 1, 2, 3, 4, 5, 6, 7, 8, 9, 10, 11, 12, 13, 14, 15, 16, 17, 18, 19, 20] rfl rfl (by decide) rfl (fun H locs hP hD hS => ?_)
  refine lv_if_eq (tgt := 19) hx hb dX4_cell_9 (by decide) (fun hc2 => ?_) (fun hc2 => ?_)
  · replace hf := (if_pos hc2).symm.trans hf
    refine lv_ldc2 hx hb hown (hts _ tw_411) dX4_cell_19 ?_
    replace hf := Option.some.inj hf
    obtain ⟨er0, er1⟩ := Prod.mk.inj hf
    clear hf 
    subst er0
    subst er1
    exact rt_l Cc hK hP hD hS dX4_cell_22
  · replace hf := (if_neg hc2).symm.trans hf
    refine lv_iload_n hx hb dX4_cell_12 rfl (lv_at hl 3 rfl) ?_
    obtain ⟨q13_1, hq3, hf⟩ := Option.bind_eq_some_iff.mp hf
    refine cSt (ws' := (W_D cI cS a_d a_f a_t a_r a_z a_f_kind a_f_wet a_g a_g_kind a_g_wet a_r_cells a_r_hours a_r_cracked a_s0 a_s0_row a_s1 a_s1_row a_s2 a_s2_row a_s3 a_s3_row d_hour d_traced (0 : Int32) f_kind f_wet f_wide f_rows f_cells f_sun f_all f_firstColumn f_lastColumn t_hours t_opened t_firstWrong g_kind g_wet g_wide g_rows g_cells g_sun g_all g_firstColumn g_lastColumn r_cells r_hours r_cracked r_count S_row S_lane S_length)) (rest := []) (st1 := [.int q13_1]) Cc hK hA hP hD hS hl.1 (ctX4_isLane l D cI cS   p3 n q13_1 hq3) ⟨tw_157, tw_155, tw_156, tw_1⟩ mdX4_isLane ⟨rfl, rfl, Nat.le_of_ble_eq_true rfl, Nat.le_of_ble_eq_true rfl⟩ rfl dX4_cell_13 rfl (Nat.le_of_ble_eq_true rfl) ⟨Nat.zero_le _, Nat.zero_le _⟩ rfl [] [0, 1, 2, 3, 4, 5, 6, 7, 8, 9, 10, 11, 12, 13, 14, 15, 16, 17, 18, 19, 20] [0, 1, 2, 3, 4, 5, 6, 7, 8, 9, 10, 11, 12, 13, 14, 15, 16, 17, 18, 19, 20] rfl rfl (by decide) rfl (fun H locs hP hD hS => ?_)
    refine lv_if_ne (tgt := 23) hx hb dX4_cell_16 (by decide) (fun hc4 => ?_) (fun hc4 => ?_)
    · replace hf := (if_neg hc4).symm.trans hf
      refine lv_aload_n hx hb dX4_cell_23 rfl (lv_at hl 0 rfl) ?_
      refine va_get (D := D) (ci := 4) (v := .ref a_z) (C := RX4) (T := TX4) (N := 7) hx hb hts inX4 hown hK hP 0 rfl rfl 3 (by decide) (hts _ tw_126) (fun _ h9 => h9) rfl dX4_cell_24 ?_
      refine lv_iload_n hx hb dX4_cell_27 rfl (lv_at hl 1 rfl) ?_
      obtain ⟨hin, hf⟩ := gd_some hf
      refine va_aldq hx hb hK hP 12 1 rfl rfl hin dX4_cell_28 ?_
      obtain ⟨j, hj, hjx⟩ : ∃ j, j < 4 ∧ p1.toNatClampNeg = j := ⟨_, Nat.not_le.mp fun q => hin (Or.inr q), rfl⟩
      rw [hjx] at hf ⊢
      clear hin hjx
      rcases (show j = 0 ∨ j = 1 ∨ j = 2 ∨ j = 3 by omega) with rfl | rfl | rfl | rfl
      · refine W.eq (g2 := F0 m 29 ls [.ref a_s0]) rfl ?_
        refine lv_astore (lv' := [(4, .ref a_s0), (0, .ref a_d), (1, .int p1), (2, .int p2), (3, .int p3)]) hx hb dX4_cell_29 hl (by decide) rfl (fun ls hl => ?_)
        refine lv_aload_n hx hb dX4_cell_31 rfl (lv_at hl 1 rfl) ?_
        refine lv_aload hx hb dX4_cell_32 (lv_at hl 0 rfl) ?_
        refine lv_iload_n hx hb dX4_cell_34 rfl (lv_at hl 4 rfl) ?_
        obtain ⟨q35_1, hq5, hf⟩ := Option.bind_eq_some_iff.mp hf
        refine cV (ws' := (W_D cI cS a_d a_f a_t a_r a_z a_f_kind a_f_wet a_g a_g_kind a_g_wet a_r_cells a_r_hours a_r_cracked a_s0 a_s0_row a_s1 a_s1_row a_s2 a_s2_row a_s3 a_s3_row d_hour d_traced (0 : Int32) f_kind f_wet f_wide f_rows f_cells f_sun f_all f_firstColumn f_lastColumn t_hours t_opened t_firstWrong g_kind g_wet g_wide g_rows g_cells g_sun g_all g_firstColumn g_lastColumn r_cells r_hours r_cracked r_count S_row S_lane S_length)) (rest := [.ref a_d]) (st1 := [.int q35_1, .ref a_d]) Cc hK hA hP hD hS hl.1 (ctX2_faultAs l D cI cS a_s0 a_s0_row (S_row 0) (S_lane 0) (S_length 0) p3 n q35_1 hq5) ⟨tw_161, tw_158, tw_159, tw_160, tw_5⟩ mdX2_faultAs ⟨rfl, rfl, Nat.le_of_ble_eq_true rfl, Nat.le_of_ble_eq_true rfl⟩ rfl dX4_cell_35 rfl (Nat.le_of_ble_eq_true rfl) ⟨Nat.zero_le _, Nat.zero_le _⟩ rfl rfl rfl [13, 14] [0, 1, 2, 3, 4, 5, 6, 7, 8, 9, 10, 11, 12, 15, 16, 17, 18, 19, 20] [0, 1, 2, 3, 4, 5, 6, 7, 8, 9, 10, 11, 12, 19, 20, 13, 14, 15, 16, 17, 18] rfl rfl (by decide) rfl (fun H locs hP hD hS => ?_)
        refine va_put (D := D) (ci := 4) (v := .int q35_1) (ty := .int) (C := RX4) (T := TX4) (N := 7) hx hb hts inX4 tyX4 tyX4_ok nmX4 hown hK hP hD hS 0 rfl rfl 6 (by decide) (hts _ tw_129) (fun _ h9 => h9) rfl (tyX4_ok 6 (by decide)) rfl rfl (Nat.le_of_ble_eq_true rfl) dX4_cell_38 (fun H locs hP hD hS => ?_)
        have hP : va_P D classes (W_D cI cS a_d a_f a_t a_r a_z a_f_kind a_f_wet a_g a_g_kind a_g_wet a_r_cells a_r_hours a_r_cracked a_s0 a_s0_row a_s1 a_s1_row a_s2 a_s2_row a_s3 a_s3_row d_hour d_traced q35_1 f_kind f_wet f_wide f_rows f_cells f_sun f_all f_firstColumn f_lastColumn t_hours t_opened t_firstWrong g_kind g_wet g_wide g_rows g_cells g_sun g_all g_firstColumn g_lastColumn r_cells r_hours r_cracked r_count S_row S_lane S_length) H := hP
        have hD : va_D A (W_D cI cS a_d a_f a_t a_r a_z a_f_kind a_f_wet a_g a_g_kind a_g_wet a_r_cells a_r_hours a_r_cracked a_s0 a_s0_row a_s1 a_s1_row a_s2 a_s2_row a_s3 a_s3_row d_hour d_traced q35_1 f_kind f_wet f_wide f_rows f_cells f_sun f_all f_firstColumn f_lastColumn t_hours t_opened t_firstWrong g_kind g_wet g_wide g_rows g_cells g_sun g_all g_firstColumn g_lastColumn r_cells r_hours r_cracked r_count S_row S_lane S_length) := hD
        refine lv_aload_n hx hb dX4_cell_41 rfl (lv_at hl 1 rfl) ?_
        refine va_get (D := D) (ci := 4) (v := .int q35_1) (C := RX4) (T := TX4) (N := 7) hx hb hts inX4 hown hK hP 0 rfl rfl 6 (by decide) (hts _ tw_129) (fun _ h9 => h9) rfl dX4_cell_42 ?_
        refine lv_if_ne (tgt := 62) hx hb dX4_cell_45 (by decide) (fun hc6 => ?_) (fun hc6 => ?_)
        · replace hf := (if_neg hc6).symm.trans hf
          exact bX4_cell_62_0 a_d a_f a_t a_r a_z a_f_kind a_f_wet a_g a_g_kind a_g_wet a_r_cells a_r_hours a_r_cracked a_s0 a_s0_row a_s1 a_s1_row a_s2 a_s2_row a_s3 a_s3_row d_hour d_traced f_kind f_wet f_wide f_rows f_cells f_sun f_all f_firstColumn f_lastColumn t_hours t_opened t_firstWrong g_kind g_wet g_wide g_rows g_cells g_sun g_all g_firstColumn g_lastColumn r_cells r_hours r_cracked r_count Cc hK hA n _ _ _ _ _ _ _ hf _ _ _ hP hD hS (lv_sub hl [1, 3, 0] rfl)
        · replace hf := (if_pos hc6).symm.trans hf
          refine lv_aload hx hb dX4_cell_48 (lv_at hl 0 rfl) ?_
          refine lv_iload_n hx hb dX4_cell_50 rfl (lv_at hl 3 rfl) ?_
          obtain ⟨q51_1, hq9, hf⟩ := Option.bind_eq_some_iff.mp hf
          refine cV (ws' := (W_D cI cS a_d a_f a_t a_r a_z a_f_kind a_f_wet a_g a_g_kind a_g_wet a_r_cells a_r_hours a_r_cracked a_s0 a_s0_row a_s1 a_s1_row a_s2 a_s2_row a_s3 a_s3_row d_hour d_traced q35_1 f_kind f_wet f_wide f_rows f_cells f_sun f_all f_firstColumn f_lastColumn t_hours t_opened t_firstWrong g_kind g_wet g_wide g_rows g_cells g_sun g_all g_firstColumn g_lastColumn r_cells r_hours r_cracked r_count S_row S_lane S_length)) (rest := []) (st1 := [.int q51_1]) Cc hK hA hP hD hS hl.1 (ctX2_hasPlace l D cI cS a_s0 a_s0_row (S_row 0) (S_lane 0) (S_length 0) p2 n q51_1 hq9) ⟨tw_187, tw_437, tw_185, tw_186, tw_5⟩ mdX2_hasPlace ⟨rfl, rfl, Nat.le_of_ble_eq_true rfl, Nat.le_of_ble_eq_true rfl⟩ rfl dX4_cell_51 rfl (Nat.le_of_ble_eq_true rfl) ⟨Nat.zero_le _, Nat.zero_le _⟩ rfl rfl rfl [13, 14] [0, 1, 2, 3, 4, 5, 6, 7, 8, 9, 10, 11, 12, 15, 16, 17, 18, 19, 20] [0, 1, 2, 3, 4, 5, 6, 7, 8, 9, 10, 11, 12, 19, 20, 13, 14, 15, 16, 17, 18] rfl rfl (by decide) rfl (fun H locs hP hD hS => ?_)
          refine lv_if_ne (tgt := 62) hx hb dX4_cell_54 (by decide) (fun hc10 => ?_) (fun hc10 => ?_)
          · replace hf := (if_neg hc10).symm.trans hf
            exact bX4_cell_62_0 a_d a_f a_t a_r a_z a_f_kind a_f_wet a_g a_g_kind a_g_wet a_r_cells a_r_hours a_r_cracked a_s0 a_s0_row a_s1 a_s1_row a_s2 a_s2_row a_s3 a_s3_row d_hour d_traced f_kind f_wet f_wide f_rows f_cells f_sun f_all f_firstColumn f_lastColumn t_hours t_opened t_firstWrong g_kind g_wet g_wide g_rows g_cells g_sun g_all g_firstColumn g_lastColumn r_cells r_hours r_cracked r_count Cc hK hA n _ _ _ _ _ _ _ hf _ _ _ hP hD hS (lv_sub hl [1, 3, 0] rfl)
          · replace hf := (if_pos hc10).symm.trans hf
            refine lv_aload_n hx hb dX4_cell_57 rfl (lv_at hl 1 rfl) ?_
            refine lv_iconst (v := (3 : Int32)) hx hb dX4_cell_58 (by decide) ?_
            refine va_put (D := D) (ci := 4) (v := .int (3 : Int32)) (ty := .int) (C := RX4) (T := TX4) (N := 7) hx hb hts inX4 tyX4 tyX4_ok nmX4 hown hK hP hD hS 0 rfl rfl 6 (by decide) (hts _ tw_129) (fun _ h9 => h9) rfl (tyX4_ok 6 (by decide)) rfl rfl (Nat.le_of_ble_eq_true rfl) dX4_cell_59 (fun H locs hP hD hS => ?_)
            have hP : va_P D classes (W_D cI cS a_d a_f a_t a_r a_z a_f_kind a_f_wet a_g a_g_kind a_g_wet a_r_cells a_r_hours a_r_cracked a_s0 a_s0_row a_s1 a_s1_row a_s2 a_s2_row a_s3 a_s3_row d_hour d_traced (3 : Int32) f_kind f_wet f_wide f_rows f_cells f_sun f_all f_firstColumn f_lastColumn t_hours t_opened t_firstWrong g_kind g_wet g_wide g_rows g_cells g_sun g_all g_firstColumn g_lastColumn r_cells r_hours r_cracked r_count S_row S_lane S_length) H := hP
            have hD : va_D A (W_D cI cS a_d a_f a_t a_r a_z a_f_kind a_f_wet a_g a_g_kind a_g_wet a_r_cells a_r_hours a_r_cracked a_s0 a_s0_row a_s1 a_s1_row a_s2 a_s2_row a_s3 a_s3_row d_hour d_traced (3 : Int32) f_kind f_wet f_wide f_rows f_cells f_sun f_all f_firstColumn f_lastColumn t_hours t_opened t_firstWrong g_kind g_wet g_wide g_rows g_cells g_sun g_all g_firstColumn g_lastColumn r_cells r_hours r_cracked r_count S_row S_lane S_length) := hD
            exact bX4_cell_62_0 a_d a_f a_t a_r a_z a_f_kind a_f_wet a_g a_g_kind a_g_wet a_r_cells a_r_hours a_r_cracked a_s0 a_s0_row a_s1 a_s1_row a_s2 a_s2_row a_s3 a_s3_row d_hour d_traced f_kind f_wet f_wide f_rows f_cells f_sun f_all f_firstColumn f_lastColumn t_hours t_opened t_firstWrong g_kind g_wet g_wide g_rows g_cells g_sun g_all g_firstColumn g_lastColumn r_cells r_hours r_cracked r_count Cc hK hA n _ _ _ _ _ _ _ hf _ _ _ hP hD hS (lv_sub hl [1, 3, 0] rfl)
      · refine W.eq (g2 := F0 m 29 ls [.ref a_s1]) rfl ?_
        refine lv_astore (lv' := [(4, .ref a_s1), (0, .ref a_d), (1, .int p1), (2, .int p2), (3, .int p3)]) hx hb dX4_cell_29 hl (by decide) rfl (fun ls hl => ?_)
        refine lv_aload_n hx hb dX4_cell_31 rfl (lv_at hl 1 rfl) ?_
        refine lv_aload hx hb dX4_cell_32 (lv_at hl 0 rfl) ?_
        refine lv_iload_n hx hb dX4_cell_34 rfl (lv_at hl 4 rfl) ?_
        obtain ⟨q35_1, hq11, hf⟩ := Option.bind_eq_some_iff.mp hf
        refine cV (ws' := (W_D cI cS a_d a_f a_t a_r a_z a_f_kind a_f_wet a_g a_g_kind a_g_wet a_r_cells a_r_hours a_r_cracked a_s0 a_s0_row a_s1 a_s1_row a_s2 a_s2_row a_s3 a_s3_row d_hour d_traced (0 : Int32) f_kind f_wet f_wide f_rows f_cells f_sun f_all f_firstColumn f_lastColumn t_hours t_opened t_firstWrong g_kind g_wet g_wide g_rows g_cells g_sun g_all g_firstColumn g_lastColumn r_cells r_hours r_cracked r_count S_row S_lane S_length)) (rest := [.ref a_d]) (st1 := [.int q35_1, .ref a_d]) Cc hK hA hP hD hS hl.1 (ctX2_faultAs l D cI cS a_s1 a_s1_row (S_row 1) (S_lane 1) (S_length 1) p3 n q35_1 hq11) ⟨tw_161, tw_158, tw_159, tw_160, tw_5⟩ mdX2_faultAs ⟨rfl, rfl, Nat.le_of_ble_eq_true rfl, Nat.le_of_ble_eq_true rfl⟩ rfl dX4_cell_35 rfl (Nat.le_of_ble_eq_true rfl) ⟨Nat.zero_le _, Nat.zero_le _⟩ rfl rfl rfl [15, 16] [0, 1, 2, 3, 4, 5, 6, 7, 8, 9, 10, 11, 12, 13, 14, 17, 18, 19, 20] [0, 1, 2, 3, 4, 5, 6, 7, 8, 9, 10, 11, 12, 13, 14, 19, 20, 15, 16, 17, 18] rfl rfl (by decide) rfl (fun H locs hP hD hS => ?_)
        refine va_put (D := D) (ci := 4) (v := .int q35_1) (ty := .int) (C := RX4) (T := TX4) (N := 7) hx hb hts inX4 tyX4 tyX4_ok nmX4 hown hK hP hD hS 0 rfl rfl 6 (by decide) (hts _ tw_129) (fun _ h9 => h9) rfl (tyX4_ok 6 (by decide)) rfl rfl (Nat.le_of_ble_eq_true rfl) dX4_cell_38 (fun H locs hP hD hS => ?_)
        have hP : va_P D classes (W_D cI cS a_d a_f a_t a_r a_z a_f_kind a_f_wet a_g a_g_kind a_g_wet a_r_cells a_r_hours a_r_cracked a_s0 a_s0_row a_s1 a_s1_row a_s2 a_s2_row a_s3 a_s3_row d_hour d_traced q35_1 f_kind f_wet f_wide f_rows f_cells f_sun f_all f_firstColumn f_lastColumn t_hours t_opened t_firstWrong g_kind g_wet g_wide g_rows g_cells g_sun g_all g_firstColumn g_lastColumn r_cells r_hours r_cracked r_count S_row S_lane S_length) H := hP
        have hD : va_D A (W_D cI cS a_d a_f a_t a_r a_z a_f_kind a_f_wet a_g a_g_kind a_g_wet a_r_cells a_r_hours a_r_cracked a_s0 a_s0_row a_s1 a_s1_row a_s2 a_s2_row a_s3 a_s3_row d_hour d_traced q35_1 f_kind f_wet f_wide f_rows f_cells f_sun f_all f_firstColumn f_lastColumn t_hours t_opened t_firstWrong g_kind g_wet g_wide g_rows g_cells g_sun g_all g_firstColumn g_lastColumn r_cells r_hours r_cracked r_count S_row S_lane S_length) := hD
        refine lv_aload_n hx hb dX4_cell_41 rfl (lv_at hl 1 rfl) ?_
        refine va_get (D := D) (ci := 4) (v := .int q35_1) (C := RX4) (T := TX4) (N := 7) hx hb hts inX4 hown hK hP 0 rfl rfl 6 (by decide) (hts _ tw_129) (fun _ h9 => h9) rfl dX4_cell_42 ?_
        refine lv_if_ne (tgt := 62) hx hb dX4_cell_45 (by decide) (fun hc12 => ?_) (fun hc12 => ?_)
        · replace hf := (if_neg hc12).symm.trans hf
          exact bX4_cell_62_1 a_d a_f a_t a_r a_z a_f_kind a_f_wet a_g a_g_kind a_g_wet a_r_cells a_r_hours a_r_cracked a_s0 a_s0_row a_s1 a_s1_row a_s2 a_s2_row a_s3 a_s3_row d_hour d_traced f_kind f_wet f_wide f_rows f_cells f_sun f_all f_firstColumn f_lastColumn t_hours t_opened t_firstWrong g_kind g_wet g_wide g_rows g_cells g_sun g_all g_firstColumn g_lastColumn r_cells r_hours r_cracked r_count Cc hK hA n _ _ _ _ _ _ _ hf _ _ _ hP hD hS (lv_sub hl [1, 3, 0] rfl)
        · replace hf := (if_pos hc12).symm.trans hf
          refine lv_aload hx hb dX4_cell_48 (lv_at hl 0 rfl) ?_
          refine lv_iload_n hx hb dX4_cell_50 rfl (lv_at hl 3 rfl) ?_
          obtain ⟨q51_1, hq15, hf⟩ := Option.bind_eq_some_iff.mp hf
          refine cV (ws' := (W_D cI cS a_d a_f a_t a_r a_z a_f_kind a_f_wet a_g a_g_kind a_g_wet a_r_cells a_r_hours a_r_cracked a_s0 a_s0_row a_s1 a_s1_row a_s2 a_s2_row a_s3 a_s3_row d_hour d_traced q35_1 f_kind f_wet f_wide f_rows f_cells f_sun f_all f_firstColumn f_lastColumn t_hours t_opened t_firstWrong g_kind g_wet g_wide g_rows g_cells g_sun g_all g_firstColumn g_lastColumn r_cells r_hours r_cracked r_count S_row S_lane S_length)) (rest := []) (st1 := [.int q51_1]) Cc hK hA hP hD hS hl.1 (ctX2_hasPlace l D cI cS a_s1 a_s1_row (S_row 1) (S_lane 1) (S_length 1) p2 n q51_1 hq15) ⟨tw_187, tw_437, tw_185, tw_186, tw_5⟩ mdX2_hasPlace ⟨rfl, rfl, Nat.le_of_ble_eq_true rfl, Nat.le_of_ble_eq_true rfl⟩ rfl dX4_cell_51 rfl (Nat.le_of_ble_eq_true rfl) ⟨Nat.zero_le _, Nat.zero_le _⟩ rfl rfl rfl [15, 16] [0, 1, 2, 3, 4, 5, 6, 7, 8, 9, 10, 11, 12, 13, 14, 17, 18, 19, 20] [0, 1, 2, 3, 4, 5, 6, 7, 8, 9, 10, 11, 12, 13, 14, 19, 20, 15, 16, 17, 18] rfl rfl (by decide) rfl (fun H locs hP hD hS => ?_)
          refine lv_if_ne (tgt := 62) hx hb dX4_cell_54 (by decide) (fun hc16 => ?_) (fun hc16 => ?_)
          · replace hf := (if_neg hc16).symm.trans hf
            exact bX4_cell_62_1 a_d a_f a_t a_r a_z a_f_kind a_f_wet a_g a_g_kind a_g_wet a_r_cells a_r_hours a_r_cracked a_s0 a_s0_row a_s1 a_s1_row a_s2 a_s2_row a_s3 a_s3_row d_hour d_traced f_kind f_wet f_wide f_rows f_cells f_sun f_all f_firstColumn f_lastColumn t_hours t_opened t_firstWrong g_kind g_wet g_wide g_rows g_cells g_sun g_all g_firstColumn g_lastColumn r_cells r_hours r_cracked r_count Cc hK hA n _ _ _ _ _ _ _ hf _ _ _ hP hD hS (lv_sub hl [1, 3, 0] rfl)
          · replace hf := (if_pos hc16).symm.trans hf
            refine lv_aload_n hx hb dX4_cell_57 rfl (lv_at hl 1 rfl) ?_
            refine lv_iconst (v := (3 : Int32)) hx hb dX4_cell_58 (by decide) ?_
            refine va_put (D := D) (ci := 4) (v := .int (3 : Int32)) (ty := .int) (C := RX4) (T := TX4) (N := 7) hx hb hts inX4 tyX4 tyX4_ok nmX4 hown hK hP hD hS 0 rfl rfl 6 (by decide) (hts _ tw_129) (fun _ h9 => h9) rfl (tyX4_ok 6 (by decide)) rfl rfl (Nat.le_of_ble_eq_true rfl) dX4_cell_59 (fun H locs hP hD hS => ?_)
            have hP : va_P D classes (W_D cI cS a_d a_f a_t a_r a_z a_f_kind a_f_wet a_g a_g_kind a_g_wet a_r_cells a_r_hours a_r_cracked a_s0 a_s0_row a_s1 a_s1_row a_s2 a_s2_row a_s3 a_s3_row d_hour d_traced (3 : Int32) f_kind f_wet f_wide f_rows f_cells f_sun f_all f_firstColumn f_lastColumn t_hours t_opened t_firstWrong g_kind g_wet g_wide g_rows g_cells g_sun g_all g_firstColumn g_lastColumn r_cells r_hours r_cracked r_count S_row S_lane S_length) H := hP
            have hD : va_D A (W_D cI cS a_d a_f a_t a_r a_z a_f_kind a_f_wet a_g a_g_kind a_g_wet a_r_cells a_r_hours a_r_cracked a_s0 a_s0_row a_s1 a_s1_row a_s2 a_s2_row a_s3 a_s3_row d_hour d_traced (3 : Int32) f_kind f_wet f_wide f_rows f_cells f_sun f_all f_firstColumn f_lastColumn t_hours t_opened t_firstWrong g_kind g_wet g_wide g_rows g_cells g_sun g_all g_firstColumn g_lastColumn r_cells r_hours r_cracked r_count S_row S_lane S_length) := hD
            exact bX4_cell_62_1 a_d a_f a_t a_r a_z a_f_kind a_f_wet a_g a_g_kind a_g_wet a_r_cells a_r_hours a_r_cracked a_s0 a_s0_row a_s1 a_s1_row a_s2 a_s2_row a_s3 a_s3_row d_hour d_traced f_kind f_wet f_wide f_rows f_cells f_sun f_all f_firstColumn f_lastColumn t_hours t_opened t_firstWrong g_kind g_wet g_wide g_rows g_cells g_sun g_all g_firstColumn g_lastColumn r_cells r_hours r_cracked r_count Cc hK hA n _ _ _ _ _ _ _ hf _ _ _ hP hD hS (lv_sub hl [1, 3, 0] rfl)
      · refine W.eq (g2 := F0 m 29 ls [.ref a_s2]) rfl ?_
        refine lv_astore (lv' := [(4, .ref a_s2), (0, .ref a_d), (1, .int p1), (2, .int p2), (3, .int p3)]) hx hb dX4_cell_29 hl (by decide) rfl (fun ls hl => ?_)
        refine lv_aload_n hx hb dX4_cell_31 rfl (lv_at hl 1 rfl) ?_
        refine lv_aload hx hb dX4_cell_32 (lv_at hl 0 rfl) ?_
        refine lv_iload_n hx hb dX4_cell_34 rfl (lv_at hl 4 rfl) ?_
        obtain ⟨q35_1, hq17, hf⟩ := Option.bind_eq_some_iff.mp hf
        refine cV (ws' := (W_D cI cS a_d a_f a_t a_r a_z a_f_kind a_f_wet a_g a_g_kind a_g_wet a_r_cells a_r_hours a_r_cracked a_s0 a_s0_row a_s1 a_s1_row a_s2 a_s2_row a_s3 a_s3_row d_hour d_traced (0 : Int32) f_kind f_wet f_wide f_rows f_cells f_sun f_all f_firstColumn f_lastColumn t_hours t_opened t_firstWrong g_kind g_wet g_wide g_rows g_cells g_sun g_all g_firstColumn g_lastColumn r_cells r_hours r_cracked r_count S_row S_lane S_length)) (rest := [.ref a_d]) (st1 := [.int q35_1, .ref a_d]) Cc hK hA hP hD hS hl.1 (ctX2_faultAs l D cI cS a_s2 a_s2_row (S_row 2) (S_lane 2) (S_length 2) p3 n q35_1 hq17) ⟨tw_161, tw_158, tw_159, tw_160, tw_5⟩ mdX2_faultAs ⟨rfl, rfl, Nat.le_of_ble_eq_true rfl, Nat.le_of_ble_eq_true rfl⟩ rfl dX4_cell_35 rfl (Nat.le_of_ble_eq_true rfl) ⟨Nat.zero_le _, Nat.zero_le _⟩ rfl rfl rfl [17, 18] [0, 1, 2, 3, 4, 5, 6, 7, 8, 9, 10, 11, 12, 13, 14, 15, 16, 19, 20] [0, 1, 2, 3, 4, 5, 6, 7, 8, 9, 10, 11, 12, 13, 14, 15, 16, 19, 20, 17, 18] rfl rfl (by decide) rfl (fun H locs hP hD hS => ?_)
        refine va_put (D := D) (ci := 4) (v := .int q35_1) (ty := .int) (C := RX4) (T := TX4) (N := 7) hx hb hts inX4 tyX4 tyX4_ok nmX4 hown hK hP hD hS 0 rfl rfl 6 (by decide) (hts _ tw_129) (fun _ h9 => h9) rfl (tyX4_ok 6 (by decide)) rfl rfl (Nat.le_of_ble_eq_true rfl) dX4_cell_38 (fun H locs hP hD hS => ?_)
        have hP : va_P D classes (W_D cI cS a_d a_f a_t a_r a_z a_f_kind a_f_wet a_g a_g_kind a_g_wet a_r_cells a_r_hours a_r_cracked a_s0 a_s0_row a_s1 a_s1_row a_s2 a_s2_row a_s3 a_s3_row d_hour d_traced q35_1 f_kind f_wet f_wide f_rows f_cells f_sun f_all f_firstColumn f_lastColumn t_hours t_opened t_firstWrong g_kind g_wet g_wide g_rows g_cells g_sun g_all g_firstColumn g_lastColumn r_cells r_hours r_cracked r_count S_row S_lane S_length) H := hP
        have hD : va_D A (W_D cI cS a_d a_f a_t a_r a_z a_f_kind a_f_wet a_g a_g_kind a_g_wet a_r_cells a_r_hours a_r_cracked a_s0 a_s0_row a_s1 a_s1_row a_s2 a_s2_row a_s3 a_s3_row d_hour d_traced q35_1 f_kind f_wet f_wide f_rows f_cells f_sun f_all f_firstColumn f_lastColumn t_hours t_opened t_firstWrong g_kind g_wet g_wide g_rows g_cells g_sun g_all g_firstColumn g_lastColumn r_cells r_hours r_cracked r_count S_row S_lane S_length) := hD
        refine lv_aload_n hx hb dX4_cell_41 rfl (lv_at hl 1 rfl) ?_
        refine va_get (D := D) (ci := 4) (v := .int q35_1) (C := RX4) (T := TX4) (N := 7) hx hb hts inX4 hown hK hP 0 rfl rfl 6 (by decide) (hts _ tw_129) (fun _ h9 => h9) rfl dX4_cell_42 ?_
        refine lv_if_ne (tgt := 62) hx hb dX4_cell_45 (by decide) (fun hc18 => ?_) (fun hc18 => ?_)
        · replace hf := (if_neg hc18).symm.trans hf
          exact bX4_cell_62_2 a_d a_f a_t a_r a_z a_f_kind a_f_wet a_g a_g_kind a_g_wet a_r_cells a_r_hours a_r_cracked a_s0 a_s0_row a_s1 a_s1_row a_s2 a_s2_row a_s3 a_s3_row d_hour d_traced f_kind f_wet f_wide f_rows f_cells f_sun f_all f_firstColumn f_lastColumn t_hours t_opened t_firstWrong g_kind g_wet g_wide g_rows g_cells g_sun g_all g_firstColumn g_lastColumn r_cells r_hours r_cracked r_count Cc hK hA n _ _ _ _ _ _ _ hf _ _ _ hP hD hS (lv_sub hl [1, 3, 0] rfl)
        · replace hf := (if_pos hc18).symm.trans hf
          refine lv_aload hx hb dX4_cell_48 (lv_at hl 0 rfl) ?_
          refine lv_iload_n hx hb dX4_cell_50 rfl (lv_at hl 3 rfl) ?_
          obtain ⟨q51_1, hq21, hf⟩ := Option.bind_eq_some_iff.mp hf
          refine cV (ws' := (W_D cI cS a_d a_f a_t a_r a_z a_f_kind a_f_wet a_g a_g_kind a_g_wet a_r_cells a_r_hours a_r_cracked a_s0 a_s0_row a_s1 a_s1_row a_s2 a_s2_row a_s3 a_s3_row d_hour d_traced q35_1 f_kind f_wet f_wide f_rows f_cells f_sun f_all f_firstColumn f_lastColumn t_hours t_opened t_firstWrong g_kind g_wet g_wide g_rows g_cells g_sun g_all g_firstColumn g_lastColumn r_cells r_hours r_cracked r_count S_row S_lane S_length)) (rest := []) (st1 := [.int q51_1]) Cc hK hA hP hD hS hl.1 (ctX2_hasPlace l D cI cS a_s2 a_s2_row (S_row 2) (S_lane 2) (S_length 2) p2 n q51_1 hq21) ⟨tw_187, tw_437, tw_185, tw_186, tw_5⟩ mdX2_hasPlace ⟨rfl, rfl, Nat.le_of_ble_eq_true rfl, Nat.le_of_ble_eq_true rfl⟩ rfl dX4_cell_51 rfl (Nat.le_of_ble_eq_true rfl) ⟨Nat.zero_le _, Nat.zero_le _⟩ rfl rfl rfl [17, 18] [0, 1, 2, 3, 4, 5, 6, 7, 8, 9, 10, 11, 12, 13, 14, 15, 16, 19, 20] [0, 1, 2, 3, 4, 5, 6, 7, 8, 9, 10, 11, 12, 13, 14, 15, 16, 19, 20, 17, 18] rfl rfl (by decide) rfl (fun H locs hP hD hS => ?_)
          refine lv_if_ne (tgt := 62) hx hb dX4_cell_54 (by decide) (fun hc22 => ?_) (fun hc22 => ?_)
          · replace hf := (if_neg hc22).symm.trans hf
            exact bX4_cell_62_2 a_d a_f a_t a_r a_z a_f_kind a_f_wet a_g a_g_kind a_g_wet a_r_cells a_r_hours a_r_cracked a_s0 a_s0_row a_s1 a_s1_row a_s2 a_s2_row a_s3 a_s3_row d_hour d_traced f_kind f_wet f_wide f_rows f_cells f_sun f_all f_firstColumn f_lastColumn t_hours t_opened t_firstWrong g_kind g_wet g_wide g_rows g_cells g_sun g_all g_firstColumn g_lastColumn r_cells r_hours r_cracked r_count Cc hK hA n _ _ _ _ _ _ _ hf _ _ _ hP hD hS (lv_sub hl [1, 3, 0] rfl)
          · replace hf := (if_pos hc22).symm.trans hf
            refine lv_aload_n hx hb dX4_cell_57 rfl (lv_at hl 1 rfl) ?_
            refine lv_iconst (v := (3 : Int32)) hx hb dX4_cell_58 (by decide) ?_
            refine va_put (D := D) (ci := 4) (v := .int (3 : Int32)) (ty := .int) (C := RX4) (T := TX4) (N := 7) hx hb hts inX4 tyX4 tyX4_ok nmX4 hown hK hP hD hS 0 rfl rfl 6 (by decide) (hts _ tw_129) (fun _ h9 => h9) rfl (tyX4_ok 6 (by decide)) rfl rfl (Nat.le_of_ble_eq_true rfl) dX4_cell_59 (fun H locs hP hD hS => ?_)
            have hP : va_P D classes (W_D cI cS a_d a_f a_t a_r a_z a_f_kind a_f_wet a_g a_g_kind a_g_wet a_r_cells a_r_hours a_r_cracked a_s0 a_s0_row a_s1 a_s1_row a_s2 a_s2_row a_s3 a_s3_row d_hour d_traced (3 : Int32) f_kind f_wet f_wide f_rows f_cells f_sun f_all f_firstColumn f_lastColumn t_hours t_opened t_firstWrong g_kind g_wet g_wide g_rows g_cells g_sun g_all g_firstColumn g_lastColumn r_cells r_hours r_cracked r_count S_row S_lane S_length) H := hP
            have hD : va_D A (W_D cI cS a_d a_f a_t a_r a_z a_f_kind a_f_wet a_g a_g_kind a_g_wet a_r_cells a_r_hours a_r_cracked a_s0 a_s0_row a_s1 a_s1_row a_s2 a_s2_row a_s3 a_s3_row d_hour d_traced (3 : Int32) f_kind f_wet f_wide f_rows f_cells f_sun f_all f_firstColumn f_lastColumn t_hours t_opened t_firstWrong g_kind g_wet g_wide g_rows g_cells g_sun g_all g_firstColumn g_lastColumn r_cells r_hours r_cracked r_count S_row S_lane S_length) := hD
            exact bX4_cell_62_2 a_d a_f a_t a_r a_z a_f_kind a_f_wet a_g a_g_kind a_g_wet a_r_cells a_r_hours a_r_cracked a_s0 a_s0_row a_s1 a_s1_row a_s2 a_s2_row a_s3 a_s3_row d_hour d_traced f_kind f_wet f_wide f_rows f_cells f_sun f_all f_firstColumn f_lastColumn t_hours t_opened t_firstWrong g_kind g_wet g_wide g_rows g_cells g_sun g_all g_firstColumn g_lastColumn r_cells r_hours r_cracked r_count Cc hK hA n _ _ _ _ _ _ _ hf _ _ _ hP hD hS (lv_sub hl [1, 3, 0] rfl)
      · refine W.eq (g2 := F0 m 29 ls [.ref a_s3]) rfl ?_
        refine lv_astore (lv' := [(4, .ref a_s3), (0, .ref a_d), (1, .int p1), (2, .int p2), (3, .int p3)]) hx hb dX4_cell_29 hl (by decide) rfl (fun ls hl => ?_)
        refine lv_aload_n hx hb dX4_cell_31 rfl (lv_at hl 1 rfl) ?_
        refine lv_aload hx hb dX4_cell_32 (lv_at hl 0 rfl) ?_
        refine lv_iload_n hx hb dX4_cell_34 rfl (lv_at hl 4 rfl) ?_
        obtain ⟨q35_1, hq23, hf⟩ := Option.bind_eq_some_iff.mp hf
        refine cV (ws' := (W_D cI cS a_d a_f a_t a_r a_z a_f_kind a_f_wet a_g a_g_kind a_g_wet a_r_cells a_r_hours a_r_cracked a_s0 a_s0_row a_s1 a_s1_row a_s2 a_s2_row a_s3 a_s3_row d_hour d_traced (0 : Int32) f_kind f_wet f_wide f_rows f_cells f_sun f_all f_firstColumn f_lastColumn t_hours t_opened t_firstWrong g_kind g_wet g_wide g_rows g_cells g_sun g_all g_firstColumn g_lastColumn r_cells r_hours r_cracked r_count S_row S_lane S_length)) (rest := [.ref a_d]) (st1 := [.int q35_1, .ref a_d]) Cc hK hA hP hD hS hl.1 (ctX2_faultAs l D cI cS a_s3 a_s3_row (S_row 3) (S_lane 3) (S_length 3) p3 n q35_1 hq23) ⟨tw_161, tw_158, tw_159, tw_160, tw_5⟩ mdX2_faultAs ⟨rfl, rfl, Nat.le_of_ble_eq_true rfl, Nat.le_of_ble_eq_true rfl⟩ rfl dX4_cell_35 rfl (Nat.le_of_ble_eq_true rfl) ⟨Nat.zero_le _, Nat.zero_le _⟩ rfl rfl rfl [19, 20] [0, 1, 2, 3, 4, 5, 6, 7, 8, 9, 10, 11, 12, 13, 14, 15, 16, 17, 18] [0, 1, 2, 3, 4, 5, 6, 7, 8, 9, 10, 11, 12, 13, 14, 15, 16, 17, 18, 19, 20] rfl rfl (by decide) rfl (fun H locs hP hD hS => ?_)
        refine va_put (D := D) (ci := 4) (v := .int q35_1) (ty := .int) (C := RX4) (T := TX4) (N := 7) hx hb hts inX4 tyX4 tyX4_ok nmX4 hown hK hP hD hS 0 rfl rfl 6 (by decide) (hts _ tw_129) (fun _ h9 => h9) rfl (tyX4_ok 6 (by decide)) rfl rfl (Nat.le_of_ble_eq_true rfl) dX4_cell_38 (fun H locs hP hD hS => ?_)
        have hP : va_P D classes (W_D cI cS a_d a_f a_t a_r a_z a_f_kind a_f_wet a_g a_g_kind a_g_wet a_r_cells a_r_hours a_r_cracked a_s0 a_s0_row a_s1 a_s1_row a_s2 a_s2_row a_s3 a_s3_row d_hour d_traced q35_1 f_kind f_wet f_wide f_rows f_cells f_sun f_all f_firstColumn f_lastColumn t_hours t_opened t_firstWrong g_kind g_wet g_wide g_rows g_cells g_sun g_all g_firstColumn g_lastColumn r_cells r_hours r_cracked r_count S_row S_lane S_length) H := hP
        have hD : va_D A (W_D cI cS a_d a_f a_t a_r a_z a_f_kind a_f_wet a_g a_g_kind a_g_wet a_r_cells a_r_hours a_r_cracked a_s0 a_s0_row a_s1 a_s1_row a_s2 a_s2_row a_s3 a_s3_row d_hour d_traced q35_1 f_kind f_wet f_wide f_rows f_cells f_sun f_all f_firstColumn f_lastColumn t_hours t_opened t_firstWrong g_kind g_wet g_wide g_rows g_cells g_sun g_all g_firstColumn g_lastColumn r_cells r_hours r_cracked r_count S_row S_lane S_length) := hD
        refine lv_aload_n hx hb dX4_cell_41 rfl (lv_at hl 1 rfl) ?_
        refine va_get (D := D) (ci := 4) (v := .int q35_1) (C := RX4) (T := TX4) (N := 7) hx hb hts inX4 hown hK hP 0 rfl rfl 6 (by decide) (hts _ tw_129) (fun _ h9 => h9) rfl dX4_cell_42 ?_
        refine lv_if_ne (tgt := 62) hx hb dX4_cell_45 (by decide) (fun hc24 => ?_) (fun hc24 => ?_)
        · replace hf := (if_neg hc24).symm.trans hf
          exact bX4_cell_62_3 a_d a_f a_t a_r a_z a_f_kind a_f_wet a_g a_g_kind a_g_wet a_r_cells a_r_hours a_r_cracked a_s0 a_s0_row a_s1 a_s1_row a_s2 a_s2_row a_s3 a_s3_row d_hour d_traced f_kind f_wet f_wide f_rows f_cells f_sun f_all f_firstColumn f_lastColumn t_hours t_opened t_firstWrong g_kind g_wet g_wide g_rows g_cells g_sun g_all g_firstColumn g_lastColumn r_cells r_hours r_cracked r_count Cc hK hA n _ _ _ _ _ _ _ hf _ _ _ hP hD hS (lv_sub hl [1, 3, 0] rfl)
        · replace hf := (if_pos hc24).symm.trans hf
          refine lv_aload hx hb dX4_cell_48 (lv_at hl 0 rfl) ?_
          refine lv_iload_n hx hb dX4_cell_50 rfl (lv_at hl 3 rfl) ?_
          obtain ⟨q51_1, hq27, hf⟩ := Option.bind_eq_some_iff.mp hf
          refine cV (ws' := (W_D cI cS a_d a_f a_t a_r a_z a_f_kind a_f_wet a_g a_g_kind a_g_wet a_r_cells a_r_hours a_r_cracked a_s0 a_s0_row a_s1 a_s1_row a_s2 a_s2_row a_s3 a_s3_row d_hour d_traced q35_1 f_kind f_wet f_wide f_rows f_cells f_sun f_all f_firstColumn f_lastColumn t_hours t_opened t_firstWrong g_kind g_wet g_wide g_rows g_cells g_sun g_all g_firstColumn g_lastColumn r_cells r_hours r_cracked r_count S_row S_lane S_length)) (rest := []) (st1 := [.int q51_1]) Cc hK hA hP hD hS hl.1 (ctX2_hasPlace l D cI cS a_s3 a_s3_row (S_row 3) (S_lane 3) (S_length 3) p2 n q51_1 hq27) ⟨tw_187, tw_437, tw_185, tw_186, tw_5⟩ mdX2_hasPlace ⟨rfl, rfl, Nat.le_of_ble_eq_true rfl, Nat.le_of_ble_eq_true rfl⟩ rfl dX4_cell_51 rfl (Nat.le_of_ble_eq_true rfl) ⟨Nat.zero_le _, Nat.zero_le _⟩ rfl rfl rfl [19, 20] [0, 1, 2, 3, 4, 5, 6, 7, 8, 9, 10, 11, 12, 13, 14, 15, 16, 17, 18] [0, 1, 2, 3, 4, 5, 6, 7, 8, 9, 10, 11, 12, 13, 14, 15, 16, 17, 18, 19, 20] rfl rfl (by decide) rfl (fun H locs hP hD hS => ?_)
          refine lv_if_ne (tgt := 62) hx hb dX4_cell_54 (by decide) (fun hc28 => ?_) (fun hc28 => ?_)
          · replace hf := (if_neg hc28).symm.trans hf
            exact bX4_cell_62_3 a_d a_f a_t a_r a_z a_f_kind a_f_wet a_g a_g_kind a_g_wet a_r_cells a_r_hours a_r_cracked a_s0 a_s0_row a_s1 a_s1_row a_s2 a_s2_row a_s3 a_s3_row d_hour d_traced f_kind f_wet f_wide f_rows f_cells f_sun f_all f_firstColumn f_lastColumn t_hours t_opened t_firstWrong g_kind g_wet g_wide g_rows g_cells g_sun g_all g_firstColumn g_lastColumn r_cells r_hours r_cracked r_count Cc hK hA n _ _ _ _ _ _ _ hf _ _ _ hP hD hS (lv_sub hl [1, 3, 0] rfl)
          · replace hf := (if_pos hc28).symm.trans hf
            refine lv_aload_n hx hb dX4_cell_57 rfl (lv_at hl 1 rfl) ?_
            refine lv_iconst (v := (3 : Int32)) hx hb dX4_cell_58 (by decide) ?_
            refine va_put (D := D) (ci := 4) (v := .int (3 : Int32)) (ty := .int) (C := RX4) (T := TX4) (N := 7) hx hb hts inX4 tyX4 tyX4_ok nmX4 hown hK hP hD hS 0 rfl rfl 6 (by decide) (hts _ tw_129) (fun _ h9 => h9) rfl (tyX4_ok 6 (by decide)) rfl rfl (Nat.le_of_ble_eq_true rfl) dX4_cell_59 (fun H locs hP hD hS => ?_)
            have hP : va_P D classes (W_D cI cS a_d a_f a_t a_r a_z a_f_kind a_f_wet a_g a_g_kind a_g_wet a_r_cells a_r_hours a_r_cracked a_s0 a_s0_row a_s1 a_s1_row a_s2 a_s2_row a_s3 a_s3_row d_hour d_traced (3 : Int32) f_kind f_wet f_wide f_rows f_cells f_sun f_all f_firstColumn f_lastColumn t_hours t_opened t_firstWrong g_kind g_wet g_wide g_rows g_cells g_sun g_all g_firstColumn g_lastColumn r_cells r_hours r_cracked r_count S_row S_lane S_length) H := hP
            have hD : va_D A (W_D cI cS a_d a_f a_t a_r a_z a_f_kind a_f_wet a_g a_g_kind a_g_wet a_r_cells a_r_hours a_r_cracked a_s0 a_s0_row a_s1 a_s1_row a_s2 a_s2_row a_s3 a_s3_row d_hour d_traced (3 : Int32) f_kind f_wet f_wide f_rows f_cells f_sun f_all f_firstColumn f_lastColumn t_hours t_opened t_firstWrong g_kind g_wet g_wide g_rows g_cells g_sun g_all g_firstColumn g_lastColumn r_cells r_hours r_cracked r_count S_row S_lane S_length) := hD
            exact bX4_cell_62_3 a_d a_f a_t a_r a_z a_f_kind a_f_wet a_g a_g_kind a_g_wet a_r_cells a_r_hours a_r_cracked a_s0 a_s0_row a_s1 a_s1_row a_s2 a_s2_row a_s3 a_s3_row d_hour d_traced f_kind f_wet f_wide f_rows f_cells f_sun f_all f_firstColumn f_lastColumn t_hours t_opened t_firstWrong g_kind g_wet g_wide g_rows g_cells g_sun g_all g_firstColumn g_lastColumn r_cells r_hours r_cracked r_count Cc hK hA n _ _ _ _ _ _ _ hf _ _ _ hP hD hS (lv_sub hl [1, 3, 0] rfl)
    · replace hf := (if_pos hc4).symm.trans hf
      refine lv_ldc2 hx hb hown (hts _ tw_411) dX4_cell_19 ?_
      replace hf := Option.some.inj hf
      obtain ⟨er0, er1⟩ := Prod.mk.inj hf
      clear hf 
      subst er0
      subst er1
      exact rt_l Cc hK hP hD hS dX4_cell_22
-- X4_copy
def fX4_copy (n : Nat) (d_latestFault : Int32) (S_row : Nat → Nat → Int32) (S_lane : Nat → Int32) (S_length : Nat → Int32) (p1 : Int32) (p2 : Int32) (p3 : Int32) (p4 : Int32) (p5 : Int32) : Option (Int32 × Int32 × (Nat → Nat → Int32)) := (fX4_isSheet n p1).bind fun q6_1 => if q6_1 = 0 then some ((-1 : Int32), (0 : Int32), S_row) else (fX4_isSheet n p3).bind fun q13_1 => if q13_1 = 0 then some ((-1 : Int32), (0 : Int32), S_row) else gd p1 4 (gd p3 4 ((fX2_isNothing n (S_lane p1.toNatClampNeg)).bind fun q39_1 => if q39_1 = 0 then (fX2_isNothing n (S_lane p3.toNatClampNeg)).bind fun q47_1 => if q47_1 = 0 then if (S_lane p1.toNatClampNeg) = (S_lane p3.toNatClampNeg) then (fX2_has n (S_length p1.toNatClampNeg) p2 p5).bind fun q83_1 => if q83_1 = 0 then (fX4_faulted n (0 : Int32) (3 : Int32)).bind fun q103_1 => some (q103_1.1, q103_1.2, S_row) else (fX2_has n (S_length p3.toNatClampNeg) p4 p5).bind fun q95_1 => if q95_1 = 0 then (fX4_faulted n (0 : Int32) (3 : Int32)).bind fun q103_1 => some (q103_1.1, q103_1.2, S_row) else cpg p2 p4 p5 60 60 (some (p5, (0 : Int32), (va_up S_row p3.toNatClampNeg (va_cpy (S_row p1.toNatClampNeg) (S_row p3.toNatClampNeg) p2.toNatClampNeg p4.toNatClampNeg p5.toNatClampNeg)))) else (fX4_faulted n (0 : Int32) (2 : Int32)).bind fun q74_1 => some (q74_1.1, q74_1.2, S_row) else (fX4_faulted n (0 : Int32) (1 : Int32)).bind fun q55_1 => some (q55_1.1, q55_1.2, S_row) else (fX4_faulted n (0 : Int32) (1 : Int32)).bind fun q55_1 => some (q55_1.1, q55_1.2, S_row)))
theorem mdX4_copy : yX4_copy.cls = RX4 ∧ yX4_copy.cls ≠ "java/lang/invoke/MethodHandle" ∧ yX4_copy.cls ≠ "java/lang/invoke/VarHandle" ∧ (parseMethodDescriptor yX4_copy.desc).map (fun d => d.parameters.length) = some 5 := by decide +kernel
set_option maxHeartbeats 4000000 in
set_option maxRecDepth 100000 in
theorem ctX4_copy (l : Launch) (D : va_G) (cI cS : ClassId) (a_d a_f a_t a_r a_z a_f_kind a_f_wet a_g a_g_kind a_g_wet a_r_cells a_r_hours a_r_cracked a_s0 a_s0_row a_s1 a_s1_row a_s2 a_s2_row a_s3 a_s3_row : Nat) (d_hour : Int32) (d_traced : Int32) (d_latestFault : Int32) (f_kind : Nat → Int32) (f_wet : Nat → Int32) (f_wide : Int32) (f_rows : Int32) (f_cells : Int32) (f_sun : Int32) (f_all : Int32) (f_firstColumn : Int32) (f_lastColumn : Int32) (t_hours : Int32) (t_opened : Int32) (t_firstWrong : Int32) (g_kind : Nat → Int32) (g_wet : Nat → Int32) (g_wide : Int32) (g_rows : Int32) (g_cells : Int32) (g_sun : Int32) (g_all : Int32) (g_firstColumn : Int32) (g_lastColumn : Int32) (r_cells : Nat → Int32) (r_hours : Nat → Int32) (r_cracked : Nat → Int32) (r_count : Int32) (S_row : Nat → Nat → Int32) (S_lane : Nat → Int32) (S_length : Nat → Int32) (p1 : Int32) (p2 : Int32) (p3 : Int32) (p4 : Int32) (p5 : Int32) (n : Nat) (r : Int32) (d_latestFault' : Int32) (S_row' : Nat → Nat → Int32) (hf : fX4_copy n d_latestFault S_row S_lane S_length p1 p2 p3 p4 p5 = some (r, d_latestFault', S_row')) : Ct l D (tysA cI cS) yX4_copy cX4_copy 8 (some .int) (Rm 2) [.ref a_d, .int p1, .int p2, .int p3, .int p4, .int p5] (W_D cI cS a_d a_f a_t a_r a_z a_f_kind a_f_wet a_g a_g_kind a_g_wet a_r_cells a_r_hours a_r_cracked a_s0 a_s0_row a_s1 a_s1_row a_s2 a_s2_row a_s3 a_s3_row d_hour d_traced d_latestFault f_kind f_wet f_wide f_rows f_cells f_sun f_all f_firstColumn f_lastColumn t_hours t_opened t_firstWrong g_kind g_wet g_wide g_rows g_cells g_sun g_all g_firstColumn g_lastColumn r_cells r_hours r_cracked r_count S_row S_lane S_length) (some (.int r)) (W_D cI cS a_d a_f a_t a_r a_z a_f_kind a_f_wet a_g a_g_kind a_g_wet a_r_cells a_r_hours a_r_cracked a_s0 a_s0_row a_s1 a_s1_row a_s2 a_s2_row a_s3 a_s3_row d_hour d_traced d_latestFault' f_kind f_wet f_wide f_rows f_cells f_sun f_all f_firstColumn f_lastColumn t_hours t_opened t_firstWrong g_kind g_wet g_wide g_rows g_cells g_sun g_all g_firstColumn g_lastColumn r_cells r_hours r_cracked r_count S_row' S_lane S_length) := by
  refine Ct_of (by decide) (Nat.le_of_ble_eq_true rfl) ?_
  intro p e s m args below meth c A ls Cc hK hA hP hD hS hl
  have hl : lv_has ls 8 [(0, .ref a_d), (1, .int p1), (2, .int p2), (3, .int p3), (4, .int p4), (5, .int p5)] := hl
  obtain ⟨hx, hb, hr, hml, hown, hts, hlk, hnw⟩ := id Cc
  unfold fX4_copy at hf
  refine lv_aload_n hx hb dX4_copy_0 rfl (lv_at hl 0 rfl) ?_
  refine lv_iconst (v := (0 : Int32)) hx hb dX4_copy_1 (by decide) ?_
  refine va_put (D := D) (ci := 4) (v := .int (0 : Int32)) (ty := .int) (C := RX4) (T := TX4) (N := 7) hx hb hts inX4 tyX4 tyX4_ok nmX4 hown hK hP hD hS 0 rfl rfl 6 (by decide) (hts _ tw_129) (fun _ h9 => h9) rfl (tyX4_ok 6 (by decide)) rfl rfl (Nat.le_of_ble_eq_true rfl) dX4_copy_2 (fun H locs hP hD hS => ?_)
  have hP : va_P D classes (W_D cI cS a_d a_f a_t a_r a_z a_f_kind a_f_wet a_g a_g_kind a_g_wet a_r_cells a_r_hours a_r_cracked a_s0 a_s0_row a_s1 a_s1_row a_s2 a_s2_row a_s3 a_s3_row d_hour d_traced (0 : Int32) f_kind f_wet f_wide f_rows f_cells f_sun f_all f_firstColumn f_lastColumn t_hours t_opened t_firstWrong g_kind g_wet g_wide g_rows g_cells g_sun g_all g_firstColumn g_lastColumn r_cells r_hours r_cracked r_count S_row S_lane S_length) H := hP
  have hD : va_D A (W_D cI cS a_d a_f a_t a_r a_z a_f_kind a_f_wet a_g a_g_kind a_g_wet a_r_cells a_r_hours a_r_cracked a_s0 a_s0_row a_s1 a_s1_row a_s2 a_s2_row a_s3 a_s3_row d_hour d_traced (0 : Int32) f_kind f_wet f_wide f_rows f_cells f_sun f_all f_firstColumn f_lastColumn t_hours t_opened t_firstWrong g_kind g_wet g_wide g_rows g_cells g_sun g_all g_firstColumn g_lastColumn r_cells r_hours r_cracked r_count S_row S_lane S_length) := hD
  refine lv_iload_n hx hb dX4_copy_5 rfl (lv_at hl 1 rfl) ?_
  obtain ⟨q6_1, hq1, hf⟩ := Option.bind_eq_some_iff.mp hf
  refine cSt (ws' := (W_D cI cS a_d a_f a_t a_r a_z a_f_kind a_f_wet a_g a_g_kind a_g_wet a_r_cells a_r_hours a_r_cracked a_s0 a_s0_row a_s1 a_s1_row a_s2 a_s2_row a_s3 a_s3_row d_hour d_traced (0 : Int32) f_kind f_wet f_wide f_rows f_cells f_sun f_all f_firstColumn f_lastColumn t_hours t_opened t_firstWrong g_kind g_wet g_wide g_rows g_cells g_sun g_all g_firstColumn g_lastColumn r_cells r_hours r_cracked r_count S_row S_lane S_length)) (rest := []) (st1 := [.int q6_1]) Cc hK hA hP hD hS hl.1 (ctX4_isSheet l D cI cS   p1 n q6_1 hq1) ⟨tw_151, tw_149, tw_150, tw_1⟩ mdX4_isSheet ⟨rfl, rfl, Nat.le_of_ble_eq_true rfl, Nat.le_of_ble_eq_true rfl⟩ rfl dX4_copy_6 rfl (Nat.le_of_ble_eq_true rfl) ⟨Nat.zero_le _, Nat.zero_le _⟩ rfl [] [0, 1, 2, 3, 4, 5, 6, 7, 8, 9, 10, 11, 12, 13, 14, 15, 16, 17, 18, 19, 20] [0, 1, 2, 3, 4, 5, 6, 7, 8, 9, 10, 11, 12, 13, 14, 15, 16, 17, 18, 19, 20] rfl rfl (by decide) rfl (fun H locs hP hD hS => ?_)
  refine lv_if_eq (tgt := 19) hx hb dX4_copy_9 (by decide) (fun hc2 => ?_) (fun hc2 => ?_)
  · replace hf := (if_pos hc2).symm.trans hf
    refine lv_iconst (v := (-1 : Int32)) hx hb dX4_copy_19 (by decide) ?_
    replace hf := Option.some.inj hf
    obtain ⟨er0, er1⟩ := Prod.mk.inj hf
    obtain ⟨er2, er3⟩ := Prod.mk.inj er1
    clear hf er1
    subst er0
    subst er2
    subst er3
    exact rt_i Cc hK hP hD hS dX4_copy_20
  · replace hf := (if_neg hc2).symm.trans hf
    refine lv_iload_n hx hb dX4_copy_12 rfl (lv_at hl 3 rfl) ?_
    obtain ⟨q13_1, hq3, hf⟩ := Option.bind_eq_some_iff.mp hf
    refine cSt (ws' := (W_D cI cS a_d a_f a_t a_r a_z a_f_kind a_f_wet a_g a_g_kind a_g_wet a_r_cells a_r_hours a_r_cracked a_s0 a_s0_row a_s1 a_s1_row a_s2 a_s2_row a_s3 a_s3_row d_hour d_traced (0 : Int32) f_kind f_wet f_wide f_rows f_cells f_sun f_all f_firstColumn f_lastColumn t_hours t_opened t_firstWrong g_kind g_wet g_wide g_rows g_cells g_sun g_all g_firstColumn g_lastColumn r_cells r_hours r_cracked r_count S_row S_lane S_length)) (rest := []) (st1 := [.int q13_1]) Cc hK hA hP hD hS hl.1 (ctX4_isSheet l D cI cS   p3 n q13_1 hq3) ⟨tw_151, tw_149, tw_150, tw_1⟩ mdX4_isSheet ⟨rfl, rfl, Nat.le_of_ble_eq_true rfl, Nat.le_of_ble_eq_true rfl⟩ rfl dX4_copy_13 rfl (Nat.le_of_ble_eq_true rfl) ⟨Nat.zero_le _, Nat.zero_le _⟩ rfl [] [0, 1, 2, 3, 4, 5, 6, 7, 8, 9, 10, 11, 12, 13, 14, 15, 16, 17, 18, 19, 20] [0, 1, 2, 3, 4, 5, 6, 7, 8, 9, 10, 11, 12, 13, 14, 15, 16, 17, 18, 19, 20] rfl rfl (by decide) rfl (fun H locs hP hD hS => ?_)
    refine lv_if_ne (tgt := 21) hx hb dX4_copy_16 (by decide) (fun hc4 => ?_) (fun hc4 => ?_)
    · replace hf := (if_neg hc4).symm.trans hf
      refine lv_aload_n hx hb dX4_copy_21 rfl (lv_at hl 0 rfl) ?_
      refine va_get (D := D) (ci := 4) (v := .ref a_z) (C := RX4) (T := TX4) (N := 7) hx hb hts inX4 hown hK hP 0 rfl rfl 3 (by decide) (hts _ tw_126) (fun _ h9 => h9) rfl dX4_copy_22 ?_
      refine lv_iload_n hx hb dX4_copy_25 rfl (lv_at hl 1 rfl) ?_
      obtain ⟨hin, hf⟩ := gd_some hf
      refine va_aldq hx hb hK hP 12 1 rfl rfl hin dX4_copy_26 ?_
      obtain ⟨j, hj, hjx⟩ : ∃ j, j < 4 ∧ p1.toNatClampNeg = j := ⟨_, Nat.not_le.mp fun q => hin (Or.inr q), rfl⟩
      rw [hjx] at hf ⊢
      clear hin hjx
      rcases (show j = 0 ∨ j = 1 ∨ j = 2 ∨ j = 3 by omega) with rfl | rfl | rfl | rfl
      · refine W.eq (g2 := F0 m 27 ls [.ref a_s0]) rfl ?_
        refine lv_astore (lv' := [(6, .ref a_s0), (0, .ref a_d), (1, .int p1), (2, .int p2), (3, .int p3), (4, .int p4), (5, .int p5)]) hx hb dX4_copy_27 hl (by decide) rfl (fun ls hl => ?_)
        refine lv_aload_n hx hb dX4_copy_29 rfl (lv_at hl 1 rfl) ?_
        refine va_get (D := D) (ci := 4) (v := .ref a_z) (C := RX4) (T := TX4) (N := 7) hx hb hts inX4 hown hK hP 0 rfl rfl 3 (by decide) (hts _ tw_126) (fun _ h9 => h9) rfl dX4_copy_30 ?_
        refine lv_iload_n hx hb dX4_copy_33 rfl (lv_at hl 4 rfl) ?_
        obtain ⟨hin, hf⟩ := gd_some hf
        refine va_aldq hx hb hK hP 12 1 rfl rfl hin dX4_copy_34 ?_
        obtain ⟨j, hj, hjx⟩ : ∃ j, j < 4 ∧ p3.toNatClampNeg = j := ⟨_, Nat.not_le.mp fun q => hin (Or.inr q), rfl⟩
        rw [hjx] at hf ⊢
        clear hin hjx
        rcases (show j = 0 ∨ j = 1 ∨ j = 2 ∨ j = 3 by omega) with rfl | rfl | rfl | rfl
        · refine W.eq (g2 := F0 m 35 ls [.ref a_s0]) rfl ?_
          refine lv_astore (lv' := [(7, .ref a_s0), (6, .ref a_s0), (0, .ref a_d), (1, .int p1), (2, .int p2), (3, .int p3), (4, .int p4), (5, .int p5)]) hx hb dX4_copy_35 hl (by decide) rfl (fun ls hl => ?_)
          refine lv_aload hx hb dX4_copy_37 (lv_at hl 1 rfl) ?_
          obtain ⟨q39_1, hq5, hf⟩ := Option.bind_eq_some_iff.mp hf
          refine cV (ws' := (W_D cI cS a_d a_f a_t a_r a_z a_f_kind a_f_wet a_g a_g_kind a_g_wet a_r_cells a_r_hours a_r_cracked a_s0 a_s0_row a_s1 a_s1_row a_s2 a_s2_row a_s3 a_s3_row d_hour d_traced (0 : Int32) f_kind f_wet f_wide f_rows f_cells f_sun f_all f_firstColumn f_lastColumn t_hours t_opened t_firstWrong g_kind g_wet g_wide g_rows g_cells g_sun g_all g_firstColumn g_lastColumn r_cells r_hours r_cracked r_count S_row S_lane S_length)) (rest := []) (st1 := [.int q39_1]) Cc hK hA hP hD hS hl.1 (ctX2_isNothing l D cI cS a_s0 a_s0_row (S_row 0) (S_lane 0) (S_length 0)  n q39_1 hq5) ⟨tw_165, tw_428, tw_163, tw_164, tw_5⟩ mdX2_isNothing ⟨rfl, rfl, Nat.le_of_ble_eq_true rfl, Nat.le_of_ble_eq_true rfl⟩ rfl dX4_copy_39 rfl (Nat.le_of_ble_eq_true rfl) ⟨Nat.zero_le _, Nat.zero_le _⟩ rfl rfl rfl [13, 14] [0, 1, 2, 3, 4, 5, 6, 7, 8, 9, 10, 11, 12, 15, 16, 17, 18, 19, 20] [0, 1, 2, 3, 4, 5, 6, 7, 8, 9, 10, 11, 12, 19, 20, 13, 14, 15, 16, 17, 18] rfl rfl (by decide) rfl (fun H locs hP hD hS => ?_)
          refine lv_if_ne (tgt := 53) hx hb dX4_copy_42 (by decide) (fun hc6 => ?_) (fun hc6 => ?_)
          · replace hf := (if_neg hc6).symm.trans hf
            refine lv_aload_n hx hb dX4_copy_53 rfl (lv_at hl 2 rfl) ?_
            refine lv_iconst (v := (1 : Int32)) hx hb dX4_copy_54 (by decide) ?_
            obtain ⟨q55_1, hq7, hf⟩ := Option.bind_eq_some_iff.mp hf
            refine cV (ws' := (W_D cI cS a_d a_f a_t a_r a_z a_f_kind a_f_wet a_g a_g_kind a_g_wet a_r_cells a_r_hours a_r_cracked a_s0 a_s0_row a_s1 a_s1_row a_s2 a_s2_row a_s3 a_s3_row d_hour d_traced q55_1.2 f_kind f_wet f_wide f_rows f_cells f_sun f_all f_firstColumn f_lastColumn t_hours t_opened t_firstWrong g_kind g_wet g_wide g_rows g_cells g_sun g_all g_firstColumn g_lastColumn r_cells r_hours r_cracked r_count S_row S_lane S_length)) (rest := []) (st1 := [.int q55_1.1]) Cc hK hA hP hD hS hl.1 (ctX4_faulted l D cI cS a_d a_f a_t a_r a_z d_hour d_traced (0 : Int32) (1 : Int32) n q55_1.1 q55_1.2 hq7) ⟨tw_173, tw_170, tw_172, tp_0, tw_1⟩ mdX4_faulted ⟨rfl, rfl, Nat.le_of_ble_eq_true rfl, Nat.le_of_ble_eq_true rfl⟩ rfl dX4_copy_55 rfl (Nat.le_of_ble_eq_true rfl) ⟨Nat.zero_le _, Nat.zero_le _⟩ rfl rfl rfl [0] [1, 2, 3, 4, 5, 6, 7, 8, 9, 10, 11, 12, 13, 14, 15, 16, 17, 18, 19, 20] [20, 0, 1, 2, 3, 4, 5, 6, 7, 8, 9, 10, 11, 12, 13, 14, 15, 16, 17, 18, 19] rfl rfl (by decide) rfl (fun H locs hP hD hS => ?_)
            replace hf := Option.some.inj hf
            obtain ⟨er0, er1⟩ := Prod.mk.inj hf
            obtain ⟨er2, er3⟩ := Prod.mk.inj er1
            clear hf er1
            subst er0
            subst er2
            subst er3
            exact rt_i Cc hK hP hD hS dX4_copy_58
          · replace hf := (if_pos hc6).symm.trans hf
            refine lv_aload hx hb dX4_copy_45 (lv_at hl 0 rfl) ?_
            obtain ⟨q47_1, hq8, hf⟩ := Option.bind_eq_some_iff.mp hf
            refine cV (ws' := (W_D cI cS a_d a_f a_t a_r a_z a_f_kind a_f_wet a_g a_g_kind a_g_wet a_r_cells a_r_hours a_r_cracked a_s0 a_s0_row a_s1 a_s1_row a_s2 a_s2_row a_s3 a_s3_row d_hour d_traced (0 : Int32) f_kind f_wet f_wide f_rows f_cells f_sun f_all f_firstColumn f_lastColumn t_hours t_opened t_firstWrong g_kind g_wet g_wide g_rows g_cells g_sun g_all g_firstColumn g_lastColumn r_cells r_hours r_cracked r_count S_row S_lane S_length)) (rest := []) (st1 := [.int q47_1]) Cc hK hA hP hD hS hl.1 (ctX2_isNothing l D cI cS a_s0 a_s0_row (S_row 0) (S_lane 0) (S_length 0)  n q47_1 hq8) ⟨tw_165, tw_428, tw_163, tw_164, tw_5⟩ mdX2_isNothing ⟨rfl, rfl, Nat.le_of_ble_eq_true rfl, Nat.le_of_ble_eq_true rfl⟩ rfl dX4_copy_47 rfl (Nat.le_of_ble_eq_true rfl) ⟨Nat.zero_le _, Nat.zero_le _⟩ rfl rfl rfl [13, 14] [0, 1, 2, 3, 4, 5, 6, 7, 8, 9, 10, 11, 12, 15, 16, 17, 18, 19, 20] [0, 1, 2, 3, 4, 5, 6, 7, 8, 9, 10, 11, 12, 19, 20, 13, 14, 15, 16, 17, 18] rfl rfl (by decide) rfl (fun H locs hP hD hS => ?_)
            refine lv_if_eq (tgt := 59) hx hb dX4_copy_50 (by decide) (fun hc9 => ?_) (fun hc9 => ?_)
            · replace hf := (if_pos hc9).symm.trans hf
              refine lv_aload hx hb dX4_copy_59 (lv_at hl 1 rfl) ?_
              refine va_getN (D := D) (ci := 2) (v := .int (S_lane 0)) (C := RX2) (T := TX2) (N := 3) hx hb hts inX2 hown hK hP 13 rfl rfl 1 (by decide) (va_Nw.use rfl (hnw _ nn_12)) (fun _ h9 => h9) rfl dX4_copy_61 ?_
              refine lv_aload hx hb dX4_copy_64 (lv_at hl 0 rfl) ?_
              refine va_getN (D := D) (ci := 2) (v := .int (S_lane 0)) (C := RX2) (T := TX2) (N := 3) hx hb hts inX2 hown hK hP 13 rfl rfl 1 (by decide) (va_Nw.use rfl (hnw _ nn_12)) (fun _ h9 => h9) rfl dX4_copy_66 ?_
              refine lv_icmp_eq (tgt := 78) hx hb dX4_copy_69 (by decide) (fun hc10 => ?_) (fun hc10 => ?_)
              · replace hf := (if_pos hc10).symm.trans hf
                refine lv_aload hx hb dX4_copy_78 (lv_at hl 1 rfl) ?_
                refine lv_iload_n hx hb dX4_copy_80 rfl (lv_at hl 4 rfl) ?_
                refine lv_iload hx hb dX4_copy_81 (lv_at hl 7 rfl) ?_
                obtain ⟨q83_1, hq11, hf⟩ := Option.bind_eq_some_iff.mp hf
                refine cV (ws' := (W_D cI cS a_d a_f a_t a_r a_z a_f_kind a_f_wet a_g a_g_kind a_g_wet a_r_cells a_r_hours a_r_cracked a_s0 a_s0_row a_s1 a_s1_row a_s2 a_s2_row a_s3 a_s3_row d_hour d_traced (0 : Int32) f_kind f_wet f_wide f_rows f_cells f_sun f_all f_firstColumn f_lastColumn t_hours t_opened t_firstWrong g_kind g_wet g_wide g_rows g_cells g_sun g_all g_firstColumn g_lastColumn r_cells r_hours r_cracked r_count S_row S_lane S_length)) (rest := []) (st1 := [.int q83_1]) Cc hK hA hP hD hS hl.1 (ctX2_has l D cI cS a_s0 a_s0_row (S_row 0) (S_lane 0) (S_length 0) p2 p5 n q83_1 hq11) ⟨tw_169, tw_166, tw_167, tw_168, tw_5⟩ mdX2_has ⟨rfl, rfl, Nat.le_of_ble_eq_true rfl, Nat.le_of_ble_eq_true rfl⟩ rfl dX4_copy_83 rfl (Nat.le_of_ble_eq_true rfl) ⟨Nat.zero_le _, Nat.zero_le _⟩ rfl rfl rfl [13, 14] [0, 1, 2, 3, 4, 5, 6, 7, 8, 9, 10, 11, 12, 15, 16, 17, 18, 19, 20] [0, 1, 2, 3, 4, 5, 6, 7, 8, 9, 10, 11, 12, 19, 20, 13, 14, 15, 16, 17, 18] rfl rfl (by decide) rfl (fun H locs hP hD hS => ?_)
                refine lv_if_eq (tgt := 101) hx hb dX4_copy_86 (by decide) (fun hc12 => ?_) (fun hc12 => ?_)
                · replace hf := (if_pos hc12).symm.trans hf
                  refine lv_aload_n hx hb dX4_copy_101 rfl (lv_at hl 2 rfl) ?_
                  refine lv_iconst (v := (3 : Int32)) hx hb dX4_copy_102 (by decide) ?_
                  obtain ⟨q103_1, hq13, hf⟩ := Option.bind_eq_some_iff.mp hf
                  refine cV (ws' := (W_D cI cS a_d a_f a_t a_r a_z a_f_kind a_f_wet a_g a_g_kind a_g_wet a_r_cells a_r_hours a_r_cracked a_s0 a_s0_row a_s1 a_s1_row a_s2 a_s2_row a_s3 a_s3_row d_hour d_traced q103_1.2 f_kind f_wet f_wide f_rows f_cells f_sun f_all f_firstColumn f_lastColumn t_hours t_opened t_firstWrong g_kind g_wet g_wide g_rows g_cells g_sun g_all g_firstColumn g_lastColumn r_cells r_hours r_cracked r_count S_row S_lane S_length)) (rest := []) (st1 := [.int q103_1.1]) Cc hK hA hP hD hS hl.1 (ctX4_faulted l D cI cS a_d a_f a_t a_r a_z d_hour d_traced (0 : Int32) (3 : Int32) n q103_1.1 q103_1.2 hq13) ⟨tw_173, tw_170, tw_172, tp_0, tw_1⟩ mdX4_faulted ⟨rfl, rfl, Nat.le_of_ble_eq_true rfl, Nat.le_of_ble_eq_true rfl⟩ rfl dX4_copy_103 rfl (Nat.le_of_ble_eq_true rfl) ⟨Nat.zero_le _, Nat.zero_le _⟩ rfl rfl rfl [0] [1, 2, 3, 4, 5, 6, 7, 8, 9, 10, 11, 12, 13, 14, 15, 16, 17, 18, 19, 20] [20, 0, 1, 2, 3, 4, 5, 6, 7, 8, 9, 10, 11, 12, 13, 14, 15, 16, 17, 18, 19] rfl rfl (by decide) rfl (fun H locs hP hD hS => ?_)
                  replace hf := Option.some.inj hf
                  obtain ⟨er0, er1⟩ := Prod.mk.inj hf
                  obtain ⟨er2, er3⟩ := Prod.mk.inj er1
                  clear hf er1
                  subst er0
                  subst er2
                  subst er3
                  exact rt_i Cc hK hP hD hS dX4_copy_106
                · replace hf := (if_neg hc12).symm.trans hf
                  refine lv_aload hx hb dX4_copy_89 (lv_at hl 0 rfl) ?_
                  refine lv_iload hx hb dX4_copy_91 (lv_at hl 6 rfl) ?_
                  refine lv_iload hx hb dX4_copy_93 (lv_at hl 7 rfl) ?_
                  obtain ⟨q95_1, hq14, hf⟩ := Option.bind_eq_some_iff.mp hf
                  refine cV (ws' := (W_D cI cS a_d a_f a_t a_r a_z a_f_kind a_f_wet a_g a_g_kind a_g_wet a_r_cells a_r_hours a_r_cracked a_s0 a_s0_row a_s1 a_s1_row a_s2 a_s2_row a_s3 a_s3_row d_hour d_traced (0 : Int32) f_kind f_wet f_wide f_rows f_cells f_sun f_all f_firstColumn f_lastColumn t_hours t_opened t_firstWrong g_kind g_wet g_wide g_rows g_cells g_sun g_all g_firstColumn g_lastColumn r_cells r_hours r_cracked r_count S_row S_lane S_length)) (rest := []) (st1 := [.int q95_1]) Cc hK hA hP hD hS hl.1 (ctX2_has l D cI cS a_s0 a_s0_row (S_row 0) (S_lane 0) (S_length 0) p4 p5 n q95_1 hq14) ⟨tw_169, tw_166, tw_167, tw_168, tw_5⟩ mdX2_has ⟨rfl, rfl, Nat.le_of_ble_eq_true rfl, Nat.le_of_ble_eq_true rfl⟩ rfl dX4_copy_95 rfl (Nat.le_of_ble_eq_true rfl) ⟨Nat.zero_le _, Nat.zero_le _⟩ rfl rfl rfl [13, 14] [0, 1, 2, 3, 4, 5, 6, 7, 8, 9, 10, 11, 12, 15, 16, 17, 18, 19, 20] [0, 1, 2, 3, 4, 5, 6, 7, 8, 9, 10, 11, 12, 19, 20, 13, 14, 15, 16, 17, 18] rfl rfl (by decide) rfl (fun H locs hP hD hS => ?_)
                  refine lv_if_ne (tgt := 107) hx hb dX4_copy_98 (by decide) (fun hc15 => ?_) (fun hc15 => ?_)
                  · replace hf := (if_neg hc15).symm.trans hf
                    refine lv_aload hx hb dX4_copy_107 (lv_at hl 1 rfl) ?_
                    refine va_getN (D := D) (ci := 2) (v := .ref a_s0_row) (C := RX2) (T := TX2) (N := 3) hx hb hts inX2 hown hK hP 13 rfl rfl 0 (by decide) (va_Nw.use rfl (hnw _ nn_11)) (fun _ h9 => h9) rfl dX4_copy_109 ?_
                    refine lv_iload_n hx hb dX4_copy_112 rfl (lv_at hl 4 rfl) ?_
                    refine lv_aload hx hb dX4_copy_113 (lv_at hl 0 rfl) ?_
                    refine va_getN (D := D) (ci := 2) (v := .ref a_s0_row) (C := RX2) (T := TX2) (N := 3) hx hb hts inX2 hown hK hP 13 rfl rfl 0 (by decide) (va_Nw.use rfl (hnw _ nn_11)) (fun _ h9 => h9) rfl dX4_copy_115 ?_
                    refine lv_iload hx hb dX4_copy_118 (lv_at hl 6 rfl) ?_
                    refine lv_iload hx hb dX4_copy_120 (lv_at hl 7 rfl) ?_
                    obtain ⟨⟨g1, g2, g3, g4, g5⟩, hf⟩ := cpg_some hf
                    refine va_copyi hx hb (hml.trans hl.1.symm) hown (hts _ tw_454) (hts _ tw_native) (hts _ tw_455) (hts _ tw_9) hK hP hD hS 14 14 0 0 rfl rfl rfl rfl rfl g1 g2 g3 g4 g5 (fun _ _ => rfl) (Nat.le_of_ble_eq_true rfl) (Nat.le_of_ble_eq_true rfl) dX4_copy_122 (fun H locs hP hD hS => ?_)
                    have hP : va_P D classes (W_D cI cS a_d a_f a_t a_r a_z a_f_kind a_f_wet a_g a_g_kind a_g_wet a_r_cells a_r_hours a_r_cracked a_s0 a_s0_row a_s1 a_s1_row a_s2 a_s2_row a_s3 a_s3_row d_hour d_traced (0 : Int32) f_kind f_wet f_wide f_rows f_cells f_sun f_all f_firstColumn f_lastColumn t_hours t_opened t_firstWrong g_kind g_wet g_wide g_rows g_cells g_sun g_all g_firstColumn g_lastColumn r_cells r_hours r_cracked r_count (va_up S_row 0 (va_cpy (S_row 0) (S_row 0) p2.toNatClampNeg p4.toNatClampNeg p5.toNatClampNeg)) S_lane S_length) H := hP
                    have hD : va_D A (W_D cI cS a_d a_f a_t a_r a_z a_f_kind a_f_wet a_g a_g_kind a_g_wet a_r_cells a_r_hours a_r_cracked a_s0 a_s0_row a_s1 a_s1_row a_s2 a_s2_row a_s3 a_s3_row d_hour d_traced (0 : Int32) f_kind f_wet f_wide f_rows f_cells f_sun f_all f_firstColumn f_lastColumn t_hours t_opened t_firstWrong g_kind g_wet g_wide g_rows g_cells g_sun g_all g_firstColumn g_lastColumn r_cells r_hours r_cracked r_count (va_up S_row 0 (va_cpy (S_row 0) (S_row 0) p2.toNatClampNeg p4.toNatClampNeg p5.toNatClampNeg)) S_lane S_length) := hD
                    refine lv_iload hx hb dX4_copy_125 (lv_at hl 7 rfl) ?_
                    replace hf := Option.some.inj hf
                    obtain ⟨er0, er1⟩ := Prod.mk.inj hf
                    obtain ⟨er2, er3⟩ := Prod.mk.inj er1
                    clear hf er1
                    subst er0
                    subst er2
                    subst er3
                    exact rt_i Cc hK hP hD hS dX4_copy_127
                  · replace hf := (if_pos hc15).symm.trans hf
                    refine lv_aload_n hx hb dX4_copy_101 rfl (lv_at hl 2 rfl) ?_
                    refine lv_iconst (v := (3 : Int32)) hx hb dX4_copy_102 (by decide) ?_
                    obtain ⟨q103_1, hq16, hf⟩ := Option.bind_eq_some_iff.mp hf
                    refine cV (ws' := (W_D cI cS a_d a_f a_t a_r a_z a_f_kind a_f_wet a_g a_g_kind a_g_wet a_r_cells a_r_hours a_r_cracked a_s0 a_s0_row a_s1 a_s1_row a_s2 a_s2_row a_s3 a_s3_row d_hour d_traced q103_1.2 f_kind f_wet f_wide f_rows f_cells f_sun f_all f_firstColumn f_lastColumn t_hours t_opened t_firstWrong g_kind g_wet g_wide g_rows g_cells g_sun g_all g_firstColumn g_lastColumn r_cells r_hours r_cracked r_count S_row S_lane S_length)) (rest := []) (st1 := [.int q103_1.1]) Cc hK hA hP hD hS hl.1 (ctX4_faulted l D cI cS a_d a_f a_t a_r a_z d_hour d_traced (0 : Int32) (3 : Int32) n q103_1.1 q103_1.2 hq16) ⟨tw_173, tw_170, tw_172, tp_0, tw_1⟩ mdX4_faulted ⟨rfl, rfl, Nat.le_of_ble_eq_true rfl, Nat.le_of_ble_eq_true rfl⟩ rfl dX4_copy_103 rfl (Nat.le_of_ble_eq_true rfl) ⟨Nat.zero_le _, Nat.zero_le _⟩ rfl rfl rfl [0] [1, 2, 3, 4, 5, 6, 7, 8, 9, 10, 11, 12, 13, 14, 15, 16, 17, 18, 19, 20] [20, 0, 1, 2, 3, 4, 5, 6, 7, 8, 9, 10, 11, 12, 13, 14, 15, 16, 17, 18, 19] rfl rfl (by decide) rfl (fun H locs hP hD hS => ?_)
                    replace hf := Option.some.inj hf
                    obtain ⟨er0, er1⟩ := Prod.mk.inj hf
                    obtain ⟨er2, er3⟩ := Prod.mk.inj er1
                    clear hf er1
                    subst er0
                    subst er2
                    subst er3
                    exact rt_i Cc hK hP hD hS dX4_copy_106
              · replace hf := (if_neg hc10).symm.trans hf
                refine lv_aload_n hx hb dX4_copy_72 rfl (lv_at hl 2 rfl) ?_
                refine lv_iconst (v := (2 : Int32)) hx hb dX4_copy_73 (by decide) ?_
                obtain ⟨q74_1, hq17, hf⟩ := Option.bind_eq_some_iff.mp hf
                refine cV (ws' := (W_D cI cS a_d a_f a_t a_r a_z a_f_kind a_f_wet a_g a_g_kind a_g_wet a_r_cells a_r_hours a_r_cracked a_s0 a_s0_row a_s1 a_s1_row a_s2 a_s2_row a_s3 a_s3_row d_hour d_traced q74_1.2 f_kind f_wet f_wide f_rows f_cells f_sun f_all f_firstColumn f_lastColumn t_hours t_opened t_firstWrong g_kind g_wet g_wide g_rows g_cells g_sun g_all g_firstColumn g_lastColumn r_cells r_hours r_cracked r_count S_row S_lane S_length)) (rest := []) (st1 := [.int q74_1.1]) Cc hK hA hP hD hS hl.1 (ctX4_faulted l D cI cS a_d a_f a_t a_r a_z d_hour d_traced (0 : Int32) (2 : Int32) n q74_1.1 q74_1.2 hq17) ⟨tw_173, tw_170, tw_172, tp_0, tw_1⟩ mdX4_faulted ⟨rfl, rfl, Nat.le_of_ble_eq_true rfl, Nat.le_of_ble_eq_true rfl⟩ rfl dX4_copy_74 rfl (Nat.le_of_ble_eq_true rfl) ⟨Nat.zero_le _, Nat.zero_le _⟩ rfl rfl rfl [0] [1, 2, 3, 4, 5, 6, 7, 8, 9, 10, 11, 12, 13, 14, 15, 16, 17, 18, 19, 20] [20, 0, 1, 2, 3, 4, 5, 6, 7, 8, 9, 10, 11, 12, 13, 14, 15, 16, 17, 18, 19] rfl rfl (by decide) rfl (fun H locs hP hD hS => ?_)
                replace hf := Option.some.inj hf
                obtain ⟨er0, er1⟩ := Prod.mk.inj hf
                obtain ⟨er2, er3⟩ := Prod.mk.inj er1
                clear hf er1
                subst er0
                subst er2
                subst er3
                exact rt_i Cc hK hP hD hS dX4_copy_77
            · replace hf := (if_neg hc9).symm.trans hf
              refine lv_aload_n hx hb dX4_copy_53 rfl (lv_at hl 2 rfl) ?_
              refine lv_iconst (v := (1 : Int32)) hx hb dX4_copy_54 (by decide) ?_
              obtain ⟨q55_1, hq18, hf⟩ := Option.bind_eq_some_iff.mp hf
              refine cV (ws' := (W_D cI cS a_d a_f a_t a_r a_z a_f_kind a_f_wet a_g a_g_kind a_g_wet a_r_cells a_r_hours a_r_cracked a_s0 a_s0_row a_s1 a_s1_row a_s2 a_s2_row a_s3 a_s3_row d_hour d_traced q55_1.2 f_kind f_wet f_wide f_rows f_cells f_sun f_all f_firstColumn f_lastColumn t_hours t_opened t_firstWrong g_kind g_wet g_wide g_rows g_cells g_sun g_all g_firstColumn g_lastColumn r_cells r_hours r_cracked r_count S_row S_lane S_length)) (rest := []) (st1 := [.int q55_1.1]) Cc hK hA hP hD hS hl.1 (ctX4_faulted l D cI cS a_d a_f a_t a_r a_z d_hour d_traced (0 : Int32) (1 : Int32) n q55_1.1 q55_1.2 hq18) ⟨tw_173, tw_170, tw_172, tp_0, tw_1⟩ mdX4_faulted ⟨rfl, rfl, Nat.le_of_ble_eq_true rfl, Nat.le_of_ble_eq_true rfl⟩ rfl dX4_copy_55 rfl (Nat.le_of_ble_eq_true rfl) ⟨Nat.zero_le _, Nat.zero_le _⟩ rfl rfl rfl [0] [1, 2, 3, 4, 5, 6, 7, 8, 9, 10, 11, 12, 13, 14, 15, 16, 17, 18, 19, 20] [20, 0, 1, 2, 3, 4, 5, 6, 7, 8, 9, 10, 11, 12, 13, 14, 15, 16, 17, 18, 19] rfl rfl (by decide) rfl (fun H locs hP hD hS => ?_)
              replace hf := Option.some.inj hf
              obtain ⟨er0, er1⟩ := Prod.mk.inj hf
              obtain ⟨er2, er3⟩ := Prod.mk.inj er1
              clear hf er1
              subst er0
              subst er2
              subst er3
              exact rt_i Cc hK hP hD hS dX4_copy_58
        · refine W.eq (g2 := F0 m 35 ls [.ref a_s1]) rfl ?_
          refine lv_astore (lv' := [(7, .ref a_s1), (6, .ref a_s0), (0, .ref a_d), (1, .int p1), (2, .int p2), (3, .int p3), (4, .int p4), (5, .int p5)]) hx hb dX4_copy_35 hl (by decide) rfl (fun ls hl => ?_)
          refine lv_aload hx hb dX4_copy_37 (lv_at hl 1 rfl) ?_
          obtain ⟨q39_1, hq19, hf⟩ := Option.bind_eq_some_iff.mp hf
          refine cV (ws' := (W_D cI cS a_d a_f a_t a_r a_z a_f_kind a_f_wet a_g a_g_kind a_g_wet a_r_cells a_r_hours a_r_cracked a_s0 a_s0_row a_s1 a_s1_row a_s2 a_s2_row a_s3 a_s3_row d_hour d_traced (0 : Int32) f_kind f_wet f_wide f_rows f_cells f_sun f_all f_firstColumn f_lastColumn t_hours t_opened t_firstWrong g_kind g_wet g_wide g_rows g_cells g_sun g_all g_firstColumn g_lastColumn r_cells r_hours r_cracked r_count S_row S_lane S_length)) (rest := []) (st1 := [.int q39_1]) Cc hK hA hP hD hS hl.1 (ctX2_isNothing l D cI cS a_s0 a_s0_row (S_row 0) (S_lane 0) (S_length 0)  n q39_1 hq19) ⟨tw_165, tw_428, tw_163, tw_164, tw_5⟩ mdX2_isNothing ⟨rfl, rfl, Nat.le_of_ble_eq_true rfl, Nat.le_of_ble_eq_true rfl⟩ rfl dX4_copy_39 rfl (Nat.le_of_ble_eq_true rfl) ⟨Nat.zero_le _, Nat.zero_le _⟩ rfl rfl rfl [13, 14] [0, 1, 2, 3, 4, 5, 6, 7, 8, 9, 10, 11, 12, 15, 16, 17, 18, 19, 20] [0, 1, 2, 3, 4, 5, 6, 7, 8, 9, 10, 11, 12, 19, 20, 13, 14, 15, 16, 17, 18] rfl rfl (by decide) rfl (fun H locs hP hD hS => ?_)
          refine lv_if_ne (tgt := 53) hx hb dX4_copy_42 (by decide) (fun hc20 => ?_) (fun hc20 => ?_)
          · replace hf := (if_neg hc20).symm.trans hf
            refine lv_aload_n hx hb dX4_copy_53 rfl (lv_at hl 2 rfl) ?_
            refine lv_iconst (v := (1 : Int32)) hx hb dX4_copy_54 (by decide) ?_
            obtain ⟨q55_1, hq21, hf⟩ := Option.bind_eq_some_iff.mp hf
            refine cV (ws' := (W_D cI cS a_d a_f a_t a_r a_z a_f_kind a_f_wet a_g a_g_kind a_g_wet a_r_cells a_r_hours a_r_cracked a_s0 a_s0_row a_s1 a_s1_row a_s2 a_s2_row a_s3 a_s3_row d_hour d_traced q55_1.2 f_kind f_wet f_wide f_rows f_cells f_sun f_all f_firstColumn f_lastColumn t_hours t_opened t_firstWrong g_kind g_wet g_wide g_rows g_cells g_sun g_all g_firstColumn g_lastColumn r_cells r_hours r_cracked r_count S_row S_lane S_length)) (rest := []) (st1 := [.int q55_1.1]) Cc hK hA hP hD hS hl.1 (ctX4_faulted l D cI cS a_d a_f a_t a_r a_z d_hour d_traced (0 : Int32) (1 : Int32) n q55_1.1 q55_1.2 hq21) ⟨tw_173, tw_170, tw_172, tp_0, tw_1⟩ mdX4_faulted ⟨rfl, rfl, Nat.le_of_ble_eq_true rfl, Nat.le_of_ble_eq_true rfl⟩ rfl dX4_copy_55 rfl (Nat.le_of_ble_eq_true rfl) ⟨Nat.zero_le _, Nat.zero_le _⟩ rfl rfl rfl [0] [1, 2, 3, 4, 5, 6, 7, 8, 9, 10, 11, 12, 13, 14, 15, 16, 17, 18, 19, 20] [20, 0, 1, 2, 3, 4, 5, 6, 7, 8, 9, 10, 11, 12, 13, 14, 15, 16, 17, 18, 19] rfl rfl (by decide) rfl (fun H locs hP hD hS => ?_)
            replace hf := Option.some.inj hf
            obtain ⟨er0, er1⟩ := Prod.mk.inj hf
            obtain ⟨er2, er3⟩ := Prod.mk.inj er1
            clear hf er1
            subst er0
            subst er2
            subst er3
            exact rt_i Cc hK hP hD hS dX4_copy_58
          · replace hf := (if_pos hc20).symm.trans hf
            refine lv_aload hx hb dX4_copy_45 (lv_at hl 0 rfl) ?_
            obtain ⟨q47_1, hq22, hf⟩ := Option.bind_eq_some_iff.mp hf
            refine cV (ws' := (W_D cI cS a_d a_f a_t a_r a_z a_f_kind a_f_wet a_g a_g_kind a_g_wet a_r_cells a_r_hours a_r_cracked a_s0 a_s0_row a_s1 a_s1_row a_s2 a_s2_row a_s3 a_s3_row d_hour d_traced (0 : Int32) f_kind f_wet f_wide f_rows f_cells f_sun f_all f_firstColumn f_lastColumn t_hours t_opened t_firstWrong g_kind g_wet g_wide g_rows g_cells g_sun g_all g_firstColumn g_lastColumn r_cells r_hours r_cracked r_count S_row S_lane S_length)) (rest := []) (st1 := [.int q47_1]) Cc hK hA hP hD hS hl.1 (ctX2_isNothing l D cI cS a_s1 a_s1_row (S_row 1) (S_lane 1) (S_length 1)  n q47_1 hq22) ⟨tw_165, tw_428, tw_163, tw_164, tw_5⟩ mdX2_isNothing ⟨rfl, rfl, Nat.le_of_ble_eq_true rfl, Nat.le_of_ble_eq_true rfl⟩ rfl dX4_copy_47 rfl (Nat.le_of_ble_eq_true rfl) ⟨Nat.zero_le _, Nat.zero_le _⟩ rfl rfl rfl [15, 16] [0, 1, 2, 3, 4, 5, 6, 7, 8, 9, 10, 11, 12, 13, 14, 17, 18, 19, 20] [0, 1, 2, 3, 4, 5, 6, 7, 8, 9, 10, 11, 12, 13, 14, 19, 20, 15, 16, 17, 18] rfl rfl (by decide) rfl (fun H locs hP hD hS => ?_)
            refine lv_if_eq (tgt := 59) hx hb dX4_copy_50 (by decide) (fun hc23 => ?_) (fun hc23 => ?_)
            · replace hf := (if_pos hc23).symm.trans hf
              refine lv_aload hx hb dX4_copy_59 (lv_at hl 1 rfl) ?_
              refine va_getN (D := D) (ci := 2) (v := .int (S_lane 0)) (C := RX2) (T := TX2) (N := 3) hx hb hts inX2 hown hK hP 13 rfl rfl 1 (by decide) (va_Nw.use rfl (hnw _ nn_12)) (fun _ h9 => h9) rfl dX4_copy_61 ?_
              refine lv_aload hx hb dX4_copy_64 (lv_at hl 0 rfl) ?_
              refine va_getN (D := D) (ci := 2) (v := .int (S_lane 1)) (C := RX2) (T := TX2) (N := 3) hx hb hts inX2 hown hK hP 15 rfl rfl 1 (by decide) (va_Nw.use rfl (hnw _ nn_12)) (fun _ h9 => h9) rfl dX4_copy_66 ?_
              refine lv_icmp_eq (tgt := 78) hx hb dX4_copy_69 (by decide) (fun hc24 => ?_) (fun hc24 => ?_)
              · replace hf := (if_pos hc24).symm.trans hf
                refine lv_aload hx hb dX4_copy_78 (lv_at hl 1 rfl) ?_
                refine lv_iload_n hx hb dX4_copy_80 rfl (lv_at hl 4 rfl) ?_
                refine lv_iload hx hb dX4_copy_81 (lv_at hl 7 rfl) ?_
                obtain ⟨q83_1, hq25, hf⟩ := Option.bind_eq_some_iff.mp hf
                refine cV (ws' := (W_D cI cS a_d a_f a_t a_r a_z a_f_kind a_f_wet a_g a_g_kind a_g_wet a_r_cells a_r_hours a_r_cracked a_s0 a_s0_row a_s1 a_s1_row a_s2 a_s2_row a_s3 a_s3_row d_hour d_traced (0 : Int32) f_kind f_wet f_wide f_rows f_cells f_sun f_all f_firstColumn f_lastColumn t_hours t_opened t_firstWrong g_kind g_wet g_wide g_rows g_cells g_sun g_all g_firstColumn g_lastColumn r_cells r_hours r_cracked r_count S_row S_lane S_length)) (rest := []) (st1 := [.int q83_1]) Cc hK hA hP hD hS hl.1 (ctX2_has l D cI cS a_s0 a_s0_row (S_row 0) (S_lane 0) (S_length 0) p2 p5 n q83_1 hq25) ⟨tw_169, tw_166, tw_167, tw_168, tw_5⟩ mdX2_has ⟨rfl, rfl, Nat.le_of_ble_eq_true rfl, Nat.le_of_ble_eq_true rfl⟩ rfl dX4_copy_83 rfl (Nat.le_of_ble_eq_true rfl) ⟨Nat.zero_le _, Nat.zero_le _⟩ rfl rfl rfl [13, 14] [0, 1, 2, 3, 4, 5, 6, 7, 8, 9, 10, 11, 12, 15, 16, 17, 18, 19, 20] [0, 1, 2, 3, 4, 5, 6, 7, 8, 9, 10, 11, 12, 19, 20, 13, 14, 15, 16, 17, 18] rfl rfl (by decide) rfl (fun H locs hP hD hS => ?_)
                refine lv_if_eq (tgt := 101) hx hb dX4_copy_86 (by decide) (fun hc26 => ?_) (fun hc26 => ?_)
                · replace hf := (if_pos hc26).symm.trans hf
                  refine lv_aload_n hx hb dX4_copy_101 rfl (lv_at hl 2 rfl) ?_
                  refine lv_iconst (v := (3 : Int32)) hx hb dX4_copy_102 (by decide) ?_
                  obtain ⟨q103_1, hq27, hf⟩ := Option.bind_eq_some_iff.mp hf
                  refine cV (ws' := (W_D cI cS a_d a_f a_t a_r a_z a_f_kind a_f_wet a_g a_g_kind a_g_wet a_r_cells a_r_hours a_r_cracked a_s0 a_s0_row a_s1 a_s1_row a_s2 a_s2_row a_s3 a_s3_row d_hour d_traced q103_1.2 f_kind f_wet f_wide f_rows f_cells f_sun f_all f_firstColumn f_lastColumn t_hours t_opened t_firstWrong g_kind g_wet g_wide g_rows g_cells g_sun g_all g_firstColumn g_lastColumn r_cells r_hours r_cracked r_count S_row S_lane S_length)) (rest := []) (st1 := [.int q103_1.1]) Cc hK hA hP hD hS hl.1 (ctX4_faulted l D cI cS a_d a_f a_t a_r a_z d_hour d_traced (0 : Int32) (3 : Int32) n q103_1.1 q103_1.2 hq27) ⟨tw_173, tw_170, tw_172, tp_0, tw_1⟩ mdX4_faulted ⟨rfl, rfl, Nat.le_of_ble_eq_true rfl, Nat.le_of_ble_eq_true rfl⟩ rfl dX4_copy_103 rfl (Nat.le_of_ble_eq_true rfl) ⟨Nat.zero_le _, Nat.zero_le _⟩ rfl rfl rfl [0] [1, 2, 3, 4, 5, 6, 7, 8, 9, 10, 11, 12, 13, 14, 15, 16, 17, 18, 19, 20] [20, 0, 1, 2, 3, 4, 5, 6, 7, 8, 9, 10, 11, 12, 13, 14, 15, 16, 17, 18, 19] rfl rfl (by decide) rfl (fun H locs hP hD hS => ?_)
                  replace hf := Option.some.inj hf
                  obtain ⟨er0, er1⟩ := Prod.mk.inj hf
                  obtain ⟨er2, er3⟩ := Prod.mk.inj er1
                  clear hf er1
                  subst er0
                  subst er2
                  subst er3
                  exact rt_i Cc hK hP hD hS dX4_copy_106
                · replace hf := (if_neg hc26).symm.trans hf
                  refine lv_aload hx hb dX4_copy_89 (lv_at hl 0 rfl) ?_
                  refine lv_iload hx hb dX4_copy_91 (lv_at hl 6 rfl) ?_
                  refine lv_iload hx hb dX4_copy_93 (lv_at hl 7 rfl) ?_
                  obtain ⟨q95_1, hq28, hf⟩ := Option.bind_eq_some_iff.mp hf
                  refine cV (ws' := (W_D cI cS a_d a_f a_t a_r a_z a_f_kind a_f_wet a_g a_g_kind a_g_wet a_r_cells a_r_hours a_r_cracked a_s0 a_s0_row a_s1 a_s1_row a_s2 a_s2_row a_s3 a_s3_row d_hour d_traced (0 : Int32) f_kind f_wet f_wide f_rows f_cells f_sun f_all f_firstColumn f_lastColumn t_hours t_opened t_firstWrong g_kind g_wet g_wide g_rows g_cells g_sun g_all g_firstColumn g_lastColumn r_cells r_hours r_cracked r_count S_row S_lane S_length)) (rest := []) (st1 := [.int q95_1]) Cc hK hA hP hD hS hl.1 (ctX2_has l D cI cS a_s1 a_s1_row (S_row 1) (S_lane 1) (S_length 1) p4 p5 n q95_1 hq28) ⟨tw_169, tw_166, tw_167, tw_168, tw_5⟩ mdX2_has ⟨rfl, rfl, Nat.le_of_ble_eq_true rfl, Nat.le_of_ble_eq_true rfl⟩ rfl dX4_copy_95 rfl (Nat.le_of_ble_eq_true rfl) ⟨Nat.zero_le _, Nat.zero_le _⟩ rfl rfl rfl [15, 16] [0, 1, 2, 3, 4, 5, 6, 7, 8, 9, 10, 11, 12, 13, 14, 17, 18, 19, 20] [0, 1, 2, 3, 4, 5, 6, 7, 8, 9, 10, 11, 12, 13, 14, 19, 20, 15, 16, 17, 18] rfl rfl (by decide) rfl (fun H locs hP hD hS => ?_)
                  refine lv_if_ne (tgt := 107) hx hb dX4_copy_98 (by decide) (fun hc29 => ?_) (fun hc29 => ?_)
                  · replace hf := (if_neg hc29).symm.trans hf
                    refine lv_aload hx hb dX4_copy_107 (lv_at hl 1 rfl) ?_
                    refine va_getN (D := D) (ci := 2) (v := .ref a_s0_row) (C := RX2) (T := TX2) (N := 3) hx hb hts inX2 hown hK hP 13 rfl rfl 0 (by decide) (va_Nw.use rfl (hnw _ nn_11)) (fun _ h9 => h9) rfl dX4_copy_109 ?_
                    refine lv_iload_n hx hb dX4_copy_112 rfl (lv_at hl 4 rfl) ?_
                    refine lv_aload hx hb dX4_copy_113 (lv_at hl 0 rfl) ?_
                    refine va_getN (D := D) (ci := 2) (v := .ref a_s1_row) (C := RX2) (T := TX2) (N := 3) hx hb hts inX2 hown hK hP 15 rfl rfl 0 (by decide) (va_Nw.use rfl (hnw _ nn_11)) (fun _ h9 => h9) rfl dX4_copy_115 ?_
                    refine lv_iload hx hb dX4_copy_118 (lv_at hl 6 rfl) ?_
                    refine lv_iload hx hb dX4_copy_120 (lv_at hl 7 rfl) ?_
                    obtain ⟨⟨g1, g2, g3, g4, g5⟩, hf⟩ := cpg_some hf
                    refine va_copyi hx hb (hml.trans hl.1.symm) hown (hts _ tw_454) (hts _ tw_native) (hts _ tw_455) (hts _ tw_9) hK hP hD hS 14 16 0 0 rfl rfl rfl rfl rfl g1 g2 g3 g4 g5 (fun _ _ => rfl) (Nat.le_of_ble_eq_true rfl) (Nat.le_of_ble_eq_true rfl) dX4_copy_122 (fun H locs hP hD hS => ?_)
                    have hP : va_P D classes (W_D cI cS a_d a_f a_t a_r a_z a_f_kind a_f_wet a_g a_g_kind a_g_wet a_r_cells a_r_hours a_r_cracked a_s0 a_s0_row a_s1 a_s1_row a_s2 a_s2_row a_s3 a_s3_row d_hour d_traced (0 : Int32) f_kind f_wet f_wide f_rows f_cells f_sun f_all f_firstColumn f_lastColumn t_hours t_opened t_firstWrong g_kind g_wet g_wide g_rows g_cells g_sun g_all g_firstColumn g_lastColumn r_cells r_hours r_cracked r_count (va_up S_row 1 (va_cpy (S_row 0) (S_row 1) p2.toNatClampNeg p4.toNatClampNeg p5.toNatClampNeg)) S_lane S_length) H := hP
                    have hD : va_D A (W_D cI cS a_d a_f a_t a_r a_z a_f_kind a_f_wet a_g a_g_kind a_g_wet a_r_cells a_r_hours a_r_cracked a_s0 a_s0_row a_s1 a_s1_row a_s2 a_s2_row a_s3 a_s3_row d_hour d_traced (0 : Int32) f_kind f_wet f_wide f_rows f_cells f_sun f_all f_firstColumn f_lastColumn t_hours t_opened t_firstWrong g_kind g_wet g_wide g_rows g_cells g_sun g_all g_firstColumn g_lastColumn r_cells r_hours r_cracked r_count (va_up S_row 1 (va_cpy (S_row 0) (S_row 1) p2.toNatClampNeg p4.toNatClampNeg p5.toNatClampNeg)) S_lane S_length) := hD
                    refine lv_iload hx hb dX4_copy_125 (lv_at hl 7 rfl) ?_
                    replace hf := Option.some.inj hf
                    obtain ⟨er0, er1⟩ := Prod.mk.inj hf
                    obtain ⟨er2, er3⟩ := Prod.mk.inj er1
                    clear hf er1
                    subst er0
                    subst er2
                    subst er3
                    exact rt_i Cc hK hP hD hS dX4_copy_127
                  · replace hf := (if_pos hc29).symm.trans hf
                    refine lv_aload_n hx hb dX4_copy_101 rfl (lv_at hl 2 rfl) ?_
                    refine lv_iconst (v := (3 : Int32)) hx hb dX4_copy_102 (by decide) ?_
                    obtain ⟨q103_1, hq30, hf⟩ := Option.bind_eq_some_iff.mp hf
                    refine cV (ws' := (W_D cI cS a_d a_f a_t a_r a_z a_f_kind a_f_wet a_g a_g_kind a_g_wet a_r_cells a_r_hours a_r_cracked a_s0 a_s0_row a_s1 a_s1_row a_s2 a_s2_row a_s3 a_s3_row d_hour d_traced q103_1.2 f_kind f_wet f_wide f_rows f_cells f_sun f_all f_firstColumn f_lastColumn t_hours t_opened t_firstWrong g_kind g_wet g_wide g_rows g_cells g_sun g_all g_firstColumn g_lastColumn r_cells r_hours r_cracked r_count S_row S_lane S_length)) (rest := []) (st1 := [.int q103_1.1]) Cc hK hA hP hD hS hl.1 (ctX4_faulted l D cI cS a_d a_f a_t a_r a_z d_hour d_traced (0 : Int32) (3 : Int32) n q103_1.1 q103_1.2 hq30) ⟨tw_173, tw_170, tw_172, tp_0, tw_1⟩ mdX4_faulted ⟨rfl, rfl, Nat.le_of_ble_eq_true rfl, Nat.le_of_ble_eq_true rfl⟩ rfl dX4_copy_103 rfl (Nat.le_of_ble_eq_true rfl) ⟨Nat.zero_le _, Nat.zero_le _⟩ rfl rfl rfl [0] [1, 2, 3, 4, 5, 6, 7, 8, 9, 10, 11, 12, 13, 14, 15, 16, 17, 18, 19, 20] [20, 0, 1, 2, 3, 4, 5, 6, 7, 8, 9, 10, 11, 12, 13, 14, 15, 16, 17, 18, 19] rfl rfl (by decide) rfl (fun H locs hP hD hS => ?_)
                    replace hf := Option.some.inj hf
                    obtain ⟨er0, er1⟩ := Prod.mk.inj hf
                    obtain ⟨er2, er3⟩ := Prod.mk.inj er1
                    clear hf er1
                    subst er0
                    subst er2
                    subst er3
                    exact rt_i Cc hK hP hD hS dX4_copy_106
              · replace hf := (if_neg hc24).symm.trans hf
                refine lv_aload_n hx hb dX4_copy_72 rfl (lv_at hl 2 rfl) ?_
                refine lv_iconst (v := (2 : Int32)) hx hb dX4_copy_73 (by decide) ?_
                obtain ⟨q74_1, hq31, hf⟩ := Option.bind_eq_some_iff.mp hf
                refine cV (ws' := (W_D cI cS a_d a_f a_t a_r a_z a_f_kind a_f_wet a_g a_g_kind a_g_wet a_r_cells a_r_hours a_r_cracked a_s0 a_s0_row a_s1 a_s1_row a_s2 a_s2_row a_s3 a_s3_row d_hour d_traced q74_1.2 f_kind f_wet f_wide f_rows f_cells f_sun f_all f_firstColumn f_lastColumn t_hours t_opened t_firstWrong g_kind g_wet g_wide g_rows g_cells g_sun g_all g_firstColumn g_lastColumn r_cells r_hours r_cracked r_count S_row S_lane S_length)) (rest := []) (st1 := [.int q74_1.1]) Cc hK hA hP hD hS hl.1 (ctX4_faulted l D cI cS a_d a_f a_t a_r a_z d_hour d_traced (0 : Int32) (2 : Int32) n q74_1.1 q74_1.2 hq31) ⟨tw_173, tw_170, tw_172, tp_0, tw_1⟩ mdX4_faulted ⟨rfl, rfl, Nat.le_of_ble_eq_true rfl, Nat.le_of_ble_eq_true rfl⟩ rfl dX4_copy_74 rfl (Nat.le_of_ble_eq_true rfl) ⟨Nat.zero_le _, Nat.zero_le _⟩ rfl rfl rfl [0] [1, 2, 3, 4, 5, 6, 7, 8, 9, 10, 11, 12, 13, 14, 15, 16, 17, 18, 19, 20] [20, 0, 1, 2, 3, 4, 5, 6, 7, 8, 9, 10, 11, 12, 13, 14, 15, 16, 17, 18, 19] rfl rfl (by decide) rfl (fun H locs hP hD hS => ?_)
                replace hf := Option.some.inj hf
                obtain ⟨er0, er1⟩ := Prod.mk.inj hf
                obtain ⟨er2, er3⟩ := Prod.mk.inj er1
                clear hf er1
                subst er0
                subst er2
                subst er3
                exact rt_i Cc hK hP hD hS dX4_copy_77
            · replace hf := (if_neg hc23).symm.trans hf
              refine lv_aload_n hx hb dX4_copy_53 rfl (lv_at hl 2 rfl) ?_
              refine lv_iconst (v := (1 : Int32)) hx hb dX4_copy_54 (by decide) ?_
              obtain ⟨q55_1, hq32, hf⟩ := Option.bind_eq_some_iff.mp hf
              refine cV (ws' := (W_D cI cS a_d a_f a_t a_r a_z a_f_kind a_f_wet a_g a_g_kind a_g_wet a_r_cells a_r_hours a_r_cracked a_s0 a_s0_row a_s1 a_s1_row a_s2 a_s2_row a_s3 a_s3_row d_hour d_traced q55_1.2 f_kind f_wet f_wide f_rows f_cells f_sun f_all f_firstColumn f_lastColumn t_hours t_opened t_firstWrong g_kind g_wet g_wide g_rows g_cells g_sun g_all g_firstColumn g_lastColumn r_cells r_hours r_cracked r_count S_row S_lane S_length)) (rest := []) (st1 := [.int q55_1.1]) Cc hK hA hP hD hS hl.1 (ctX4_faulted l D cI cS a_d a_f a_t a_r a_z d_hour d_traced (0 : Int32) (1 : Int32) n q55_1.1 q55_1.2 hq32) ⟨tw_173, tw_170, tw_172, tp_0, tw_1⟩ mdX4_faulted ⟨rfl, rfl, Nat.le_of_ble_eq_true rfl, Nat.le_of_ble_eq_true rfl⟩ rfl dX4_copy_55 rfl (Nat.le_of_ble_eq_true rfl) ⟨Nat.zero_le _, Nat.zero_le _⟩ rfl rfl rfl [0] [1, 2, 3, 4, 5, 6, 7, 8, 9, 10, 11, 12, 13, 14, 15, 16, 17, 18, 19, 20] [20, 0, 1, 2, 3, 4, 5, 6, 7, 8, 9, 10, 11, 12, 13, 14, 15, 16, 17, 18, 19] rfl rfl (by decide) rfl (fun H locs hP hD hS => ?_)
              replace hf := Option.some.inj hf
              obtain ⟨er0, er1⟩ := Prod.mk.inj hf
              obtain ⟨er2, er3⟩ := Prod.mk.inj er1
              clear hf er1
              subst er0
              subst er2
              subst er3
              exact rt_i Cc hK hP hD hS dX4_copy_58
        · refine W.eq (g2 := F0 m 35 ls [.ref a_s2]) rfl ?_
          refine lv_astore (lv' := [(7, .ref a_s2), (6, .ref a_s0), (0, .ref a_d), (1, .int p1), (2, .int p2), (3, .int p3), (4, .int p4), (5, .int p5)]) hx hb dX4_copy_35 hl (by decide) rfl (fun ls hl => ?_)
          refine lv_aload hx hb dX4_copy_37 (lv_at hl 1 rfl) ?_
          obtain ⟨q39_1, hq33, hf⟩ := Option.bind_eq_some_iff.mp hf
          refine cV (ws' := (W_D cI cS a_d a_f a_t a_r a_z a_f_kind a_f_wet a_g a_g_kind a_g_wet a_r_cells a_r_hours a_r_cracked a_s0 a_s0_row a_s1 a_s1_row a_s2 a_s2_row a_s3 a_s3_row d_hour d_traced (0 : Int32) f_kind f_wet f_wide f_rows f_cells f_sun f_all f_firstColumn f_lastColumn t_hours t_opened t_firstWrong g_kind g_wet g_wide g_rows g_cells g_sun g_all g_firstColumn g_lastColumn r_cells r_hours r_cracked r_count S_row S_lane S_length)) (rest := []) (st1 := [.int q39_1]) Cc hK hA hP hD hS hl.1 (ctX2_isNothing l D cI cS a_s0 a_s0_row (S_row 0) (S_lane 0) (S_length 0)  n q39_1 hq33) ⟨tw_165, tw_428, tw_163, tw_164, tw_5⟩ mdX2_isNothing ⟨rfl, rfl, Nat.le_of_ble_eq_true rfl, Nat.le_of_ble_eq_true rfl⟩ rfl dX4_copy_39 rfl (Nat.le_of_ble_eq_true rfl) ⟨Nat.zero_le _, Nat.zero_le _⟩ rfl rfl rfl [13, 14] [0, 1, 2, 3, 4, 5, 6, 7, 8, 9, 10, 11, 12, 15, 16, 17, 18, 19, 20] [0, 1, 2, 3, 4, 5, 6, 7, 8, 9, 10, 11, 12, 19, 20, 13, 14, 15, 16, 17, 18] rfl rfl (by decide) rfl (fun H locs hP hD hS => ?_)
          refine lv_if_ne (tgt := 53) hx hb dX4_copy_42 (by decide) (fun hc34 => ?_) (fun hc34 => ?_)
          · replace hf := (if_neg hc34).symm.trans hf
            refine lv_aload_n hx hb dX4_copy_53 rfl (lv_at hl 2 rfl) ?_
            refine lv_iconst (v := (1 : Int32)) hx hb dX4_copy_54 (by decide) ?_
            obtain ⟨q55_1, hq35, hf⟩ := Option.bind_eq_some_iff.mp hf
            refine cV (ws' := (W_D cI cS a_d a_f a_t a_r a_z a_f_kind a_f_wet a_g a_g_kind a_g_wet a_r_cells a_r_hours a_r_cracked a_s0 a_s0_row a_s1 a_s1_row a_s2 a_s2_row a_s3 a_s3_row d_hour d_traced q55_1.2 f_kind f_wet f_wide f_rows f_cells f_sun f_all f_firstColumn f_lastColumn t_hours t_opened t_firstWrong g_kind g_wet g_wide g_rows g_cells g_sun g_all g_firstColumn g_lastColumn r_cells r_hours r_cracked r_count S_row S_lane S_length)) (rest := []) (st1 := [.int q55_1.1]) Cc hK hA hP hD hS hl.1 (ctX4_faulted l D cI cS a_d a_f a_t a_r a_z d_hour d_traced (0 : Int32) (1 : Int32) n q55_1.1 q55_1.2 hq35) ⟨tw_173, tw_170, tw_172, tp_0, tw_1⟩ mdX4_faulted ⟨rfl, rfl, Nat.le_of_ble_eq_true rfl, Nat.le_of_ble_eq_true rfl⟩ rfl dX4_copy_55 rfl (Nat.le_of_ble_eq_true rfl) ⟨Nat.zero_le _, Nat.zero_le _⟩ rfl rfl rfl [0] [1, 2, 3, 4, 5, 6, 7, 8, 9, 10, 11, 12, 13, 14, 15, 16, 17, 18, 19, 20] [20, 0, 1, 2, 3, 4, 5, 6, 7, 8, 9, 10, 11, 12, 13, 14, 15, 16, 17, 18, 19] rfl rfl (by decide) rfl (fun H locs hP hD hS => ?_)
            replace hf := Option.some.inj hf
            obtain ⟨er0, er1⟩ := Prod.mk.inj hf
            obtain ⟨er2, er3⟩ := Prod.mk.inj er1
            clear hf er1
            subst er0
            subst er2
            subst er3
            exact rt_i Cc hK hP hD hS dX4_copy_58
          · replace hf := (if_pos hc34).symm.trans hf
            refine lv_aload hx hb dX4_copy_45 (lv_at hl 0 rfl) ?_
            obtain ⟨q47_1, hq36, hf⟩ := Option.bind_eq_some_iff.mp hf
            refine cV (ws' := (W_D cI cS a_d a_f a_t a_r a_z a_f_kind a_f_wet a_g a_g_kind a_g_wet a_r_cells a_r_hours a_r_cracked a_s0 a_s0_row a_s1 a_s1_row a_s2 a_s2_row a_s3 a_s3_row d_hour d_traced (0 : Int32) f_kind f_wet f_wide f_rows f_cells f_sun f_all f_firstColumn f_lastColumn t_hours t_opened t_firstWrong g_kind g_wet g_wide g_rows g_cells g_sun g_all g_firstColumn g_lastColumn r_cells r_hours r_cracked r_count S_row S_lane S_length)) (rest := []) (st1 := [.int q47_1]) Cc hK hA hP hD hS hl.1 (ctX2_isNothing l D cI cS a_s2 a_s2_row (S_row 2) (S_lane 2) (S_length 2)  n q47_1 hq36) ⟨tw_165, tw_428, tw_163, tw_164, tw_5⟩ mdX2_isNothing ⟨rfl, rfl, Nat.le_of_ble_eq_true rfl, Nat.le_of_ble_eq_true rfl⟩ rfl dX4_copy_47 rfl (Nat.le_of_ble_eq_true rfl) ⟨Nat.zero_le _, Nat.zero_le _⟩ rfl rfl rfl [17, 18] [0, 1, 2, 3, 4, 5, 6, 7, 8, 9, 10, 11, 12, 13, 14, 15, 16, 19, 20] [0, 1, 2, 3, 4, 5, 6, 7, 8, 9, 10, 11, 12, 13, 14, 15, 16, 19, 20, 17, 18] rfl rfl (by decide) rfl (fun H locs hP hD hS => ?_)
            refine lv_if_eq (tgt := 59) hx hb dX4_copy_50 (by decide) (fun hc37 => ?_) (fun hc37 => ?_)
            · replace hf := (if_pos hc37).symm.trans hf
              refine lv_aload hx hb dX4_copy_59 (lv_at hl 1 rfl) ?_
              refine va_getN (D := D) (ci := 2) (v := .int (S_lane 0)) (C := RX2) (T := TX2) (N := 3) hx hb hts inX2 hown hK hP 13 rfl rfl 1 (by decide) (va_Nw.use rfl (hnw _ nn_12)) (fun _ h9 => h9) rfl dX4_copy_61 ?_
              refine lv_aload hx hb dX4_copy_64 (lv_at hl 0 rfl) ?_
              refine va_getN (D := D) (ci := 2) (v := .int (S_lane 2)) (C := RX2) (T := TX2) (N := 3) hx hb hts inX2 hown hK hP 17 rfl rfl 1 (by decide) (va_Nw.use rfl (hnw _ nn_12)) (fun _ h9 => h9) rfl dX4_copy_66 ?_
              refine lv_icmp_eq (tgt := 78) hx hb dX4_copy_69 (by decide) (fun hc38 => ?_) (fun hc38 => ?_)
              · replace hf := (if_pos hc38).symm.trans hf
                refine lv_aload hx hb dX4_copy_78 (lv_at hl 1 rfl) ?_
                refine lv_iload_n hx hb dX4_copy_80 rfl (lv_at hl 4 rfl) ?_
                refine lv_iload hx hb dX4_copy_81 (lv_at hl 7 rfl) ?_
                obtain ⟨q83_1, hq39, hf⟩ := Option.bind_eq_some_iff.mp hf
                refine cV (ws' := (W_D cI cS a_d a_f a_t a_r a_z a_f_kind a_f_wet a_g a_g_kind a_g_wet a_r_cells a_r_hours a_r_cracked a_s0 a_s0_row a_s1 a_s1_row a_s2 a_s2_row a_s3 a_s3_row d_hour d_traced (0 : Int32) f_kind f_wet f_wide f_rows f_cells f_sun f_all f_firstColumn f_lastColumn t_hours t_opened t_firstWrong g_kind g_wet g_wide g_rows g_cells g_sun g_all g_firstColumn g_lastColumn r_cells r_hours r_cracked r_count S_row S_lane S_length)) (rest := []) (st1 := [.int q83_1]) Cc hK hA hP hD hS hl.1 (ctX2_has l D cI cS a_s0 a_s0_row (S_row 0) (S_lane 0) (S_length 0) p2 p5 n q83_1 hq39) ⟨tw_169, tw_166, tw_167, tw_168, tw_5⟩ mdX2_has ⟨rfl, rfl, Nat.le_of_ble_eq_true rfl, Nat.le_of_ble_eq_true rfl⟩ rfl dX4_copy_83 rfl (Nat.le_of_ble_eq_true rfl) ⟨Nat.zero_le _, Nat.zero_le _⟩ rfl rfl rfl [13, 14] [0, 1, 2, 3, 4, 5, 6, 7, 8, 9, 10, 11, 12, 15, 16, 17, 18, 19, 20] [0, 1, 2, 3, 4, 5, 6, 7, 8, 9, 10, 11, 12, 19, 20, 13, 14, 15, 16, 17, 18] rfl rfl (by decide) rfl (fun H locs hP hD hS => ?_)
                refine lv_if_eq (tgt := 101) hx hb dX4_copy_86 (by decide) (fun hc40 => ?_) (fun hc40 => ?_)
                · replace hf := (if_pos hc40).symm.trans hf
                  refine lv_aload_n hx hb dX4_copy_101 rfl (lv_at hl 2 rfl) ?_
                  refine lv_iconst (v := (3 : Int32)) hx hb dX4_copy_102 (by decide) ?_
                  obtain ⟨q103_1, hq41, hf⟩ := Option.bind_eq_some_iff.mp hf
                  refine cV (ws' := (W_D cI cS a_d a_f a_t a_r a_z a_f_kind a_f_wet a_g a_g_kind a_g_wet a_r_cells a_r_hours a_r_cracked a_s0 a_s0_row a_s1 a_s1_row a_s2 a_s2_row a_s3 a_s3_row d_hour d_traced q103_1.2 f_kind f_wet f_wide f_rows f_cells f_sun f_all f_firstColumn f_lastColumn t_hours t_opened t_firstWrong g_kind g_wet g_wide g_rows g_cells g_sun g_all g_firstColumn g_lastColumn r_cells r_hours r_cracked r_count S_row S_lane S_length)) (rest := []) (st1 := [.int q103_1.1]) Cc hK hA hP hD hS hl.1 (ctX4_faulted l D cI cS a_d a_f a_t a_r a_z d_hour d_traced (0 : Int32) (3 : Int32) n q103_1.1 q103_1.2 hq41) ⟨tw_173, tw_170, tw_172, tp_0, tw_1⟩ mdX4_faulted ⟨rfl, rfl, Nat.le_of_ble_eq_true rfl, Nat.le_of_ble_eq_true rfl⟩ rfl dX4_copy_103 rfl (Nat.le_of_ble_eq_true rfl) ⟨Nat.zero_le _, Nat.zero_le _⟩ rfl rfl rfl [0] [1, 2, 3, 4, 5, 6, 7, 8, 9, 10, 11, 12, 13, 14, 15, 16, 17, 18, 19, 20] [20, 0, 1, 2, 3, 4, 5, 6, 7, 8, 9, 10, 11, 12, 13, 14, 15, 16, 17, 18, 19] rfl rfl (by decide) rfl (fun H locs hP hD hS => ?_)
                  replace hf := Option.some.inj hf
                  obtain ⟨er0, er1⟩ := Prod.mk.inj hf
                  obtain ⟨er2, er3⟩ := Prod.mk.inj er1
                  clear hf er1
                  subst er0
                  subst er2
                  subst er3
                  exact rt_i Cc hK hP hD hS dX4_copy_106
                · replace hf := (if_neg hc40).symm.trans hf
                  refine lv_aload hx hb dX4_copy_89 (lv_at hl 0 rfl) ?_
                  refine lv_iload hx hb dX4_copy_91 (lv_at hl 6 rfl) ?_
                  refine lv_iload hx hb dX4_copy_93 (lv_at hl 7 rfl) ?_
                  obtain ⟨q95_1, hq42, hf⟩ := Option.bind_eq_some_iff.mp hf
                  refine cV (ws' := (W_D cI cS a_d a_f a_t a_r a_z a_f_kind a_f_wet a_g a_g_kind a_g_wet a_r_cells a_r_hours a_r_cracked a_s0 a_s0_row a_s1 a_s1_row a_s2 a_s2_row a_s3 a_s3_row d_hour d_traced (0 : Int32) f_kind f_wet f_wide f_rows f_cells f_sun f_all f_firstColumn f_lastColumn t_hours t_opened t_firstWrong g_kind g_wet g_wide g_rows g_cells g_sun g_all g_firstColumn g_lastColumn r_cells r_hours r_cracked r_count S_row S_lane S_length)) (rest := []) (st1 := [.int q95_1]) Cc hK hA hP hD hS hl.1 (ctX2_has l D cI cS a_s2 a_s2_row (S_row 2) (S_lane 2) (S_length 2) p4 p5 n q95_1 hq42) ⟨tw_169, tw_166, tw_167, tw_168, tw_5⟩ mdX2_has ⟨rfl, rfl, Nat.le_of_ble_eq_true rfl, Nat.le_of_ble_eq_true rfl⟩ rfl dX4_copy_95 rfl (Nat.le_of_ble_eq_true rfl) ⟨Nat.zero_le _, Nat.zero_le _⟩ rfl rfl rfl [17, 18] [0, 1, 2, 3, 4, 5, 6, 7, 8, 9, 10, 11, 12, 13, 14, 15, 16, 19, 20] [0, 1, 2, 3, 4, 5, 6, 7, 8, 9, 10, 11, 12, 13, 14, 15, 16, 19, 20, 17, 18] rfl rfl (by decide) rfl (fun H locs hP hD hS => ?_)
                  refine lv_if_ne (tgt := 107) hx hb dX4_copy_98 (by decide) (fun hc43 => ?_) (fun hc43 => ?_)
                  · replace hf := (if_neg hc43).symm.trans hf
                    refine lv_aload hx hb dX4_copy_107 (lv_at hl 1 rfl) ?_
                    refine va_getN (D := D) (ci := 2) (v := .ref a_s0_row) (C := RX2) (T := TX2) (N := 3) hx hb hts inX2 hown hK hP 13 rfl rfl 0 (by decide) (va_Nw.use rfl (hnw _ nn_11)) (fun _ h9 => h9) rfl dX4_copy_109 ?_
                    refine lv_iload_n hx hb dX4_copy_112 rfl (lv_at hl 4 rfl) ?_
                    refine lv_aload hx hb dX4_copy_113 (lv_at hl 0 rfl) ?_
                    refine va_getN (D := D) (ci := 2) (v := .ref a_s2_row) (C := RX2) (T := TX2) (N := 3) hx hb hts inX2 hown hK hP 17 rfl rfl 0 (by decide) (va_Nw.use rfl (hnw _ nn_11)) (fun _ h9 => h9) rfl dX4_copy_115 ?_
                    refine lv_iload hx hb dX4_copy_118 (lv_at hl 6 rfl) ?_
                    refine lv_iload hx hb dX4_copy_120 (lv_at hl 7 rfl) ?_
                    obtain ⟨⟨g1, g2, g3, g4, g5⟩, hf⟩ := cpg_some hf
                    refine va_copyi hx hb (hml.trans hl.1.symm) hown (hts _ tw_454) (hts _ tw_native) (hts _ tw_455) (hts _ tw_9) hK hP hD hS 14 18 0 0 rfl rfl rfl rfl rfl g1 g2 g3 g4 g5 (fun _ _ => rfl) (Nat.le_of_ble_eq_true rfl) (Nat.le_of_ble_eq_true rfl) dX4_copy_122 (fun H locs hP hD hS => ?_)
                    have hP : va_P D classes (W_D cI cS a_d a_f a_t a_r a_z a_f_kind a_f_wet a_g a_g_kind a_g_wet a_r_cells a_r_hours a_r_cracked a_s0 a_s0_row a_s1 a_s1_row a_s2 a_s2_row a_s3 a_s3_row d_hour d_traced (0 : Int32) f_kind f_wet f_wide f_rows f_cells f_sun f_all f_firstColumn f_lastColumn t_hours t_opened t_firstWrong g_kind g_wet g_wide g_rows g_cells g_sun g_all g_firstColumn g_lastColumn r_cells r_hours r_cracked r_count (va_up S_row 2 (va_cpy (S_row 0) (S_row 2) p2.toNatClampNeg p4.toNatClampNeg p5.toNatClampNeg)) S_lane S_length) H := hP
                    have hD : va_D A (W_D cI cS a_d a_f a_t a_r a_z a_f_kind a_f_wet a_g a_g_kind a_g_wet a_r_cells a_r_hours a_r_cracked a_s0 a_s0_row a_s1 a_s1_row a_s2 a_s2_row a_s3 a_s3_row d_hour d_traced (0 : Int32) f_kind f_wet f_wide f_rows f_cells f_sun f_all f_firstColumn f_lastColumn t_hours t_opened t_firstWrong g_kind g_wet g_wide g_rows g_cells g_sun g_all g_firstColumn g_lastColumn r_cells r_hours r_cracked r_count (va_up S_row 2 (va_cpy (S_row 0) (S_row 2) p2.toNatClampNeg p4.toNatClampNeg p5.toNatClampNeg)) S_lane S_length) := hD
                    refine lv_iload hx hb dX4_copy_125 (lv_at hl 7 rfl) ?_
                    replace hf := Option.some.inj hf
                    obtain ⟨er0, er1⟩ := Prod.mk.inj hf
                    obtain ⟨er2, er3⟩ := Prod.mk.inj er1
                    clear hf er1
                    subst er0
                    subst er2
                    subst er3
                    exact rt_i Cc hK hP hD hS dX4_copy_127
                  · replace hf := (if_pos hc43).symm.trans hf
                    refine lv_aload_n hx hb dX4_copy_101 rfl (lv_at hl 2 rfl) ?_
                    refine lv_iconst (v := (3 : Int32)) hx hb dX4_copy_102 (by decide) ?_
                    obtain ⟨q103_1, hq44, hf⟩ := Option.bind_eq_some_iff.mp hf
                    refine cV (ws' := (W_D cI cS a_d a_f a_t a_r a_z a_f_kind a_f_wet a_g a_g_kind a_g_wet a_r_cells a_r_hours a_r_cracked a_s0 a_s0_row a_s1 a_s1_row a_s2 a_s2_row a_s3 a_s3_row d_hour d_traced q103_1.2 f_kind f_wet f_wide f_rows f_cells f_sun f_all f_firstColumn f_lastColumn t_hours t_opened t_firstWrong g_kind g_wet g_wide g_rows g_cells g_sun g_all g_firstColumn g_lastColumn r_cells r_hours r_cracked r_count S_row S_lane S_length)) (rest := []) (st1 := [.int q103_1.1]) Cc hK hA hP hD hS hl.1 (ctX4_faulted l D cI cS a_d a_f a_t a_r a_z d_hour d_traced (0 : Int32) (3 : Int32) n q103_1.1 q103_1.2 hq44) ⟨tw_173, tw_170, tw_172, tp_0, tw_1⟩ mdX4_faulted ⟨rfl, rfl, Nat.le_of_ble_eq_true rfl, Nat.le_of_ble_eq_true rfl⟩ rfl dX4_copy_103 rfl (Nat.le_of_ble_eq_true rfl) ⟨Nat.zero_le _, Nat.zero_le _⟩ rfl rfl rfl [0] [1, 2, 3, 4, 5, 6, 7, 8, 9, 10, 11, 12, 13, 14, 15, 16, 17, 18, 19, 20] [20, 0, 1, 2, 3, 4, 5, 6, 7, 8, 9, 10, 11, 12, 13, 14, 15, 16, 17, 18, 19] rfl rfl (by decide) rfl (fun H locs hP hD hS => ?_)
                    replace hf := Option.some.inj hf
                    obtain ⟨er0, er1⟩ := Prod.mk.inj hf
                    obtain ⟨er2, er3⟩ := Prod.mk.inj er1
                    clear hf er1
                    subst er0
                    subst er2
                    subst er3
                    exact rt_i Cc hK hP hD hS dX4_copy_106
              · replace hf := (if_neg hc38).symm.trans hf
                refine lv_aload_n hx hb dX4_copy_72 rfl (lv_at hl 2 rfl) ?_
                refine lv_iconst (v := (2 : Int32)) hx hb dX4_copy_73 (by decide) ?_
                obtain ⟨q74_1, hq45, hf⟩ := Option.bind_eq_some_iff.mp hf
                refine cV (ws' := (W_D cI cS a_d a_f a_t a_r a_z a_f_kind a_f_wet a_g a_g_kind a_g_wet a_r_cells a_r_hours a_r_cracked a_s0 a_s0_row a_s1 a_s1_row a_s2 a_s2_row a_s3 a_s3_row d_hour d_traced q74_1.2 f_kind f_wet f_wide f_rows f_cells f_sun f_all f_firstColumn f_lastColumn t_hours t_opened t_firstWrong g_kind g_wet g_wide g_rows g_cells g_sun g_all g_firstColumn g_lastColumn r_cells r_hours r_cracked r_count S_row S_lane S_length)) (rest := []) (st1 := [.int q74_1.1]) Cc hK hA hP hD hS hl.1 (ctX4_faulted l D cI cS a_d a_f a_t a_r a_z d_hour d_traced (0 : Int32) (2 : Int32) n q74_1.1 q74_1.2 hq45) ⟨tw_173, tw_170, tw_172, tp_0, tw_1⟩ mdX4_faulted ⟨rfl, rfl, Nat.le_of_ble_eq_true rfl, Nat.le_of_ble_eq_true rfl⟩ rfl dX4_copy_74 rfl (Nat.le_of_ble_eq_true rfl) ⟨Nat.zero_le _, Nat.zero_le _⟩ rfl rfl rfl [0] [1, 2, 3, 4, 5, 6, 7, 8, 9, 10, 11, 12, 13, 14, 15, 16, 17, 18, 19, 20] [20, 0, 1, 2, 3, 4, 5, 6, 7, 8, 9, 10, 11, 12, 13, 14, 15, 16, 17, 18, 19] rfl rfl (by decide) rfl (fun H locs hP hD hS => ?_)
                replace hf := Option.some.inj hf
                obtain ⟨er0, er1⟩ := Prod.mk.inj hf
                obtain ⟨er2, er3⟩ := Prod.mk.inj er1
                clear hf er1
                subst er0
                subst er2
                subst er3
                exact rt_i Cc hK hP hD hS dX4_copy_77
            · replace hf := (if_neg hc37).symm.trans hf
              refine lv_aload_n hx hb dX4_copy_53 rfl (lv_at hl 2 rfl) ?_
              refine lv_iconst (v := (1 : Int32)) hx hb dX4_copy_54 (by decide) ?_
              obtain ⟨q55_1, hq46, hf⟩ := Option.bind_eq_some_iff.mp hf
              refine cV (ws' := (W_D cI cS a_d a_f a_t a_r a_z a_f_kind a_f_wet a_g a_g_kind a_g_wet a_r_cells a_r_hours a_r_cracked a_s0 a_s0_row a_s1 a_s1_row a_s2 a_s2_row a_s3 a_s3_row d_hour d_traced q55_1.2 f_kind f_wet f_wide f_rows f_cells f_sun f_all f_firstColumn f_lastColumn t_hours t_opened t_firstWrong g_kind g_wet g_wide g_rows g_cells g_sun g_all g_firstColumn g_lastColumn r_cells r_hours r_cracked r_count S_row S_lane S_length)) (rest := []) (st1 := [.int q55_1.1]) Cc hK hA hP hD hS hl.1 (ctX4_faulted l D cI cS a_d a_f a_t a_r a_z d_hour d_traced (0 : Int32) (1 : Int32) n q55_1.1 q55_1.2 hq46) ⟨tw_173, tw_170, tw_172, tp_0, tw_1⟩ mdX4_faulted ⟨rfl, rfl, Nat.le_of_ble_eq_true rfl, Nat.le_of_ble_eq_true rfl⟩ rfl dX4_copy_55 rfl (Nat.le_of_ble_eq_true rfl) ⟨Nat.zero_le _, Nat.zero_le _⟩ rfl rfl rfl [0] [1, 2, 3, 4, 5, 6, 7, 8, 9, 10, 11, 12, 13, 14, 15, 16, 17, 18, 19, 20] [20, 0, 1, 2, 3, 4, 5, 6, 7, 8, 9, 10, 11, 12, 13, 14, 15, 16, 17, 18, 19] rfl rfl (by decide) rfl (fun H locs hP hD hS => ?_)
              replace hf := Option.some.inj hf
              obtain ⟨er0, er1⟩ := Prod.mk.inj hf
              obtain ⟨er2, er3⟩ := Prod.mk.inj er1
              clear hf er1
              subst er0
              subst er2
              subst er3
              exact rt_i Cc hK hP hD hS dX4_copy_58
        · refine W.eq (g2 := F0 m 35 ls [.ref a_s3]) rfl ?_
          refine lv_astore (lv' := [(7, .ref a_s3), (6, .ref a_s0), (0, .ref a_d), (1, .int p1), (2, .int p2), (3, .int p3), (4, .int p4), (5, .int p5)]) hx hb dX4_copy_35 hl (by decide) rfl (fun ls hl => ?_)
          refine lv_aload hx hb dX4_copy_37 (lv_at hl 1 rfl) ?_
          obtain ⟨q39_1, hq47, hf⟩ := Option.bind_eq_some_iff.mp hf
          refine cV (ws' := (W_D cI cS a_d a_f a_t a_r a_z a_f_kind a_f_wet a_g a_g_kind a_g_wet a_r_cells a_r_hours a_r_cracked a_s0 a_s0_row a_s1 a_s1_row a_s2 a_s2_row a_s3 a_s3_row d_hour d_traced (0 : Int32) f_kind f_wet f_wide f_rows f_cells f_sun f_all f_firstColumn f_lastColumn t_hours t_opened t_firstWrong g_kind g_wet g_wide g_rows g_cells g_sun g_all g_firstColumn g_lastColumn r_cells r_hours r_cracked r_count S_row S_lane S_length)) (rest := []) (st1 := [.int q39_1]) Cc hK hA hP hD hS hl.1 (ctX2_isNothing l D cI cS a_s0 a_s0_row (S_row 0) (S_lane 0) (S_length 0)  n q39_1 hq47) ⟨tw_165, tw_428, tw_163, tw_164, tw_5⟩ mdX2_isNothing ⟨rfl, rfl, Nat.le_of_ble_eq_true rfl, Nat.le_of_ble_eq_true rfl⟩ rfl dX4_copy_39 rfl (Nat.le_of_ble_eq_true rfl) ⟨Nat.zero_le _, Nat.zero_le _⟩ rfl rfl rfl [13, 14] [0, 1, 2, 3, 4, 5, 6, 7, 8, 9, 10, 11, 12, 15, 16, 17, 18, 19, 20] [0, 1, 2, 3, 4, 5, 6, 7, 8, 9, 10, 11, 12, 19, 20, 13, 14, 15, 16, 17, 18] rfl rfl (by decide) rfl (fun H locs hP hD hS => ?_)
          refine lv_if_ne (tgt := 53) hx hb dX4_copy_42 (by decide) (fun hc48 => ?_) (fun hc48 => ?_)
          · replace hf := (if_neg hc48).symm.trans hf
            refine lv_aload_n hx hb dX4_copy_53 rfl (lv_at hl 2 rfl) ?_
            refine lv_iconst (v := (1 : Int32)) hx hb dX4_copy_54 (by decide) ?_
            obtain ⟨q55_1, hq49, hf⟩ := Option.bind_eq_some_iff.mp hf
            refine cV (ws' := (W_D cI cS a_d a_f a_t a_r a_z a_f_kind a_f_wet a_g a_g_kind a_g_wet a_r_cells a_r_hours a_r_cracked a_s0 a_s0_row a_s1 a_s1_row a_s2 a_s2_row a_s3 a_s3_row d_hour d_traced q55_1.2 f_kind f_wet f_wide f_rows f_cells f_sun f_all f_firstColumn f_lastColumn t_hours t_opened t_firstWrong g_kind g_wet g_wide g_rows g_cells g_sun g_all g_firstColumn g_lastColumn r_cells r_hours r_cracked r_count S_row S_lane S_length)) (rest := []) (st1 := [.int q55_1.1]) Cc hK hA hP hD hS hl.1 (ctX4_faulted l D cI cS a_d a_f a_t a_r a_z d_hour d_traced (0 : Int32) (1 : Int32) n q55_1.1 q55_1.2 hq49) ⟨tw_173, tw_170, tw_172, tp_0, tw_1⟩ mdX4_faulted ⟨rfl, rfl, Nat.le_of_ble_eq_true rfl, Nat.le_of_ble_eq_true rfl⟩ rfl dX4_copy_55 rfl (Nat.le_of_ble_eq_true rfl) ⟨Nat.zero_le _, Nat.zero_le _⟩ rfl rfl rfl [0] [1, 2, 3, 4, 5, 6, 7, 8, 9, 10, 11, 12, 13, 14, 15, 16, 17, 18, 19, 20] [20, 0, 1, 2, 3, 4, 5, 6, 7, 8, 9, 10, 11, 12, 13, 14, 15, 16, 17, 18, 19] rfl rfl (by decide) rfl (fun H locs hP hD hS => ?_)
            replace hf := Option.some.inj hf
            obtain ⟨er0, er1⟩ := Prod.mk.inj hf
            obtain ⟨er2, er3⟩ := Prod.mk.inj er1
            clear hf er1
            subst er0
            subst er2
            subst er3
            exact rt_i Cc hK hP hD hS dX4_copy_58
          · replace hf := (if_pos hc48).symm.trans hf
            refine lv_aload hx hb dX4_copy_45 (lv_at hl 0 rfl) ?_
            obtain ⟨q47_1, hq50, hf⟩ := Option.bind_eq_some_iff.mp hf
            refine cV (ws' := (W_D cI cS a_d a_f a_t a_r a_z a_f_kind a_f_wet a_g a_g_kind a_g_wet a_r_cells a_r_hours a_r_cracked a_s0 a_s0_row a_s1 a_s1_row a_s2 a_s2_row a_s3 a_s3_row d_hour d_traced (0 : Int32) f_kind f_wet f_wide f_rows f_cells f_sun f_all f_firstColumn f_lastColumn t_hours t_opened t_firstWrong g_kind g_wet g_wide g_rows g_cells g_sun g_all g_firstColumn g_lastColumn r_cells r_hours r_cracked r_count S_row S_lane S_length)) (rest := []) (st1 := [.int q47_1]) Cc hK hA hP hD hS hl.1 (ctX2_isNothing l D cI cS a_s3 a_s3_row (S_row 3) (S_lane 3) (S_length 3)  n q47_1 hq50) ⟨tw_165, tw_428, tw_163, tw_164, tw_5⟩ mdX2_isNothing ⟨rfl, rfl, Nat.le_of_ble_eq_true rfl, Nat.le_of_ble_eq_true rfl⟩ rfl dX4_copy_47 rfl (Nat.le_of_ble_eq_true rfl) ⟨Nat.zero_le _, Nat.zero_le _⟩ rfl rfl rfl [19, 20] [0, 1, 2, 3, 4, 5, 6, 7, 8, 9, 10, 11, 12, 13, 14, 15, 16, 17, 18] [0, 1, 2, 3, 4, 5, 6, 7, 8, 9, 10, 11, 12, 13, 14, 15, 16, 17, 18, 19, 20] rfl rfl (by decide) rfl (fun H locs hP hD hS => ?_)
            refine lv_if_eq (tgt := 59) hx hb dX4_copy_50 (by decide) (fun hc51 => ?_) (fun hc51 => ?_)
            · replace hf := (if_pos hc51).symm.trans hf
              refine lv_aload hx hb dX4_copy_59 (lv_at hl 1 rfl) ?_
              refine va_getN (D := D) (ci := 2) (v := .int (S_lane 0)) (C := RX2) (T := TX2) (N := 3) hx hb hts inX2 hown hK hP 13 rfl rfl 1 (by decide) (va_Nw.use rfl (hnw _ nn_12)) (fun _ h9 => h9) rfl dX4_copy_61 ?_
              refine lv_aload hx hb dX4_copy_64 (lv_at hl 0 rfl) ?_
              refine va_getN (D := D) (ci := 2) (v := .int (S_lane 3)) (C := RX2) (T := TX2) (N := 3) hx hb hts inX2 hown hK hP 19 rfl rfl 1 (by decide) (va_Nw.use rfl (hnw _ nn_12)) (fun _ h9 => h9) rfl dX4_copy_66 ?_
              refine lv_icmp_eq (tgt := 78) hx hb dX4_copy_69 (by decide) (fun hc52 => ?_) (fun hc52 => ?_)
              · replace hf := (if_pos hc52).symm.trans hf
                refine lv_aload hx hb dX4_copy_78 (lv_at hl 1 rfl) ?_
                refine lv_iload_n hx hb dX4_copy_80 rfl (lv_at hl 4 rfl) ?_
                refine lv_iload hx hb dX4_copy_81 (lv_at hl 7 rfl) ?_
                obtain ⟨q83_1, hq53, hf⟩ := Option.bind_eq_some_iff.mp hf
                refine cV (ws' := (W_D cI cS a_d a_f a_t a_r a_z a_f_kind a_f_wet a_g a_g_kind a_g_wet a_r_cells a_r_hours a_r_cracked a_s0 a_s0_row a_s1 a_s1_row a_s2 a_s2_row a_s3 a_s3_row d_hour d_traced (0 : Int32) f_kind f_wet f_wide f_rows f_cells f_sun f_all f_firstColumn f_lastColumn t_hours t_opened t_firstWrong g_kind g_wet g_wide g_rows g_cells g_sun g_all g_firstColumn g_lastColumn r_cells r_hours r_cracked r_count S_row S_lane S_length)) (rest := []) (st1 := [.int q83_1]) Cc hK hA hP hD hS hl.1 (ctX2_has l D cI cS a_s0 a_s0_row (S_row 0) (S_lane 0) (S_length 0) p2 p5 n q83_1 hq53) ⟨tw_169, tw_166, tw_167, tw_168, tw_5⟩ mdX2_has ⟨rfl, rfl, Nat.le_of_ble_eq_true rfl, Nat.le_of_ble_eq_true rfl⟩ rfl dX4_copy_83 rfl (Nat.le_of_ble_eq_true rfl) ⟨Nat.zero_le _, Nat.zero_le _⟩ rfl rfl rfl [13, 14] [0, 1, 2, 3, 4, 5, 6, 7, 8, 9, 10, 11, 12, 15, 16, 17, 18, 19, 20] [0, 1, 2, 3, 4, 5, 6, 7, 8, 9, 10, 11, 12, 19, 20, 13, 14, 15, 16, 17, 18] rfl rfl (by decide) rfl (fun H locs hP hD hS => ?_)
                refine lv_if_eq (tgt := 101) hx hb dX4_copy_86 (by decide) (fun hc54 => ?_) (fun hc54 => ?_)
                · replace hf := (if_pos hc54).symm.trans hf
                  refine lv_aload_n hx hb dX4_copy_101 rfl (lv_at hl 2 rfl) ?_
                  refine lv_iconst (v := (3 : Int32)) hx hb dX4_copy_102 (by decide) ?_
                  obtain ⟨q103_1, hq55, hf⟩ := Option.bind_eq_some_iff.mp hf
                  refine cV (ws' := (W_D cI cS a_d a_f a_t a_r a_z a_f_kind a_f_wet a_g a_g_kind a_g_wet a_r_cells a_r_hours a_r_cracked a_s0 a_s0_row a_s1 a_s1_row a_s2 a_s2_row a_s3 a_s3_row d_hour d_traced q103_1.2 f_kind f_wet f_wide f_rows f_cells f_sun f_all f_firstColumn f_lastColumn t_hours t_opened t_firstWrong g_kind g_wet g_wide g_rows g_cells g_sun g_all g_firstColumn g_lastColumn r_cells r_hours r_cracked r_count S_row S_lane S_length)) (rest := []) (st1 := [.int q103_1.1]) Cc hK hA hP hD hS hl.1 (ctX4_faulted l D cI cS a_d a_f a_t a_r a_z d_hour d_traced (0 : Int32) (3 : Int32) n q103_1.1 q103_1.2 hq55) ⟨tw_173, tw_170, tw_172, tp_0, tw_1⟩ mdX4_faulted ⟨rfl, rfl, Nat.le_of_ble_eq_true rfl, Nat.le_of_ble_eq_true rfl⟩ rfl dX4_copy_103 rfl (Nat.le_of_ble_eq_true rfl) ⟨Nat.zero_le _, Nat.zero_le _⟩ rfl rfl rfl [0] [1, 2, 3, 4, 5, 6, 7, 8, 9, 10, 11, 12, 13, 14, 15, 16, 17, 18, 19, 20] [20, 0, 1, 2, 3, 4, 5, 6, 7, 8, 9, 10, 11, 12, 13, 14, 15, 16, 17, 18, 19] rfl rfl (by decide) rfl (fun H locs hP hD hS => ?_)
                  replace hf := Option.some.inj hf
                  obtain ⟨er0, er1⟩ := Prod.mk.inj hf
                  obtain ⟨er2, er3⟩ := Prod.mk.inj er1
                  clear hf er1
                  subst er0
                  subst er2
                  subst er3
                  exact rt_i Cc hK hP hD hS dX4_copy_106
                · replace hf := (if_neg hc54).symm.trans hf
                  refine lv_aload hx hb dX4_copy_89 (lv_at hl 0 rfl) ?_
                  refine lv_iload hx hb dX4_copy_91 (lv_at hl 6 rfl) ?_
                  refine lv_iload hx hb dX4_copy_93 (lv_at hl 7 rfl) ?_
                  obtain ⟨q95_1, hq56, hf⟩ := Option.bind_eq_some_iff.mp hf
                  refine cV (ws' := (W_D cI cS a_d a_f a_t a_r a_z a_f_kind a_f_wet a_g a_g_kind a_g_wet a_r_cells a_r_hours a_r_cracked a_s0 a_s0_row a_s1 a_s1_row a_s2 a_s2_row a_s3 a_s3_row d_hour d_traced (0 : Int32) f_kind f_wet f_wide f_rows f_cells f_sun f_all f_firstColumn f_lastColumn t_hours t_opened t_firstWrong g_kind g_wet g_wide g_rows g_cells g_sun g_all g_firstColumn g_lastColumn r_cells r_hours r_cracked r_count S_row S_lane S_length)) (rest := []) (st1 := [.int q95_1]) Cc hK hA hP hD hS hl.1 (ctX2_has l D cI cS a_s3 a_s3_row (S_row 3) (S_lane 3) (S_length 3) p4 p5 n q95_1 hq56) ⟨tw_169, tw_166, tw_167, tw_168, tw_5⟩ mdX2_has ⟨rfl, rfl, Nat.le_of_ble_eq_true rfl, Nat.le_of_ble_eq_true rfl⟩ rfl dX4_copy_95 rfl (Nat.le_of_ble_eq_true rfl) ⟨Nat.zero_le _, Nat.zero_le _⟩ rfl rfl rfl [19, 20] [0, 1, 2, 3, 4, 5, 6, 7, 8, 9, 10, 11, 12, 13, 14, 15, 16, 17, 18] [0, 1, 2, 3, 4, 5, 6, 7, 8, 9, 10, 11, 12, 13, 14, 15, 16, 17, 18, 19, 20] rfl rfl (by decide) rfl (fun H locs hP hD hS => ?_)
                  refine lv_if_ne (tgt := 107) hx hb dX4_copy_98 (by decide) (fun hc57 => ?_) (fun hc57 => ?_)
                  · replace hf := (if_neg hc57).symm.trans hf
                    refine lv_aload hx hb dX4_copy_107 (lv_at hl 1 rfl) ?_
                    refine va_getN (D := D) (ci := 2) (v := .ref a_s0_row) (C := RX2) (T := TX2) (N := 3) hx hb hts inX2 hown hK hP 13 rfl rfl 0 (by decide) (va_Nw.use rfl (hnw _ nn_11)) (fun _ h9 => h9) rfl dX4_copy_109 ?_
                    refine lv_iload_n hx hb dX4_copy_112 rfl (lv_at hl 4 rfl) ?_
                    refine lv_aload hx hb dX4_copy_113 (lv_at hl 0 rfl) ?_
                    refine va_getN (D := D) (ci := 2) (v := .ref a_s3_row) (C := RX2) (T := TX2) (N := 3) hx hb hts inX2 hown hK hP 19 rfl rfl 0 (by decide) (va_Nw.use rfl (hnw _ nn_11)) (fun _ h9 => h9) rfl dX4_copy_115 ?_
                    refine lv_iload hx hb dX4_copy_118 (lv_at hl 6 rfl) ?_
                    refine lv_iload hx hb dX4_copy_120 (lv_at hl 7 rfl) ?_
                    obtain ⟨⟨g1, g2, g3, g4, g5⟩, hf⟩ := cpg_some hf
                    refine va_copyi hx hb (hml.trans hl.1.symm) hown (hts _ tw_454) (hts _ tw_native) (hts _ tw_455) (hts _ tw_9) hK hP hD hS 14 20 0 0 rfl rfl rfl rfl rfl g1 g2 g3 g4 g5 (fun _ _ => rfl) (Nat.le_of_ble_eq_true rfl) (Nat.le_of_ble_eq_true rfl) dX4_copy_122 (fun H locs hP hD hS => ?_)
                    have hP : va_P D classes (W_D cI cS a_d a_f a_t a_r a_z a_f_kind a_f_wet a_g a_g_kind a_g_wet a_r_cells a_r_hours a_r_cracked a_s0 a_s0_row a_s1 a_s1_row a_s2 a_s2_row a_s3 a_s3_row d_hour d_traced (0 : Int32) f_kind f_wet f_wide f_rows f_cells f_sun f_all f_firstColumn f_lastColumn t_hours t_opened t_firstWrong g_kind g_wet g_wide g_rows g_cells g_sun g_all g_firstColumn g_lastColumn r_cells r_hours r_cracked r_count (va_up S_row 3 (va_cpy (S_row 0) (S_row 3) p2.toNatClampNeg p4.toNatClampNeg p5.toNatClampNeg)) S_lane S_length) H := hP
                    have hD : va_D A (W_D cI cS a_d a_f a_t a_r a_z a_f_kind a_f_wet a_g a_g_kind a_g_wet a_r_cells a_r_hours a_r_cracked a_s0 a_s0_row a_s1 a_s1_row a_s2 a_s2_row a_s3 a_s3_row d_hour d_traced (0 : Int32) f_kind f_wet f_wide f_rows f_cells f_sun f_all f_firstColumn f_lastColumn t_hours t_opened t_firstWrong g_kind g_wet g_wide g_rows g_cells g_sun g_all g_firstColumn g_lastColumn r_cells r_hours r_cracked r_count (va_up S_row 3 (va_cpy (S_row 0) (S_row 3) p2.toNatClampNeg p4.toNatClampNeg p5.toNatClampNeg)) S_lane S_length) := hD
                    refine lv_iload hx hb dX4_copy_125 (lv_at hl 7 rfl) ?_
                    replace hf := Option.some.inj hf
                    obtain ⟨er0, er1⟩ := Prod.mk.inj hf
                    obtain ⟨er2, er3⟩ := Prod.mk.inj er1
                    clear hf er1
                    subst er0
                    subst er2
                    subst er3
                    exact rt_i Cc hK hP hD hS dX4_copy_127
                  · replace hf := (if_pos hc57).symm.trans hf
                    refine lv_aload_n hx hb dX4_copy_101 rfl (lv_at hl 2 rfl) ?_
                    refine lv_iconst (v := (3 : Int32)) hx hb dX4_copy_102 (by decide) ?_
                    obtain ⟨q103_1, hq58, hf⟩ := Option.bind_eq_some_iff.mp hf
                    refine cV (ws' := (W_D cI cS a_d a_f a_t a_r a_z a_f_kind a_f_wet a_g a_g_kind a_g_wet a_r_cells a_r_hours a_r_cracked a_s0 a_s0_row a_s1 a_s1_row a_s2 a_s2_row a_s3 a_s3_row d_hour d_traced q103_1.2 f_kind f_wet f_wide f_rows f_cells f_sun f_all f_firstColumn f_lastColumn t_hours t_opened t_firstWrong g_kind g_wet g_wide g_rows g_cells g_sun g_all g_firstColumn g_lastColumn r_cells r_hours r_cracked r_count S_row S_lane S_length)) (rest := []) (st1 := [.int q103_1.1]) Cc hK hA hP hD hS hl.1 (ctX4_faulted l D cI cS a_d a_f a_t a_r a_z d_hour d_traced (0 : Int32) (3 : Int32) n q103_1.1 q103_1.2 hq58) ⟨tw_173, tw_170, tw_172, tp_0, tw_1⟩ mdX4_faulted ⟨rfl, rfl, Nat.le_of_ble_eq_true rfl, Nat.le_of_ble_eq_true rfl⟩ rfl dX4_copy_103 rfl (Nat.le_of_ble_eq_true rfl) ⟨Nat.zero_le _, Nat.zero_le _⟩ rfl rfl rfl [0] [1, 2, 3, 4, 5, 6, 7, 8, 9, 10, 11, 12, 13, 14, 15, 16, 17, 18, 19, 20] [20, 0, 1, 2, 3, 4, 5, 6, 7, 8, 9, 10, 11, 12, 13, 14, 15, 16, 17, 18, 19] rfl rfl (by decide) rfl (fun H locs hP hD hS => ?_)
                    replace hf := Option.some.inj hf
                    obtain ⟨er0, er1⟩ := Prod.mk.inj hf
                    obtain ⟨er2, er3⟩ := Prod.mk.inj er1
                    clear hf er1
                    subst er0
                    subst er2
                    subst er3
                    exact rt_i Cc hK hP hD hS dX4_copy_106
              · replace hf := (if_neg hc52).symm.trans hf
                refine lv_aload_n hx hb dX4_copy_72 rfl (lv_at hl 2 rfl) ?_
                refine lv_iconst (v := (2 : Int32)) hx hb dX4_copy_73 (by decide) ?_
                obtain ⟨q74_1, hq59, hf⟩ := Option.bind_eq_some_iff.mp hf
                refine cV (ws' := (W_D cI cS a_d a_f a_t a_r a_z a_f_kind a_f_wet a_g a_g_kind a_g_wet a_r_cells a_r_hours a_r_cracked a_s0 a_s0_row a_s1 a_s1_row a_s2 a_s2_row a_s3 a_s3_row d_hour d_traced q74_1.2 f_kind f_wet f_wide f_rows f_cells f_sun f_all f_firstColumn f_lastColumn t_hours t_opened t_firstWrong g_kind g_wet g_wide g_rows g_cells g_sun g_all g_firstColumn g_lastColumn r_cells r_hours r_cracked r_count S_row S_lane S_length)) (rest := []) (st1 := [.int q74_1.1]) Cc hK hA hP hD hS hl.1 (ctX4_faulted l D cI cS a_d a_f a_t a_r a_z d_hour d_traced (0 : Int32) (2 : Int32) n q74_1.1 q74_1.2 hq59) ⟨tw_173, tw_170, tw_172, tp_0, tw_1⟩ mdX4_faulted ⟨rfl, rfl, Nat.le_of_ble_eq_true rfl, Nat.le_of_ble_eq_true rfl⟩ rfl dX4_copy_74 rfl (Nat.le_of_ble_eq_true rfl) ⟨Nat.zero_le _, Nat.zero_le _⟩ rfl rfl rfl [0] [1, 2, 3, 4, 5, 6, 7, 8, 9, 10, 11, 12, 13, 14, 15, 16, 17, 18, 19, 20] [20, 0, 1, 2, 3, 4, 5, 6, 7, 8, 9, 10, 11, 12, 13, 14, 15, 16, 17, 18, 19] rfl rfl (by decide) rfl (fun H locs hP hD hS => ?_)
                replace hf := Option.some.inj hf
                obtain ⟨er0, er1⟩ := Prod.mk.inj hf
                obtain ⟨er2, er3⟩ := Prod.mk.inj er1
                clear hf er1
                subst er0
                subst er2
                subst er3
                exact rt_i Cc hK hP hD hS dX4_copy_77
            · replace hf := (if_neg hc51).symm.trans hf
              refine lv_aload_n hx hb dX4_copy_53 rfl (lv_at hl 2 rfl) ?_
              refine lv_iconst (v := (1 : Int32)) hx hb dX4_copy_54 (by decide) ?_
              obtain ⟨q55_1, hq60, hf⟩ := Option.bind_eq_some_iff.mp hf
              refine cV (ws' := (W_D cI cS a_d a_f a_t a_r a_z a_f_kind a_f_wet a_g a_g_kind a_g_wet a_r_cells a_r_hours a_r_cracked a_s0 a_s0_row a_s1 a_s1_row a_s2 a_s2_row a_s3 a_s3_row d_hour d_traced q55_1.2 f_kind f_wet f_wide f_rows f_cells f_sun f_all f_firstColumn f_lastColumn t_hours t_opened t_firstWrong g_kind g_wet g_wide g_rows g_cells g_sun g_all g_firstColumn g_lastColumn r_cells r_hours r_cracked r_count S_row S_lane S_length)) (rest := []) (st1 := [.int q55_1.1]) Cc hK hA hP hD hS hl.1 (ctX4_faulted l D cI cS a_d a_f a_t a_r a_z d_hour d_traced (0 : Int32) (1 : Int32) n q55_1.1 q55_1.2 hq60) ⟨tw_173, tw_170, tw_172, tp_0, tw_1⟩ mdX4_faulted ⟨rfl, rfl, Nat.le_of_ble_eq_true rfl, Nat.le_of_ble_eq_true rfl⟩ rfl dX4_copy_55 rfl (Nat.le_of_ble_eq_true rfl) ⟨Nat.zero_le _, Nat.zero_le _⟩ rfl rfl rfl [0] [1, 2, 3, 4, 5, 6, 7, 8, 9, 10, 11, 12, 13, 14, 15, 16, 17, 18, 19, 20] [20, 0, 1, 2, 3, 4, 5, 6, 7, 8, 9, 10, 11, 12, 13, 14, 15, 16, 17, 18, 19] rfl rfl (by decide) rfl (fun H locs hP hD hS => ?_)
              replace hf := Option.some.inj hf
              obtain ⟨er0, er1⟩ := Prod.mk.inj hf
              obtain ⟨er2, er3⟩ := Prod.mk.inj er1
              clear hf er1
              subst er0
              subst er2
              subst er3
              exact rt_i Cc hK hP hD hS dX4_copy_58
      · refine W.eq (g2 := F0 m 27 ls [.ref a_s1]) rfl ?_
        refine lv_astore (lv' := [(6, .ref a_s1), (0, .ref a_d), (1, .int p1), (2, .int p2), (3, .int p3), (4, .int p4), (5, .int p5)]) hx hb dX4_copy_27 hl (by decide) rfl (fun ls hl => ?_)
        refine lv_aload_n hx hb dX4_copy_29 rfl (lv_at hl 1 rfl) ?_
        refine va_get (D := D) (ci := 4) (v := .ref a_z) (C := RX4) (T := TX4) (N := 7) hx hb hts inX4 hown hK hP 0 rfl rfl 3 (by decide) (hts _ tw_126) (fun _ h9 => h9) rfl dX4_copy_30 ?_
        refine lv_iload_n hx hb dX4_copy_33 rfl (lv_at hl 4 rfl) ?_
        obtain ⟨hin, hf⟩ := gd_some hf
        refine va_aldq hx hb hK hP 12 1 rfl rfl hin dX4_copy_34 ?_
        obtain ⟨j, hj, hjx⟩ : ∃ j, j < 4 ∧ p3.toNatClampNeg = j := ⟨_, Nat.not_le.mp fun q => hin (Or.inr q), rfl⟩
        rw [hjx] at hf ⊢
        clear hin hjx
        rcases (show j = 0 ∨ j = 1 ∨ j = 2 ∨ j = 3 by omega) with rfl | rfl | rfl | rfl
        · refine W.eq (g2 := F0 m 35 ls [.ref a_s0]) rfl ?_
          refine lv_astore (lv' := [(7, .ref a_s0), (6, .ref a_s1), (0, .ref a_d), (1, .int p1), (2, .int p2), (3, .int p3), (4, .int p4), (5, .int p5)]) hx hb dX4_copy_35 hl (by decide) rfl (fun ls hl => ?_)
          refine lv_aload hx hb dX4_copy_37 (lv_at hl 1 rfl) ?_
          obtain ⟨q39_1, hq61, hf⟩ := Option.bind_eq_some_iff.mp hf
          refine cV (ws' := (W_D cI cS a_d a_f a_t a_r a_z a_f_kind a_f_wet a_g a_g_kind a_g_wet a_r_cells a_r_hours a_r_cracked a_s0 a_s0_row a_s1 a_s1_row a_s2 a_s2_row a_s3 a_s3_row d_hour d_traced (0 : Int32) f_kind f_wet f_wide f_rows f_cells f_sun f_all f_firstColumn f_lastColumn t_hours t_opened t_firstWrong g_kind g_wet g_wide g_rows g_cells g_sun g_all g_firstColumn g_lastColumn r_cells r_hours r_cracked r_count S_row S_lane S_length)) (rest := []) (st1 := [.int q39_1]) Cc hK hA hP hD hS hl.1 (ctX2_isNothing l D cI cS a_s1 a_s1_row (S_row 1) (S_lane 1) (S_length 1)  n q39_1 hq61) ⟨tw_165, tw_428, tw_163, tw_164, tw_5⟩ mdX2_isNothing ⟨rfl, rfl, Nat.le_of_ble_eq_true rfl, Nat.le_of_ble_eq_true rfl⟩ rfl dX4_copy_39 rfl (Nat.le_of_ble_eq_true rfl) ⟨Nat.zero_le _, Nat.zero_le _⟩ rfl rfl rfl [15, 16] [0, 1, 2, 3, 4, 5, 6, 7, 8, 9, 10, 11, 12, 13, 14, 17, 18, 19, 20] [0, 1, 2, 3, 4, 5, 6, 7, 8, 9, 10, 11, 12, 13, 14, 19, 20, 15, 16, 17, 18] rfl rfl (by decide) rfl (fun H locs hP hD hS => ?_)
          refine lv_if_ne (tgt := 53) hx hb dX4_copy_42 (by decide) (fun hc62 => ?_) (fun hc62 => ?_)
          · replace hf := (if_neg hc62).symm.trans hf
            refine lv_aload_n hx hb dX4_copy_53 rfl (lv_at hl 2 rfl) ?_
            refine lv_iconst (v := (1 : Int32)) hx hb dX4_copy_54 (by decide) ?_
            obtain ⟨q55_1, hq63, hf⟩ := Option.bind_eq_some_iff.mp hf
            refine cV (ws' := (W_D cI cS a_d a_f a_t a_r a_z a_f_kind a_f_wet a_g a_g_kind a_g_wet a_r_cells a_r_hours a_r_cracked a_s0 a_s0_row a_s1 a_s1_row a_s2 a_s2_row a_s3 a_s3_row d_hour d_traced q55_1.2 f_kind f_wet f_wide f_rows f_cells f_sun f_all f_firstColumn f_lastColumn t_hours t_opened t_firstWrong g_kind g_wet g_wide g_rows g_cells g_sun g_all g_firstColumn g_lastColumn r_cells r_hours r_cracked r_count S_row S_lane S_length)) (rest := []) (st1 := [.int q55_1.1]) Cc hK hA hP hD hS hl.1 (ctX4_faulted l D cI cS a_d a_f a_t a_r a_z d_hour d_traced (0 : Int32) (1 : Int32) n q55_1.1 q55_1.2 hq63) ⟨tw_173, tw_170, tw_172, tp_0, tw_1⟩ mdX4_faulted ⟨rfl, rfl, Nat.le_of_ble_eq_true rfl, Nat.le_of_ble_eq_true rfl⟩ rfl dX4_copy_55 rfl (Nat.le_of_ble_eq_true rfl) ⟨Nat.zero_le _, Nat.zero_le _⟩ rfl rfl rfl [0] [1, 2, 3, 4, 5, 6, 7, 8, 9, 10, 11, 12, 13, 14, 15, 16, 17, 18, 19, 20] [20, 0, 1, 2, 3, 4, 5, 6, 7, 8, 9, 10, 11, 12, 13, 14, 15, 16, 17, 18, 19] rfl rfl (by decide) rfl (fun H locs hP hD hS => ?_)
            replace hf := Option.some.inj hf
            obtain ⟨er0, er1⟩ := Prod.mk.inj hf
            obtain ⟨er2, er3⟩ := Prod.mk.inj er1
            clear hf er1
            subst er0
            subst er2
            subst er3
            exact rt_i Cc hK hP hD hS dX4_copy_58
          · replace hf := (if_pos hc62).symm.trans hf
            refine lv_aload hx hb dX4_copy_45 (lv_at hl 0 rfl) ?_
            obtain ⟨q47_1, hq64, hf⟩ := Option.bind_eq_some_iff.mp hf
            refine cV (ws' := (W_D cI cS a_d a_f a_t a_r a_z a_f_kind a_f_wet a_g a_g_kind a_g_wet a_r_cells a_r_hours a_r_cracked a_s0 a_s0_row a_s1 a_s1_row a_s2 a_s2_row a_s3 a_s3_row d_hour d_traced (0 : Int32) f_kind f_wet f_wide f_rows f_cells f_sun f_all f_firstColumn f_lastColumn t_hours t_opened t_firstWrong g_kind g_wet g_wide g_rows g_cells g_sun g_all g_firstColumn g_lastColumn r_cells r_hours r_cracked r_count S_row S_lane S_length)) (rest := []) (st1 := [.int q47_1]) Cc hK hA hP hD hS hl.1 (ctX2_isNothing l D cI cS a_s0 a_s0_row (S_row 0) (S_lane 0) (S_length 0)  n q47_1 hq64) ⟨tw_165, tw_428, tw_163, tw_164, tw_5⟩ mdX2_isNothing ⟨rfl, rfl, Nat.le_of_ble_eq_true rfl, Nat.le_of_ble_eq_true rfl⟩ rfl dX4_copy_47 rfl (Nat.le_of_ble_eq_true rfl) ⟨Nat.zero_le _, Nat.zero_le _⟩ rfl rfl rfl [13, 14] [0, 1, 2, 3, 4, 5, 6, 7, 8, 9, 10, 11, 12, 15, 16, 17, 18, 19, 20] [0, 1, 2, 3, 4, 5, 6, 7, 8, 9, 10, 11, 12, 19, 20, 13, 14, 15, 16, 17, 18] rfl rfl (by decide) rfl (fun H locs hP hD hS => ?_)
            refine lv_if_eq (tgt := 59) hx hb dX4_copy_50 (by decide) (fun hc65 => ?_) (fun hc65 => ?_)
            · replace hf := (if_pos hc65).symm.trans hf
              refine lv_aload hx hb dX4_copy_59 (lv_at hl 1 rfl) ?_
              refine va_getN (D := D) (ci := 2) (v := .int (S_lane 1)) (C := RX2) (T := TX2) (N := 3) hx hb hts inX2 hown hK hP 15 rfl rfl 1 (by decide) (va_Nw.use rfl (hnw _ nn_12)) (fun _ h9 => h9) rfl dX4_copy_61 ?_
              refine lv_aload hx hb dX4_copy_64 (lv_at hl 0 rfl) ?_
              refine va_getN (D := D) (ci := 2) (v := .int (S_lane 0)) (C := RX2) (T := TX2) (N := 3) hx hb hts inX2 hown hK hP 13 rfl rfl 1 (by decide) (va_Nw.use rfl (hnw _ nn_12)) (fun _ h9 => h9) rfl dX4_copy_66 ?_
              refine lv_icmp_eq (tgt := 78) hx hb dX4_copy_69 (by decide) (fun hc66 => ?_) (fun hc66 => ?_)
              · replace hf := (if_pos hc66).symm.trans hf
                refine lv_aload hx hb dX4_copy_78 (lv_at hl 1 rfl) ?_
                refine lv_iload_n hx hb dX4_copy_80 rfl (lv_at hl 4 rfl) ?_
                refine lv_iload hx hb dX4_copy_81 (lv_at hl 7 rfl) ?_
                obtain ⟨q83_1, hq67, hf⟩ := Option.bind_eq_some_iff.mp hf
                refine cV (ws' := (W_D cI cS a_d a_f a_t a_r a_z a_f_kind a_f_wet a_g a_g_kind a_g_wet a_r_cells a_r_hours a_r_cracked a_s0 a_s0_row a_s1 a_s1_row a_s2 a_s2_row a_s3 a_s3_row d_hour d_traced (0 : Int32) f_kind f_wet f_wide f_rows f_cells f_sun f_all f_firstColumn f_lastColumn t_hours t_opened t_firstWrong g_kind g_wet g_wide g_rows g_cells g_sun g_all g_firstColumn g_lastColumn r_cells r_hours r_cracked r_count S_row S_lane S_length)) (rest := []) (st1 := [.int q83_1]) Cc hK hA hP hD hS hl.1 (ctX2_has l D cI cS a_s1 a_s1_row (S_row 1) (S_lane 1) (S_length 1) p2 p5 n q83_1 hq67) ⟨tw_169, tw_166, tw_167, tw_168, tw_5⟩ mdX2_has ⟨rfl, rfl, Nat.le_of_ble_eq_true rfl, Nat.le_of_ble_eq_true rfl⟩ rfl dX4_copy_83 rfl (Nat.le_of_ble_eq_true rfl) ⟨Nat.zero_le _, Nat.zero_le _⟩ rfl rfl rfl [15, 16] [0, 1, 2, 3, 4, 5, 6, 7, 8, 9, 10, 11, 12, 13, 14, 17, 18, 19, 20] [0, 1, 2, 3, 4, 5, 6, 7, 8, 9, 10, 11, 12, 13, 14, 19, 20, 15, 16, 17, 18] rfl rfl (by decide) rfl (fun H locs hP hD hS => ?_)
                refine lv_if_eq (tgt := 101) hx hb dX4_copy_86 (by decide) (fun hc68 => ?_) (fun hc68 => ?_)
                · replace hf := (if_pos hc68).symm.trans hf
                  refine lv_aload_n hx hb dX4_copy_101 rfl (lv_at hl 2 rfl) ?_
                  refine lv_iconst (v := (3 : Int32)) hx hb dX4_copy_102 (by decide) ?_
                  obtain ⟨q103_1, hq69, hf⟩ := Option.bind_eq_some_iff.mp hf
                  refine cV (ws' := (W_D cI cS a_d a_f a_t a_r a_z a_f_kind a_f_wet a_g a_g_kind a_g_wet a_r_cells a_r_hours a_r_cracked a_s0 a_s0_row a_s1 a_s1_row a_s2 a_s2_row a_s3 a_s3_row d_hour d_traced q103_1.2 f_kind f_wet f_wide f_rows f_cells f_sun f_all f_firstColumn f_lastColumn t_hours t_opened t_firstWrong g_kind g_wet g_wide g_rows g_cells g_sun g_all g_firstColumn g_lastColumn r_cells r_hours r_cracked r_count S_row S_lane S_length)) (rest := []) (st1 := [.int q103_1.1]) Cc hK hA hP hD hS hl.1 (ctX4_faulted l D cI cS a_d a_f a_t a_r a_z d_hour d_traced (0 : Int32) (3 : Int32) n q103_1.1 q103_1.2 hq69) ⟨tw_173, tw_170, tw_172, tp_0, tw_1⟩ mdX4_faulted ⟨rfl, rfl, Nat.le_of_ble_eq_true rfl, Nat.le_of_ble_eq_true rfl⟩ rfl dX4_copy_103 rfl (Nat.le_of_ble_eq_true rfl) ⟨Nat.zero_le _, Nat.zero_le _⟩ rfl rfl rfl [0] [1, 2, 3, 4, 5, 6, 7, 8, 9, 10, 11, 12, 13, 14, 15, 16, 17, 18, 19, 20] [20, 0, 1, 2, 3, 4, 5, 6, 7, 8, 9, 10, 11, 12, 13, 14, 15, 16, 17, 18, 19] rfl rfl (by decide) rfl (fun H locs hP hD hS => ?_)
                  replace hf := Option.some.inj hf
                  obtain ⟨er0, er1⟩ := Prod.mk.inj hf
                  obtain ⟨er2, er3⟩ := Prod.mk.inj er1
                  clear hf er1
                  subst er0
                  subst er2
                  subst er3
                  exact rt_i Cc hK hP hD hS dX4_copy_106
                · replace hf := (if_neg hc68).symm.trans hf
                  refine lv_aload hx hb dX4_copy_89 (lv_at hl 0 rfl) ?_
                  refine lv_iload hx hb dX4_copy_91 (lv_at hl 6 rfl) ?_
                  refine lv_iload hx hb dX4_copy_93 (lv_at hl 7 rfl) ?_
                  obtain ⟨q95_1, hq70, hf⟩ := Option.bind_eq_some_iff.mp hf
                  refine cV (ws' := (W_D cI cS a_d a_f a_t a_r a_z a_f_kind a_f_wet a_g a_g_kind a_g_wet a_r_cells a_r_hours a_r_cracked a_s0 a_s0_row a_s1 a_s1_row a_s2 a_s2_row a_s3 a_s3_row d_hour d_traced (0 : Int32) f_kind f_wet f_wide f_rows f_cells f_sun f_all f_firstColumn f_lastColumn t_hours t_opened t_firstWrong g_kind g_wet g_wide g_rows g_cells g_sun g_all g_firstColumn g_lastColumn r_cells r_hours r_cracked r_count S_row S_lane S_length)) (rest := []) (st1 := [.int q95_1]) Cc hK hA hP hD hS hl.1 (ctX2_has l D cI cS a_s0 a_s0_row (S_row 0) (S_lane 0) (S_length 0) p4 p5 n q95_1 hq70) ⟨tw_169, tw_166, tw_167, tw_168, tw_5⟩ mdX2_has ⟨rfl, rfl, Nat.le_of_ble_eq_true rfl, Nat.le_of_ble_eq_true rfl⟩ rfl dX4_copy_95 rfl (Nat.le_of_ble_eq_true rfl) ⟨Nat.zero_le _, Nat.zero_le _⟩ rfl rfl rfl [13, 14] [0, 1, 2, 3, 4, 5, 6, 7, 8, 9, 10, 11, 12, 15, 16, 17, 18, 19, 20] [0, 1, 2, 3, 4, 5, 6, 7, 8, 9, 10, 11, 12, 19, 20, 13, 14, 15, 16, 17, 18] rfl rfl (by decide) rfl (fun H locs hP hD hS => ?_)
                  refine lv_if_ne (tgt := 107) hx hb dX4_copy_98 (by decide) (fun hc71 => ?_) (fun hc71 => ?_)
                  · replace hf := (if_neg hc71).symm.trans hf
                    refine lv_aload hx hb dX4_copy_107 (lv_at hl 1 rfl) ?_
                    refine va_getN (D := D) (ci := 2) (v := .ref a_s1_row) (C := RX2) (T := TX2) (N := 3) hx hb hts inX2 hown hK hP 15 rfl rfl 0 (by decide) (va_Nw.use rfl (hnw _ nn_11)) (fun _ h9 => h9) rfl dX4_copy_109 ?_
                    refine lv_iload_n hx hb dX4_copy_112 rfl (lv_at hl 4 rfl) ?_
                    refine lv_aload hx hb dX4_copy_113 (lv_at hl 0 rfl) ?_
                    refine va_getN (D := D) (ci := 2) (v := .ref a_s0_row) (C := RX2) (T := TX2) (N := 3) hx hb hts inX2 hown hK hP 13 rfl rfl 0 (by decide) (va_Nw.use rfl (hnw _ nn_11)) (fun _ h9 => h9) rfl dX4_copy_115 ?_
                    refine lv_iload hx hb dX4_copy_118 (lv_at hl 6 rfl) ?_
                    refine lv_iload hx hb dX4_copy_120 (lv_at hl 7 rfl) ?_
                    obtain ⟨⟨g1, g2, g3, g4, g5⟩, hf⟩ := cpg_some hf
                    refine va_copyi hx hb (hml.trans hl.1.symm) hown (hts _ tw_454) (hts _ tw_native) (hts _ tw_455) (hts _ tw_9) hK hP hD hS 16 14 0 0 rfl rfl rfl rfl rfl g1 g2 g3 g4 g5 (fun _ _ => rfl) (Nat.le_of_ble_eq_true rfl) (Nat.le_of_ble_eq_true rfl) dX4_copy_122 (fun H locs hP hD hS => ?_)
                    have hP : va_P D classes (W_D cI cS a_d a_f a_t a_r a_z a_f_kind a_f_wet a_g a_g_kind a_g_wet a_r_cells a_r_hours a_r_cracked a_s0 a_s0_row a_s1 a_s1_row a_s2 a_s2_row a_s3 a_s3_row d_hour d_traced (0 : Int32) f_kind f_wet f_wide f_rows f_cells f_sun f_all f_firstColumn f_lastColumn t_hours t_opened t_firstWrong g_kind g_wet g_wide g_rows g_cells g_sun g_all g_firstColumn g_lastColumn r_cells r_hours r_cracked r_count (va_up S_row 0 (va_cpy (S_row 1) (S_row 0) p2.toNatClampNeg p4.toNatClampNeg p5.toNatClampNeg)) S_lane S_length) H := hP
                    have hD : va_D A (W_D cI cS a_d a_f a_t a_r a_z a_f_kind a_f_wet a_g a_g_kind a_g_wet a_r_cells a_r_hours a_r_cracked a_s0 a_s0_row a_s1 a_s1_row a_s2 a_s2_row a_s3 a_s3_row d_hour d_traced (0 : Int32) f_kind f_wet f_wide f_rows f_cells f_sun f_all f_firstColumn f_lastColumn t_hours t_opened t_firstWrong g_kind g_wet g_wide g_rows g_cells g_sun g_all g_firstColumn g_lastColumn r_cells r_hours r_cracked r_count (va_up S_row 0 (va_cpy (S_row 1) (S_row 0) p2.toNatClampNeg p4.toNatClampNeg p5.toNatClampNeg)) S_lane S_length) := hD
                    refine lv_iload hx hb dX4_copy_125 (lv_at hl 7 rfl) ?_
                    replace hf := Option.some.inj hf
                    obtain ⟨er0, er1⟩ := Prod.mk.inj hf
                    obtain ⟨er2, er3⟩ := Prod.mk.inj er1
                    clear hf er1
                    subst er0
                    subst er2
                    subst er3
                    exact rt_i Cc hK hP hD hS dX4_copy_127
                  · replace hf := (if_pos hc71).symm.trans hf
                    refine lv_aload_n hx hb dX4_copy_101 rfl (lv_at hl 2 rfl) ?_
                    refine lv_iconst (v := (3 : Int32)) hx hb dX4_copy_102 (by decide) ?_
                    obtain ⟨q103_1, hq72, hf⟩ := Option.bind_eq_some_iff.mp hf
                    refine cV (ws' := (W_D cI cS a_d a_f a_t a_r a_z a_f_kind a_f_wet a_g a_g_kind a_g_wet a_r_cells a_r_hours a_r_cracked a_s0 a_s0_row a_s1 a_s1_row a_s2 a_s2_row a_s3 a_s3_row d_hour d_traced q103_1.2 f_kind f_wet f_wide f_rows f_cells f_sun f_all f_firstColumn f_lastColumn t_hours t_opened t_firstWrong g_kind g_wet g_wide g_rows g_cells g_sun g_all g_firstColumn g_lastColumn r_cells r_hours r_cracked r_count S_row S_lane S_length)) (rest := []) (st1 := [.int q103_1.1]) Cc hK hA hP hD hS hl.1 (ctX4_faulted l D cI cS a_d a_f a_t a_r a_z d_hour d_traced (0 : Int32) (3 : Int32) n q103_1.1 q103_1.2 hq72) ⟨tw_173, tw_170, tw_172, tp_0, tw_1⟩ mdX4_faulted ⟨rfl, rfl, Nat.le_of_ble_eq_true rfl, Nat.le_of_ble_eq_true rfl⟩ rfl dX4_copy_103 rfl (Nat.le_of_ble_eq_true rfl) ⟨Nat.zero_le _, Nat.zero_le _⟩ rfl rfl rfl [0] [1, 2, 3, 4, 5, 6, 7, 8, 9, 10, 11, 12, 13, 14, 15, 16, 17, 18, 19, 20] [20, 0, 1, 2, 3, 4, 5, 6, 7, 8, 9, 10, 11, 12, 13, 14, 15, 16, 17, 18, 19] rfl rfl (by decide) rfl (fun H locs hP hD hS => ?_)
                    replace hf := Option.some.inj hf
                    obtain ⟨er0, er1⟩ := Prod.mk.inj hf
                    obtain ⟨er2, er3⟩ := Prod.mk.inj er1
                    clear hf er1
                    subst er0
                    subst er2
                    subst er3
                    exact rt_i Cc hK hP hD hS dX4_copy_106
              · replace hf := (if_neg hc66).symm.trans hf
                refine lv_aload_n hx hb dX4_copy_72 rfl (lv_at hl 2 rfl) ?_
                refine lv_iconst (v := (2 : Int32)) hx hb dX4_copy_73 (by decide) ?_
                obtain ⟨q74_1, hq73, hf⟩ := Option.bind_eq_some_iff.mp hf
                refine cV (ws' := (W_D cI cS a_d a_f a_t a_r a_z a_f_kind a_f_wet a_g a_g_kind a_g_wet a_r_cells a_r_hours a_r_cracked a_s0 a_s0_row a_s1 a_s1_row a_s2 a_s2_row a_s3 a_s3_row d_hour d_traced q74_1.2 f_kind f_wet f_wide f_rows f_cells f_sun f_all f_firstColumn f_lastColumn t_hours t_opened t_firstWrong g_kind g_wet g_wide g_rows g_cells g_sun g_all g_firstColumn g_lastColumn r_cells r_hours r_cracked r_count S_row S_lane S_length)) (rest := []) (st1 := [.int q74_1.1]) Cc hK hA hP hD hS hl.1 (ctX4_faulted l D cI cS a_d a_f a_t a_r a_z d_hour d_traced (0 : Int32) (2 : Int32) n q74_1.1 q74_1.2 hq73) ⟨tw_173, tw_170, tw_172, tp_0, tw_1⟩ mdX4_faulted ⟨rfl, rfl, Nat.le_of_ble_eq_true rfl, Nat.le_of_ble_eq_true rfl⟩ rfl dX4_copy_74 rfl (Nat.le_of_ble_eq_true rfl) ⟨Nat.zero_le _, Nat.zero_le _⟩ rfl rfl rfl [0] [1, 2, 3, 4, 5, 6, 7, 8, 9, 10, 11, 12, 13, 14, 15, 16, 17, 18, 19, 20] [20, 0, 1, 2, 3, 4, 5, 6, 7, 8, 9, 10, 11, 12, 13, 14, 15, 16, 17, 18, 19] rfl rfl (by decide) rfl (fun H locs hP hD hS => ?_)
                replace hf := Option.some.inj hf
                obtain ⟨er0, er1⟩ := Prod.mk.inj hf
                obtain ⟨er2, er3⟩ := Prod.mk.inj er1
                clear hf er1
                subst er0
                subst er2
                subst er3
                exact rt_i Cc hK hP hD hS dX4_copy_77
            · replace hf := (if_neg hc65).symm.trans hf
              refine lv_aload_n hx hb dX4_copy_53 rfl (lv_at hl 2 rfl) ?_
              refine lv_iconst (v := (1 : Int32)) hx hb dX4_copy_54 (by decide) ?_
              obtain ⟨q55_1, hq74, hf⟩ := Option.bind_eq_some_iff.mp hf
              refine cV (ws' := (W_D cI cS a_d a_f a_t a_r a_z a_f_kind a_f_wet a_g a_g_kind a_g_wet a_r_cells a_r_hours a_r_cracked a_s0 a_s0_row a_s1 a_s1_row a_s2 a_s2_row a_s3 a_s3_row d_hour d_traced q55_1.2 f_kind f_wet f_wide f_rows f_cells f_sun f_all f_firstColumn f_lastColumn t_hours t_opened t_firstWrong g_kind g_wet g_wide g_rows g_cells g_sun g_all g_firstColumn g_lastColumn r_cells r_hours r_cracked r_count S_row S_lane S_length)) (rest := []) (st1 := [.int q55_1.1]) Cc hK hA hP hD hS hl.1 (ctX4_faulted l D cI cS a_d a_f a_t a_r a_z d_hour d_traced (0 : Int32) (1 : Int32) n q55_1.1 q55_1.2 hq74) ⟨tw_173, tw_170, tw_172, tp_0, tw_1⟩ mdX4_faulted ⟨rfl, rfl, Nat.le_of_ble_eq_true rfl, Nat.le_of_ble_eq_true rfl⟩ rfl dX4_copy_55 rfl (Nat.le_of_ble_eq_true rfl) ⟨Nat.zero_le _, Nat.zero_le _⟩ rfl rfl rfl [0] [1, 2, 3, 4, 5, 6, 7, 8, 9, 10, 11, 12, 13, 14, 15, 16, 17, 18, 19, 20] [20, 0, 1, 2, 3, 4, 5, 6, 7, 8, 9, 10, 11, 12, 13, 14, 15, 16, 17, 18, 19] rfl rfl (by decide) rfl (fun H locs hP hD hS => ?_)
              replace hf := Option.some.inj hf
              obtain ⟨er0, er1⟩ := Prod.mk.inj hf
              obtain ⟨er2, er3⟩ := Prod.mk.inj er1
              clear hf er1
              subst er0
              subst er2
              subst er3
              exact rt_i Cc hK hP hD hS dX4_copy_58
        · refine W.eq (g2 := F0 m 35 ls [.ref a_s1]) rfl ?_
          refine lv_astore (lv' := [(7, .ref a_s1), (6, .ref a_s1), (0, .ref a_d), (1, .int p1), (2, .int p2), (3, .int p3), (4, .int p4), (5, .int p5)]) hx hb dX4_copy_35 hl (by decide) rfl (fun ls hl => ?_)
          refine lv_aload hx hb dX4_copy_37 (lv_at hl 1 rfl) ?_
          obtain ⟨q39_1, hq75, hf⟩ := Option.bind_eq_some_iff.mp hf
          refine cV (ws' := (W_D cI cS a_d a_f a_t a_r a_z a_f_kind a_f_wet a_g a_g_kind a_g_wet a_r_cells a_r_hours a_r_cracked a_s0 a_s0_row a_s1 a_s1_row a_s2 a_s2_row a_s3 a_s3_row d_hour d_traced (0 : Int32) f_kind f_wet f_wide f_rows f_cells f_sun f_all f_firstColumn f_lastColumn t_hours t_opened t_firstWrong g_kind g_wet g_wide g_rows g_cells g_sun g_all g_firstColumn g_lastColumn r_cells r_hours r_cracked r_count S_row S_lane S_length)) (rest := []) (st1 := [.int q39_1]) Cc hK hA hP hD hS hl.1 (ctX2_isNothing l D cI cS a_s1 a_s1_row (S_row 1) (S_lane 1) (S_length 1)  n q39_1 hq75) ⟨tw_165, tw_428, tw_163, tw_164, tw_5⟩ mdX2_isNothing ⟨rfl, rfl, Nat.le_of_ble_eq_true rfl, Nat.le_of_ble_eq_true rfl⟩ rfl dX4_copy_39 rfl (Nat.le_of_ble_eq_true rfl) ⟨Nat.zero_le _, Nat.zero_le _⟩ rfl rfl rfl [15, 16] [0, 1, 2, 3, 4, 5, 6, 7, 8, 9, 10, 11, 12, 13, 14, 17, 18, 19, 20] [0, 1, 2, 3, 4, 5, 6, 7, 8, 9, 10, 11, 12, 13, 14, 19, 20, 15, 16, 17, 18] rfl rfl (by decide) rfl (fun H locs hP hD hS => ?_)
          refine lv_if_ne (tgt := 53) hx hb dX4_copy_42 (by decide) (fun hc76 => ?_) (fun hc76 => ?_)
          · replace hf := (if_neg hc76).symm.trans hf
            refine lv_aload_n hx hb dX4_copy_53 rfl (lv_at hl 2 rfl) ?_
            refine lv_iconst (v := (1 : Int32)) hx hb dX4_copy_54 (by decide) ?_
            obtain ⟨q55_1, hq77, hf⟩ := Option.bind_eq_some_iff.mp hf
            refine cV (ws' := (W_D cI cS a_d a_f a_t a_r a_z a_f_kind a_f_wet a_g a_g_kind a_g_wet a_r_cells a_r_hours a_r_cracked a_s0 a_s0_row a_s1 a_s1_row a_s2 a_s2_row a_s3 a_s3_row d_hour d_traced q55_1.2 f_kind f_wet f_wide f_rows f_cells f_sun f_all f_firstColumn f_lastColumn t_hours t_opened t_firstWrong g_kind g_wet g_wide g_rows g_cells g_sun g_all g_firstColumn g_lastColumn r_cells r_hours r_cracked r_count S_row S_lane S_length)) (rest := []) (st1 := [.int q55_1.1]) Cc hK hA hP hD hS hl.1 (ctX4_faulted l D cI cS a_d a_f a_t a_r a_z d_hour d_traced (0 : Int32) (1 : Int32) n q55_1.1 q55_1.2 hq77) ⟨tw_173, tw_170, tw_172, tp_0, tw_1⟩ mdX4_faulted ⟨rfl, rfl, Nat.le_of_ble_eq_true rfl, Nat.le_of_ble_eq_true rfl⟩ rfl dX4_copy_55 rfl (Nat.le_of_ble_eq_true rfl) ⟨Nat.zero_le _, Nat.zero_le _⟩ rfl rfl rfl [0] [1, 2, 3, 4, 5, 6, 7, 8, 9, 10, 11, 12, 13, 14, 15, 16, 17, 18, 19, 20] [20, 0, 1, 2, 3, 4, 5, 6, 7, 8, 9, 10, 11, 12, 13, 14, 15, 16, 17, 18, 19] rfl rfl (by decide) rfl (fun H locs hP hD hS => ?_)
            replace hf := Option.some.inj hf
            obtain ⟨er0, er1⟩ := Prod.mk.inj hf
            obtain ⟨er2, er3⟩ := Prod.mk.inj er1
            clear hf er1
            subst er0
            subst er2
            subst er3
            exact rt_i Cc hK hP hD hS dX4_copy_58
          · replace hf := (if_pos hc76).symm.trans hf
            refine lv_aload hx hb dX4_copy_45 (lv_at hl 0 rfl) ?_
            obtain ⟨q47_1, hq78, hf⟩ := Option.bind_eq_some_iff.mp hf
            refine cV (ws' := (W_D cI cS a_d a_f a_t a_r a_z a_f_kind a_f_wet a_g a_g_kind a_g_wet a_r_cells a_r_hours a_r_cracked a_s0 a_s0_row a_s1 a_s1_row a_s2 a_s2_row a_s3 a_s3_row d_hour d_traced (0 : Int32) f_kind f_wet f_wide f_rows f_cells f_sun f_all f_firstColumn f_lastColumn t_hours t_opened t_firstWrong g_kind g_wet g_wide g_rows g_cells g_sun g_all g_firstColumn g_lastColumn r_cells r_hours r_cracked r_count S_row S_lane S_length)) (rest := []) (st1 := [.int q47_1]) Cc hK hA hP hD hS hl.1 (ctX2_isNothing l D cI cS a_s1 a_s1_row (S_row 1) (S_lane 1) (S_length 1)  n q47_1 hq78) ⟨tw_165, tw_428, tw_163, tw_164, tw_5⟩ mdX2_isNothing ⟨rfl, rfl, Nat.le_of_ble_eq_true rfl, Nat.le_of_ble_eq_true rfl⟩ rfl dX4_copy_47 rfl (Nat.le_of_ble_eq_true rfl) ⟨Nat.zero_le _, Nat.zero_le _⟩ rfl rfl rfl [15, 16] [0, 1, 2, 3, 4, 5, 6, 7, 8, 9, 10, 11, 12, 13, 14, 17, 18, 19, 20] [0, 1, 2, 3, 4, 5, 6, 7, 8, 9, 10, 11, 12, 13, 14, 19, 20, 15, 16, 17, 18] rfl rfl (by decide) rfl (fun H locs hP hD hS => ?_)
            refine lv_if_eq (tgt := 59) hx hb dX4_copy_50 (by decide) (fun hc79 => ?_) (fun hc79 => ?_)
            · replace hf := (if_pos hc79).symm.trans hf
              refine lv_aload hx hb dX4_copy_59 (lv_at hl 1 rfl) ?_
              refine va_getN (D := D) (ci := 2) (v := .int (S_lane 1)) (C := RX2) (T := TX2) (N := 3) hx hb hts inX2 hown hK hP 15 rfl rfl 1 (by decide) (va_Nw.use rfl (hnw _ nn_12)) (fun _ h9 => h9) rfl dX4_copy_61 ?_
              refine lv_aload hx hb dX4_copy_64 (lv_at hl 0 rfl) ?_
              refine va_getN (D := D) (ci := 2) (v := .int (S_lane 1)) (C := RX2) (T := TX2) (N := 3) hx hb hts inX2 hown hK hP 15 rfl rfl 1 (by decide) (va_Nw.use rfl (hnw _ nn_12)) (fun _ h9 => h9) rfl dX4_copy_66 ?_
              refine lv_icmp_eq (tgt := 78) hx hb dX4_copy_69 (by decide) (fun hc80 => ?_) (fun hc80 => ?_)
              · replace hf := (if_pos hc80).symm.trans hf
                refine lv_aload hx hb dX4_copy_78 (lv_at hl 1 rfl) ?_
                refine lv_iload_n hx hb dX4_copy_80 rfl (lv_at hl 4 rfl) ?_
                refine lv_iload hx hb dX4_copy_81 (lv_at hl 7 rfl) ?_
                obtain ⟨q83_1, hq81, hf⟩ := Option.bind_eq_some_iff.mp hf
                refine cV (ws' := (W_D cI cS a_d a_f a_t a_r a_z a_f_kind a_f_wet a_g a_g_kind a_g_wet a_r_cells a_r_hours a_r_cracked a_s0 a_s0_row a_s1 a_s1_row a_s2 a_s2_row a_s3 a_s3_row d_hour d_traced (0 : Int32) f_kind f_wet f_wide f_rows f_cells f_sun f_all f_firstColumn f_lastColumn t_hours t_opened t_firstWrong g_kind g_wet g_wide g_rows g_cells g_sun g_all g_firstColumn g_lastColumn r_cells r_hours r_cracked r_count S_row S_lane S_length)) (rest := []) (st1 := [.int q83_1]) Cc hK hA hP hD hS hl.1 (ctX2_has l D cI cS a_s1 a_s1_row (S_row 1) (S_lane 1) (S_length 1) p2 p5 n q83_1 hq81) ⟨tw_169, tw_166, tw_167, tw_168, tw_5⟩ mdX2_has ⟨rfl, rfl, Nat.le_of_ble_eq_true rfl, Nat.le_of_ble_eq_true rfl⟩ rfl dX4_copy_83 rfl (Nat.le_of_ble_eq_true rfl) ⟨Nat.zero_le _, Nat.zero_le _⟩ rfl rfl rfl [15, 16] [0, 1, 2, 3, 4, 5, 6, 7, 8, 9, 10, 11, 12, 13, 14, 17, 18, 19, 20] [0, 1, 2, 3, 4, 5, 6, 7, 8, 9, 10, 11, 12, 13, 14, 19, 20, 15, 16, 17, 18] rfl rfl (by decide) rfl (fun H locs hP hD hS => ?_)
                refine lv_if_eq (tgt := 101) hx hb dX4_copy_86 (by decide) (fun hc82 => ?_) (fun hc82 => ?_)
                · replace hf := (if_pos hc82).symm.trans hf
                  refine lv_aload_n hx hb dX4_copy_101 rfl (lv_at hl 2 rfl) ?_
                  refine lv_iconst (v := (3 : Int32)) hx hb dX4_copy_102 (by decide) ?_
                  obtain ⟨q103_1, hq83, hf⟩ := Option.bind_eq_some_iff.mp hf
                  refine cV (ws' := (W_D cI cS a_d a_f a_t a_r a_z a_f_kind a_f_wet a_g a_g_kind a_g_wet a_r_cells a_r_hours a_r_cracked a_s0 a_s0_row a_s1 a_s1_row a_s2 a_s2_row a_s3 a_s3_row d_hour d_traced q103_1.2 f_kind f_wet f_wide f_rows f_cells f_sun f_all f_firstColumn f_lastColumn t_hours t_opened t_firstWrong g_kind g_wet g_wide g_rows g_cells g_sun g_all g_firstColumn g_lastColumn r_cells r_hours r_cracked r_count S_row S_lane S_length)) (rest := []) (st1 := [.int q103_1.1]) Cc hK hA hP hD hS hl.1 (ctX4_faulted l D cI cS a_d a_f a_t a_r a_z d_hour d_traced (0 : Int32) (3 : Int32) n q103_1.1 q103_1.2 hq83) ⟨tw_173, tw_170, tw_172, tp_0, tw_1⟩ mdX4_faulted ⟨rfl, rfl, Nat.le_of_ble_eq_true rfl, Nat.le_of_ble_eq_true rfl⟩ rfl dX4_copy_103 rfl (Nat.le_of_ble_eq_true rfl) ⟨Nat.zero_le _, Nat.zero_le _⟩ rfl rfl rfl [0] [1, 2, 3, 4, 5, 6, 7, 8, 9, 10, 11, 12, 13, 14, 15, 16, 17, 18, 19, 20] [20, 0, 1, 2, 3, 4, 5, 6, 7, 8, 9, 10, 11, 12, 13, 14, 15, 16, 17, 18, 19] rfl rfl (by decide) rfl (fun H locs hP hD hS => ?_)
                  replace hf := Option.some.inj hf
                  obtain ⟨er0, er1⟩ := Prod.mk.inj hf
                  obtain ⟨er2, er3⟩ := Prod.mk.inj er1
                  clear hf er1
                  subst er0
                  subst er2
                  subst er3
                  exact rt_i Cc hK hP hD hS dX4_copy_106
                · replace hf := (if_neg hc82).symm.trans hf
                  refine lv_aload hx hb dX4_copy_89 (lv_at hl 0 rfl) ?_
                  refine lv_iload hx hb dX4_copy_91 (lv_at hl 6 rfl) ?_
                  refine lv_iload hx hb dX4_copy_93 (lv_at hl 7 rfl) ?_
                  obtain ⟨q95_1, hq84, hf⟩ := Option.bind_eq_some_iff.mp hf
                  refine cV (ws' := (W_D cI cS a_d a_f a_t a_r a_z a_f_kind a_f_wet a_g a_g_kind a_g_wet a_r_cells a_r_hours a_r_cracked a_s0 a_s0_row a_s1 a_s1_row a_s2 a_s2_row a_s3 a_s3_row d_hour d_traced (0 : Int32) f_kind f_wet f_wide f_rows f_cells f_sun f_all f_firstColumn f_lastColumn t_hours t_opened t_firstWrong g_kind g_wet g_wide g_rows g_cells g_sun g_all g_firstColumn g_lastColumn r_cells r_hours r_cracked r_count S_row S_lane S_length)) (rest := []) (st1 := [.int q95_1]) Cc hK hA hP hD hS hl.1 (ctX2_has l D cI cS a_s1 a_s1_row (S_row 1) (S_lane 1) (S_length 1) p4 p5 n q95_1 hq84) ⟨tw_169, tw_166, tw_167, tw_168, tw_5⟩ mdX2_has ⟨rfl, rfl, Nat.le_of_ble_eq_true rfl, Nat.le_of_ble_eq_true rfl⟩ rfl dX4_copy_95 rfl (Nat.le_of_ble_eq_true rfl) ⟨Nat.zero_le _, Nat.zero_le _⟩ rfl rfl rfl [15, 16] [0, 1, 2, 3, 4, 5, 6, 7, 8, 9, 10, 11, 12, 13, 14, 17, 18, 19, 20] [0, 1, 2, 3, 4, 5, 6, 7, 8, 9, 10, 11, 12, 13, 14, 19, 20, 15, 16, 17, 18] rfl rfl (by decide) rfl (fun H locs hP hD hS => ?_)
                  refine lv_if_ne (tgt := 107) hx hb dX4_copy_98 (by decide) (fun hc85 => ?_) (fun hc85 => ?_)
                  · replace hf := (if_neg hc85).symm.trans hf
                    refine lv_aload hx hb dX4_copy_107 (lv_at hl 1 rfl) ?_
                    refine va_getN (D := D) (ci := 2) (v := .ref a_s1_row) (C := RX2) (T := TX2) (N := 3) hx hb hts inX2 hown hK hP 15 rfl rfl 0 (by decide) (va_Nw.use rfl (hnw _ nn_11)) (fun _ h9 => h9) rfl dX4_copy_109 ?_
                    refine lv_iload_n hx hb dX4_copy_112 rfl (lv_at hl 4 rfl) ?_
                    refine lv_aload hx hb dX4_copy_113 (lv_at hl 0 rfl) ?_
                    refine va_getN (D := D) (ci := 2) (v := .ref a_s1_row) (C := RX2) (T := TX2) (N := 3) hx hb hts inX2 hown hK hP 15 rfl rfl 0 (by decide) (va_Nw.use rfl (hnw _ nn_11)) (fun _ h9 => h9) rfl dX4_copy_115 ?_
                    refine lv_iload hx hb dX4_copy_118 (lv_at hl 6 rfl) ?_
                    refine lv_iload hx hb dX4_copy_120 (lv_at hl 7 rfl) ?_
                    obtain ⟨⟨g1, g2, g3, g4, g5⟩, hf⟩ := cpg_some hf
                    refine va_copyi hx hb (hml.trans hl.1.symm) hown (hts _ tw_454) (hts _ tw_native) (hts _ tw_455) (hts _ tw_9) hK hP hD hS 16 16 0 0 rfl rfl rfl rfl rfl g1 g2 g3 g4 g5 (fun _ _ => rfl) (Nat.le_of_ble_eq_true rfl) (Nat.le_of_ble_eq_true rfl) dX4_copy_122 (fun H locs hP hD hS => ?_)
                    have hP : va_P D classes (W_D cI cS a_d a_f a_t a_r a_z a_f_kind a_f_wet a_g a_g_kind a_g_wet a_r_cells a_r_hours a_r_cracked a_s0 a_s0_row a_s1 a_s1_row a_s2 a_s2_row a_s3 a_s3_row d_hour d_traced (0 : Int32) f_kind f_wet f_wide f_rows f_cells f_sun f_all f_firstColumn f_lastColumn t_hours t_opened t_firstWrong g_kind g_wet g_wide g_rows g_cells g_sun g_all g_firstColumn g_lastColumn r_cells r_hours r_cracked r_count (va_up S_row 1 (va_cpy (S_row 1) (S_row 1) p2.toNatClampNeg p4.toNatClampNeg p5.toNatClampNeg)) S_lane S_length) H := hP
                    have hD : va_D A (W_D cI cS a_d a_f a_t a_r a_z a_f_kind a_f_wet a_g a_g_kind a_g_wet a_r_cells a_r_hours a_r_cracked a_s0 a_s0_row a_s1 a_s1_row a_s2 a_s2_row a_s3 a_s3_row d_hour d_traced (0 : Int32) f_kind f_wet f_wide f_rows f_cells f_sun f_all f_firstColumn f_lastColumn t_hours t_opened t_firstWrong g_kind g_wet g_wide g_rows g_cells g_sun g_all g_firstColumn g_lastColumn r_cells r_hours r_cracked r_count (va_up S_row 1 (va_cpy (S_row 1) (S_row 1) p2.toNatClampNeg p4.toNatClampNeg p5.toNatClampNeg)) S_lane S_length) := hD
                    refine lv_iload hx hb dX4_copy_125 (lv_at hl 7 rfl) ?_
                    replace hf := Option.some.inj hf
                    obtain ⟨er0, er1⟩ := Prod.mk.inj hf
                    obtain ⟨er2, er3⟩ := Prod.mk.inj er1
                    clear hf er1
                    subst er0
                    subst er2
                    subst er3
                    exact rt_i Cc hK hP hD hS dX4_copy_127
                  · replace hf := (if_pos hc85).symm.trans hf
                    refine lv_aload_n hx hb dX4_copy_101 rfl (lv_at hl 2 rfl) ?_
                    refine lv_iconst (v := (3 : Int32)) hx hb dX4_copy_102 (by decide) ?_
                    obtain ⟨q103_1, hq86, hf⟩ := Option.bind_eq_some_iff.mp hf
                    refine cV (ws' := (W_D cI cS a_d a_f a_t a_r a_z a_f_kind a_f_wet a_g a_g_kind a_g_wet a_r_cells a_r_hours a_r_cracked a_s0 a_s0_row a_s1 a_s1_row a_s2 a_s2_row a_s3 a_s3_row d_hour d_traced q103_1.2 f_kind f_wet f_wide f_rows f_cells f_sun f_all f_firstColumn f_lastColumn t_hours t_opened t_firstWrong g_kind g_wet g_wide g_rows g_cells g_sun g_all g_firstColumn g_lastColumn r_cells r_hours r_cracked r_count S_row S_lane S_length)) (rest := []) (st1 := [.int q103_1.1]) Cc hK hA hP hD hS hl.1 (ctX4_faulted l D cI cS a_d a_f a_t a_r a_z d_hour d_traced (0 : Int32) (3 : Int32) n q103_1.1 q103_1.2 hq86) ⟨tw_173, tw_170, tw_172, tp_0, tw_1⟩ mdX4_faulted ⟨rfl, rfl, Nat.le_of_ble_eq_true rfl, Nat.le_of_ble_eq_true rfl⟩ rfl dX4_copy_103 rfl (Nat.le_of_ble_eq_true rfl) ⟨Nat.zero_le _, Nat.zero_le _⟩ rfl rfl rfl [0] [1, 2, 3, 4, 5, 6, 7, 8, 9, 10, 11, 12, 13, 14, 15, 16, 17, 18, 19, 20] [20, 0, 1, 2, 3, 4, 5, 6, 7, 8, 9, 10, 11, 12, 13, 14, 15, 16, 17, 18, 19] rfl rfl (by decide) rfl (fun H locs hP hD hS => ?_)
                    replace hf := Option.some.inj hf
                    obtain ⟨er0, er1⟩ := Prod.mk.inj hf
                    obtain ⟨er2, er3⟩ := Prod.mk.inj er1
                    clear hf er1
                    subst er0
                    subst er2
                    subst er3
                    exact rt_i Cc hK hP hD hS dX4_copy_106
              · replace hf := (if_neg hc80).symm.trans hf
                refine lv_aload_n hx hb dX4_copy_72 rfl (lv_at hl 2 rfl) ?_
                refine lv_iconst (v := (2 : Int32)) hx hb dX4_copy_73 (by decide) ?_
                obtain ⟨q74_1, hq87, hf⟩ := Option.bind_eq_some_iff.mp hf
                refine cV (ws' := (W_D cI cS a_d a_f a_t a_r a_z a_f_kind a_f_wet a_g a_g_kind a_g_wet a_r_cells a_r_hours a_r_cracked a_s0 a_s0_row a_s1 a_s1_row a_s2 a_s2_row a_s3 a_s3_row d_hour d_traced q74_1.2 f_kind f_wet f_wide f_rows f_cells f_sun f_all f_firstColumn f_lastColumn t_hours t_opened t_firstWrong g_kind g_wet g_wide g_rows g_cells g_sun g_all g_firstColumn g_lastColumn r_cells r_hours r_cracked r_count S_row S_lane S_length)) (rest := []) (st1 := [.int q74_1.1]) Cc hK hA hP hD hS hl.1 (ctX4_faulted l D cI cS a_d a_f a_t a_r a_z d_hour d_traced (0 : Int32) (2 : Int32) n q74_1.1 q74_1.2 hq87) ⟨tw_173, tw_170, tw_172, tp_0, tw_1⟩ mdX4_faulted ⟨rfl, rfl, Nat.le_of_ble_eq_true rfl, Nat.le_of_ble_eq_true rfl⟩ rfl dX4_copy_74 rfl (Nat.le_of_ble_eq_true rfl) ⟨Nat.zero_le _, Nat.zero_le _⟩ rfl rfl rfl [0] [1, 2, 3, 4, 5, 6, 7, 8, 9, 10, 11, 12, 13, 14, 15, 16, 17, 18, 19, 20] [20, 0, 1, 2, 3, 4, 5, 6, 7, 8, 9, 10, 11, 12, 13, 14, 15, 16, 17, 18, 19] rfl rfl (by decide) rfl (fun H locs hP hD hS => ?_)
                replace hf := Option.some.inj hf
                obtain ⟨er0, er1⟩ := Prod.mk.inj hf
                obtain ⟨er2, er3⟩ := Prod.mk.inj er1
                clear hf er1
                subst er0
                subst er2
                subst er3
                exact rt_i Cc hK hP hD hS dX4_copy_77
            · replace hf := (if_neg hc79).symm.trans hf
              refine lv_aload_n hx hb dX4_copy_53 rfl (lv_at hl 2 rfl) ?_
              refine lv_iconst (v := (1 : Int32)) hx hb dX4_copy_54 (by decide) ?_
              obtain ⟨q55_1, hq88, hf⟩ := Option.bind_eq_some_iff.mp hf
              refine cV (ws' := (W_D cI cS a_d a_f a_t a_r a_z a_f_kind a_f_wet a_g a_g_kind a_g_wet a_r_cells a_r_hours a_r_cracked a_s0 a_s0_row a_s1 a_s1_row a_s2 a_s2_row a_s3 a_s3_row d_hour d_traced q55_1.2 f_kind f_wet f_wide f_rows f_cells f_sun f_all f_firstColumn f_lastColumn t_hours t_opened t_firstWrong g_kind g_wet g_wide g_rows g_cells g_sun g_all g_firstColumn g_lastColumn r_cells r_hours r_cracked r_count S_row S_lane S_length)) (rest := []) (st1 := [.int q55_1.1]) Cc hK hA hP hD hS hl.1 (ctX4_faulted l D cI cS a_d a_f a_t a_r a_z d_hour d_traced (0 : Int32) (1 : Int32) n q55_1.1 q55_1.2 hq88) ⟨tw_173, tw_170, tw_172, tp_0, tw_1⟩ mdX4_faulted ⟨rfl, rfl, Nat.le_of_ble_eq_true rfl, Nat.le_of_ble_eq_true rfl⟩ rfl dX4_copy_55 rfl (Nat.le_of_ble_eq_true rfl) ⟨Nat.zero_le _, Nat.zero_le _⟩ rfl rfl rfl [0] [1, 2, 3, 4, 5, 6, 7, 8, 9, 10, 11, 12, 13, 14, 15, 16, 17, 18, 19, 20] [20, 0, 1, 2, 3, 4, 5, 6, 7, 8, 9, 10, 11, 12, 13, 14, 15, 16, 17, 18, 19] rfl rfl (by decide) rfl (fun H locs hP hD hS => ?_)
              replace hf := Option.some.inj hf
              obtain ⟨er0, er1⟩ := Prod.mk.inj hf
              obtain ⟨er2, er3⟩ := Prod.mk.inj er1
              clear hf er1
              subst er0
              subst er2
              subst er3
              exact rt_i Cc hK hP hD hS dX4_copy_58
        · refine W.eq (g2 := F0 m 35 ls [.ref a_s2]) rfl ?_
          refine lv_astore (lv' := [(7, .ref a_s2), (6, .ref a_s1), (0, .ref a_d), (1, .int p1), (2, .int p2), (3, .int p3), (4, .int p4), (5, .int p5)]) hx hb dX4_copy_35 hl (by decide) rfl (fun ls hl => ?_)
          refine lv_aload hx hb dX4_copy_37 (lv_at hl 1 rfl) ?_
          obtain ⟨q39_1, hq89, hf⟩ := Option.bind_eq_some_iff.mp hf
          refine cV (ws' := (W_D cI cS a_d a_f a_t a_r a_z a_f_kind a_f_wet a_g a_g_kind a_g_wet a_r_cells a_r_hours a_r_cracked a_s0 a_s0_row a_s1 a_s1_row a_s2 a_s2_row a_s3 a_s3_row d_hour d_traced (0 : Int32) f_kind f_wet f_wide f_rows f_cells f_sun f_all f_firstColumn f_lastColumn t_hours t_opened t_firstWrong g_kind g_wet g_wide g_rows g_cells g_sun g_all g_firstColumn g_lastColumn r_cells r_hours r_cracked r_count S_row S_lane S_length)) (rest := []) (st1 := [.int q39_1]) Cc hK hA hP hD hS hl.1 (ctX2_isNothing l D cI cS a_s1 a_s1_row (S_row 1) (S_lane 1) (S_length 1)  n q39_1 hq89) ⟨tw_165, tw_428, tw_163, tw_164, tw_5⟩ mdX2_isNothing ⟨rfl, rfl, Nat.le_of_ble_eq_true rfl, Nat.le_of_ble_eq_true rfl⟩ rfl dX4_copy_39 rfl (Nat.le_of_ble_eq_true rfl) ⟨Nat.zero_le _, Nat.zero_le _⟩ rfl rfl rfl [15, 16] [0, 1, 2, 3, 4, 5, 6, 7, 8, 9, 10, 11, 12, 13, 14, 17, 18, 19, 20] [0, 1, 2, 3, 4, 5, 6, 7, 8, 9, 10, 11, 12, 13, 14, 19, 20, 15, 16, 17, 18] rfl rfl (by decide) rfl (fun H locs hP hD hS => ?_)
          refine lv_if_ne (tgt := 53) hx hb dX4_copy_42 (by decide) (fun hc90 => ?_) (fun hc90 => ?_)
          · replace hf := (if_neg hc90).symm.trans hf
            refine lv_aload_n hx hb dX4_copy_53 rfl (lv_at hl 2 rfl) ?_
            refine lv_iconst (v := (1 : Int32)) hx hb dX4_copy_54 (by decide) ?_
            obtain ⟨q55_1, hq91, hf⟩ := Option.bind_eq_some_iff.mp hf
            refine cV (ws' := (W_D cI cS a_d a_f a_t a_r a_z a_f_kind a_f_wet a_g a_g_kind a_g_wet a_r_cells a_r_hours a_r_cracked a_s0 a_s0_row a_s1 a_s1_row a_s2 a_s2_row a_s3 a_s3_row d_hour d_traced q55_1.2 f_kind f_wet f_wide f_rows f_cells f_sun f_all f_firstColumn f_lastColumn t_hours t_opened t_firstWrong g_kind g_wet g_wide g_rows g_cells g_sun g_all g_firstColumn g_lastColumn r_cells r_hours r_cracked r_count S_row S_lane S_length)) (rest := []) (st1 := [.int q55_1.1]) Cc hK hA hP hD hS hl.1 (ctX4_faulted l D cI cS a_d a_f a_t a_r a_z d_hour d_traced (0 : Int32) (1 : Int32) n q55_1.1 q55_1.2 hq91) ⟨tw_173, tw_170, tw_172, tp_0, tw_1⟩ mdX4_faulted ⟨rfl, rfl, Nat.le_of_ble_eq_true rfl, Nat.le_of_ble_eq_true rfl⟩ rfl dX4_copy_55 rfl (Nat.le_of_ble_eq_true rfl) ⟨Nat.zero_le _, Nat.zero_le _⟩ rfl rfl rfl [0] [1, 2, 3, 4, 5, 6, 7, 8, 9, 10, 11, 12, 13, 14, 15, 16, 17, 18, 19, 20] [20, 0, 1, 2, 3, 4, 5, 6, 7, 8, 9, 10, 11, 12, 13, 14, 15, 16, 17, 18, 19] rfl rfl (by decide) rfl (fun H locs hP hD hS => ?_)
            replace hf := Option.some.inj hf
            obtain ⟨er0, er1⟩ := Prod.mk.inj hf
            obtain ⟨er2, er3⟩ := Prod.mk.inj er1
            clear hf er1
            subst er0
            subst er2
            subst er3
            exact rt_i Cc hK hP hD hS dX4_copy_58
          · replace hf := (if_pos hc90).symm.trans hf
            refine lv_aload hx hb dX4_copy_45 (lv_at hl 0 rfl) ?_
            obtain ⟨q47_1, hq92, hf⟩ := Option.bind_eq_some_iff.mp hf
            refine cV (ws' := (W_D cI cS a_d a_f a_t a_r a_z a_f_kind a_f_wet a_g a_g_kind a_g_wet a_r_cells a_r_hours a_r_cracked a_s0 a_s0_row a_s1 a_s1_row a_s2 a_s2_row a_s3 a_s3_row d_hour d_traced (0 : Int32) f_kind f_wet f_wide f_rows f_cells f_sun f_all f_firstColumn f_lastColumn t_hours t_opened t_firstWrong g_kind g_wet g_wide g_rows g_cells g_sun g_all g_firstColumn g_lastColumn r_cells r_hours r_cracked r_count S_row S_lane S_length)) (rest := []) (st1 := [.int q47_1]) Cc hK hA hP hD hS hl.1 (ctX2_isNothing l D cI cS a_s2 a_s2_row (S_row 2) (S_lane 2) (S_length 2)  n q47_1 hq92) ⟨tw_165, tw_428, tw_163, tw_164, tw_5⟩ mdX2_isNothing ⟨rfl, rfl, Nat.le_of_ble_eq_true rfl, Nat.le_of_ble_eq_true rfl⟩ rfl dX4_copy_47 rfl (Nat.le_of_ble_eq_true rfl) ⟨Nat.zero_le _, Nat.zero_le _⟩ rfl rfl rfl [17, 18] [0, 1, 2, 3, 4, 5, 6, 7, 8, 9, 10, 11, 12, 13, 14, 15, 16, 19, 20] [0, 1, 2, 3, 4, 5, 6, 7, 8, 9, 10, 11, 12, 13, 14, 15, 16, 19, 20, 17, 18] rfl rfl (by decide) rfl (fun H locs hP hD hS => ?_)
            refine lv_if_eq (tgt := 59) hx hb dX4_copy_50 (by decide) (fun hc93 => ?_) (fun hc93 => ?_)
            · replace hf := (if_pos hc93).symm.trans hf
              refine lv_aload hx hb dX4_copy_59 (lv_at hl 1 rfl) ?_
              refine va_getN (D := D) (ci := 2) (v := .int (S_lane 1)) (C := RX2) (T := TX2) (N := 3) hx hb hts inX2 hown hK hP 15 rfl rfl 1 (by decide) (va_Nw.use rfl (hnw _ nn_12)) (fun _ h9 => h9) rfl dX4_copy_61 ?_
              refine lv_aload hx hb dX4_copy_64 (lv_at hl 0 rfl) ?_
              refine va_getN (D := D) (ci := 2) (v := .int (S_lane 2)) (C := RX2) (T := TX2) (N := 3) hx hb hts inX2 hown hK hP 17 rfl rfl 1 (by decide) (va_Nw.use rfl (hnw _ nn_12)) (fun _ h9 => h9) rfl dX4_copy_66 ?_
              refine lv_icmp_eq (tgt := 78) hx hb dX4_copy_69 (by decide) (fun hc94 => ?_) (fun hc94 => ?_)
              · replace hf := (if_pos hc94).symm.trans hf
                refine lv_aload hx hb dX4_copy_78 (lv_at hl 1 rfl) ?_
                refine lv_iload_n hx hb dX4_copy_80 rfl (lv_at hl 4 rfl) ?_
                refine lv_iload hx hb dX4_copy_81 (lv_at hl 7 rfl) ?_
                obtain ⟨q83_1, hq95, hf⟩ := Option.bind_eq_some_iff.mp hf
                refine cV (ws' := (W_D cI cS a_d a_f a_t a_r a_z a_f_kind a_f_wet a_g a_g_kind a_g_wet a_r_cells a_r_hours a_r_cracked a_s0 a_s0_row a_s1 a_s1_row a_s2 a_s2_row a_s3 a_s3_row d_hour d_traced (0 : Int32) f_kind f_wet f_wide f_rows f_cells f_sun f_all f_firstColumn f_lastColumn t_hours t_opened t_firstWrong g_kind g_wet g_wide g_rows g_cells g_sun g_all g_firstColumn g_lastColumn r_cells r_hours r_cracked r_count S_row S_lane S_length)) (rest := []) (st1 := [.int q83_1]) Cc hK hA hP hD hS hl.1 (ctX2_has l D cI cS a_s1 a_s1_row (S_row 1) (S_lane 1) (S_length 1) p2 p5 n q83_1 hq95) ⟨tw_169, tw_166, tw_167, tw_168, tw_5⟩ mdX2_has ⟨rfl, rfl, Nat.le_of_ble_eq_true rfl, Nat.le_of_ble_eq_true rfl⟩ rfl dX4_copy_83 rfl (Nat.le_of_ble_eq_true rfl) ⟨Nat.zero_le _, Nat.zero_le _⟩ rfl rfl rfl [15, 16] [0, 1, 2, 3, 4, 5, 6, 7, 8, 9, 10, 11, 12, 13, 14, 17, 18, 19, 20] [0, 1, 2, 3, 4, 5, 6, 7, 8, 9, 10, 11, 12, 13, 14, 19, 20, 15, 16, 17, 18] rfl rfl (by decide) rfl (fun H locs hP hD hS => ?_)
                refine lv_if_eq (tgt := 101) hx hb dX4_copy_86 (by decide) (fun hc96 => ?_) (fun hc96 => ?_)
                · replace hf := (if_pos hc96).symm.trans hf
                  refine lv_aload_n hx hb dX4_copy_101 rfl (lv_at hl 2 rfl) ?_
                  refine lv_iconst (v := (3 : Int32)) hx hb dX4_copy_102 (by decide) ?_
                  obtain ⟨q103_1, hq97, hf⟩ := Option.bind_eq_some_iff.mp hf
                  refine cV (ws' := (W_D cI cS a_d a_f a_t a_r a_z a_f_kind a_f_wet a_g a_g_kind a_g_wet a_r_cells a_r_hours a_r_cracked a_s0 a_s0_row a_s1 a_s1_row a_s2 a_s2_row a_s3 a_s3_row d_hour d_traced q103_1.2 f_kind f_wet f_wide f_rows f_cells f_sun f_all f_firstColumn f_lastColumn t_hours t_opened t_firstWrong g_kind g_wet g_wide g_rows g_cells g_sun g_all g_firstColumn g_lastColumn r_cells r_hours r_cracked r_count S_row S_lane S_length)) (rest := []) (st1 := [.int q103_1.1]) Cc hK hA hP hD hS hl.1 (ctX4_faulted l D cI cS a_d a_f a_t a_r a_z d_hour d_traced (0 : Int32) (3 : Int32) n q103_1.1 q103_1.2 hq97) ⟨tw_173, tw_170, tw_172, tp_0, tw_1⟩ mdX4_faulted ⟨rfl, rfl, Nat.le_of_ble_eq_true rfl, Nat.le_of_ble_eq_true rfl⟩ rfl dX4_copy_103 rfl (Nat.le_of_ble_eq_true rfl) ⟨Nat.zero_le _, Nat.zero_le _⟩ rfl rfl rfl [0] [1, 2, 3, 4, 5, 6, 7, 8, 9, 10, 11, 12, 13, 14, 15, 16, 17, 18, 19, 20] [20, 0, 1, 2, 3, 4, 5, 6, 7, 8, 9, 10, 11, 12, 13, 14, 15, 16, 17, 18, 19] rfl rfl (by decide) rfl (fun H locs hP hD hS => ?_)
                  replace hf := Option.some.inj hf
                  obtain ⟨er0, er1⟩ := Prod.mk.inj hf
                  obtain ⟨er2, er3⟩ := Prod.mk.inj er1
                  clear hf er1
                  subst er0
                  subst er2
                  subst er3
                  exact rt_i Cc hK hP hD hS dX4_copy_106
                · replace hf := (if_neg hc96).symm.trans hf
                  refine lv_aload hx hb dX4_copy_89 (lv_at hl 0 rfl) ?_
                  refine lv_iload hx hb dX4_copy_91 (lv_at hl 6 rfl) ?_
                  refine lv_iload hx hb dX4_copy_93 (lv_at hl 7 rfl) ?_
                  obtain ⟨q95_1, hq98, hf⟩ := Option.bind_eq_some_iff.mp hf
                  refine cV (ws' := (W_D cI cS a_d a_f a_t a_r a_z a_f_kind a_f_wet a_g a_g_kind a_g_wet a_r_cells a_r_hours a_r_cracked a_s0 a_s0_row a_s1 a_s1_row a_s2 a_s2_row a_s3 a_s3_row d_hour d_traced (0 : Int32) f_kind f_wet f_wide f_rows f_cells f_sun f_all f_firstColumn f_lastColumn t_hours t_opened t_firstWrong g_kind g_wet g_wide g_rows g_cells g_sun g_all g_firstColumn g_lastColumn r_cells r_hours r_cracked r_count S_row S_lane S_length)) (rest := []) (st1 := [.int q95_1]) Cc hK hA hP hD hS hl.1 (ctX2_has l D cI cS a_s2 a_s2_row (S_row 2) (S_lane 2) (S_length 2) p4 p5 n q95_1 hq98) ⟨tw_169, tw_166, tw_167, tw_168, tw_5⟩ mdX2_has ⟨rfl, rfl, Nat.le_of_ble_eq_true rfl, Nat.le_of_ble_eq_true rfl⟩ rfl dX4_copy_95 rfl (Nat.le_of_ble_eq_true rfl) ⟨Nat.zero_le _, Nat.zero_le _⟩ rfl rfl rfl [17, 18] [0, 1, 2, 3, 4, 5, 6, 7, 8, 9, 10, 11, 12, 13, 14, 15, 16, 19, 20] [0, 1, 2, 3, 4, 5, 6, 7, 8, 9, 10, 11, 12, 13, 14, 15, 16, 19, 20, 17, 18] rfl rfl (by decide) rfl (fun H locs hP hD hS => ?_)
                  refine lv_if_ne (tgt := 107) hx hb dX4_copy_98 (by decide) (fun hc99 => ?_) (fun hc99 => ?_)
                  · replace hf := (if_neg hc99).symm.trans hf
                    refine lv_aload hx hb dX4_copy_107 (lv_at hl 1 rfl) ?_
                    refine va_getN (D := D) (ci := 2) (v := .ref a_s1_row) (C := RX2) (T := TX2) (N := 3) hx hb hts inX2 hown hK hP 15 rfl rfl 0 (by decide) (va_Nw.use rfl (hnw _ nn_11)) (fun _ h9 => h9) rfl dX4_copy_109 ?_
                    refine lv_iload_n hx hb dX4_copy_112 rfl (lv_at hl 4 rfl) ?_
                    refine lv_aload hx hb dX4_copy_113 (lv_at hl 0 rfl) ?_
                    refine va_getN (D := D) (ci := 2) (v := .ref a_s2_row) (C := RX2) (T := TX2) (N := 3) hx hb hts inX2 hown hK hP 17 rfl rfl 0 (by decide) (va_Nw.use rfl (hnw _ nn_11)) (fun _ h9 => h9) rfl dX4_copy_115 ?_
                    refine lv_iload hx hb dX4_copy_118 (lv_at hl 6 rfl) ?_
                    refine lv_iload hx hb dX4_copy_120 (lv_at hl 7 rfl) ?_
                    obtain ⟨⟨g1, g2, g3, g4, g5⟩, hf⟩ := cpg_some hf
                    refine va_copyi hx hb (hml.trans hl.1.symm) hown (hts _ tw_454) (hts _ tw_native) (hts _ tw_455) (hts _ tw_9) hK hP hD hS 16 18 0 0 rfl rfl rfl rfl rfl g1 g2 g3 g4 g5 (fun _ _ => rfl) (Nat.le_of_ble_eq_true rfl) (Nat.le_of_ble_eq_true rfl) dX4_copy_122 (fun H locs hP hD hS => ?_)
                    have hP : va_P D classes (W_D cI cS a_d a_f a_t a_r a_z a_f_kind a_f_wet a_g a_g_kind a_g_wet a_r_cells a_r_hours a_r_cracked a_s0 a_s0_row a_s1 a_s1_row a_s2 a_s2_row a_s3 a_s3_row d_hour d_traced (0 : Int32) f_kind f_wet f_wide f_rows f_cells f_sun f_all f_firstColumn f_lastColumn t_hours t_opened t_firstWrong g_kind g_wet g_wide g_rows g_cells g_sun g_all g_firstColumn g_lastColumn r_cells r_hours r_cracked r_count (va_up S_row 2 (va_cpy (S_row 1) (S_row 2) p2.toNatClampNeg p4.toNatClampNeg p5.toNatClampNeg)) S_lane S_length) H := hP
                    have hD : va_D A (W_D cI cS a_d a_f a_t a_r a_z a_f_kind a_f_wet a_g a_g_kind a_g_wet a_r_cells a_r_hours a_r_cracked a_s0 a_s0_row a_s1 a_s1_row a_s2 a_s2_row a_s3 a_s3_row d_hour d_traced (0 : Int32) f_kind f_wet f_wide f_rows f_cells f_sun f_all f_firstColumn f_lastColumn t_hours t_opened t_firstWrong g_kind g_wet g_wide g_rows g_cells g_sun g_all g_firstColumn g_lastColumn r_cells r_hours r_cracked r_count (va_up S_row 2 (va_cpy (S_row 1) (S_row 2) p2.toNatClampNeg p4.toNatClampNeg p5.toNatClampNeg)) S_lane S_length) := hD
                    refine lv_iload hx hb dX4_copy_125 (lv_at hl 7 rfl) ?_
                    replace hf := Option.some.inj hf
                    obtain ⟨er0, er1⟩ := Prod.mk.inj hf
                    obtain ⟨er2, er3⟩ := Prod.mk.inj er1
                    clear hf er1
                    subst er0
                    subst er2
                    subst er3
                    exact rt_i Cc hK hP hD hS dX4_copy_127
                  · replace hf := (if_pos hc99).symm.trans hf
                    refine lv_aload_n hx hb dX4_copy_101 rfl (lv_at hl 2 rfl) ?_
                    refine lv_iconst (v := (3 : Int32)) hx hb dX4_copy_102 (by decide) ?_
                    obtain ⟨q103_1, hq100, hf⟩ := Option.bind_eq_some_iff.mp hf
                    refine cV (ws' := (W_D cI cS a_d a_f a_t a_r a_z a_f_kind a_f_wet a_g a_g_kind a_g_wet a_r_cells a_r_hours a_r_cracked a_s0 a_s0_row a_s1 a_s1_row a_s2 a_s2_row a_s3 a_s3_row d_hour d_traced q103_1.2 f_kind f_wet f_wide f_rows f_cells f_sun f_all f_firstColumn f_lastColumn t_hours t_opened t_firstWrong g_kind g_wet g_wide g_rows g_cells g_sun g_all g_firstColumn g_lastColumn r_cells r_hours r_cracked r_count S_row S_lane S_length)) (rest := []) (st1 := [.int q103_1.1]) Cc hK hA hP hD hS hl.1 (ctX4_faulted l D cI cS a_d a_f a_t a_r a_z d_hour d_traced (0 : Int32) (3 : Int32) n q103_1.1 q103_1.2 hq100) ⟨tw_173, tw_170, tw_172, tp_0, tw_1⟩ mdX4_faulted ⟨rfl, rfl, Nat.le_of_ble_eq_true rfl, Nat.le_of_ble_eq_true rfl⟩ rfl dX4_copy_103 rfl (Nat.le_of_ble_eq_true rfl) ⟨Nat.zero_le _, Nat.zero_le _⟩ rfl rfl rfl [0] [1, 2, 3, 4, 5, 6, 7, 8, 9, 10, 11, 12, 13, 14, 15, 16, 17, 18, 19, 20] [20, 0, 1, 2, 3, 4, 5, 6, 7, 8, 9, 10, 11, 12, 13, 14, 15, 16, 17, 18, 19] rfl rfl (by decide) rfl (fun H locs hP hD hS => ?_)
                    replace hf := Option.some.inj hf
                    obtain ⟨er0, er1⟩ := Prod.mk.inj hf
                    obtain ⟨er2, er3⟩ := Prod.mk.inj er1
                    clear hf er1
                    subst er0
                    subst er2
                    subst er3
                    exact rt_i Cc hK hP hD hS dX4_copy_106
              · replace hf := (if_neg hc94).symm.trans hf
                refine lv_aload_n hx hb dX4_copy_72 rfl (lv_at hl 2 rfl) ?_
                refine lv_iconst (v := (2 : Int32)) hx hb dX4_copy_73 (by decide) ?_
                obtain ⟨q74_1, hq101, hf⟩ := Option.bind_eq_some_iff.mp hf
                refine cV (ws' := (W_D cI cS a_d a_f a_t a_r a_z a_f_kind a_f_wet a_g a_g_kind a_g_wet a_r_cells a_r_hours a_r_cracked a_s0 a_s0_row a_s1 a_s1_row a_s2 a_s2_row a_s3 a_s3_row d_hour d_traced q74_1.2 f_kind f_wet f_wide f_rows f_cells f_sun f_all f_firstColumn f_lastColumn t_hours t_opened t_firstWrong g_kind g_wet g_wide g_rows g_cells g_sun g_all g_firstColumn g_lastColumn r_cells r_hours r_cracked r_count S_row S_lane S_length)) (rest := []) (st1 := [.int q74_1.1]) Cc hK hA hP hD hS hl.1 (ctX4_faulted l D cI cS a_d a_f a_t a_r a_z d_hour d_traced (0 : Int32) (2 : Int32) n q74_1.1 q74_1.2 hq101) ⟨tw_173, tw_170, tw_172, tp_0, tw_1⟩ mdX4_faulted ⟨rfl, rfl, Nat.le_of_ble_eq_true rfl, Nat.le_of_ble_eq_true rfl⟩ rfl dX4_copy_74 rfl (Nat.le_of_ble_eq_true rfl) ⟨Nat.zero_le _, Nat.zero_le _⟩ rfl rfl rfl [0] [1, 2, 3, 4, 5, 6, 7, 8, 9, 10, 11, 12, 13, 14, 15, 16, 17, 18, 19, 20] [20, 0, 1, 2, 3, 4, 5, 6, 7, 8, 9, 10, 11, 12, 13, 14, 15, 16, 17, 18, 19] rfl rfl (by decide) rfl (fun H locs hP hD hS => ?_)
                replace hf := Option.some.inj hf
                obtain ⟨er0, er1⟩ := Prod.mk.inj hf
                obtain ⟨er2, er3⟩ := Prod.mk.inj er1
                clear hf er1
                subst er0
                subst er2
                subst er3
                exact rt_i Cc hK hP hD hS dX4_copy_77
            · replace hf := (if_neg hc93).symm.trans hf
              refine lv_aload_n hx hb dX4_copy_53 rfl (lv_at hl 2 rfl) ?_
              refine lv_iconst (v := (1 : Int32)) hx hb dX4_copy_54 (by decide) ?_
              obtain ⟨q55_1, hq102, hf⟩ := Option.bind_eq_some_iff.mp hf
              refine cV (ws' := (W_D cI cS a_d a_f a_t a_r a_z a_f_kind a_f_wet a_g a_g_kind a_g_wet a_r_cells a_r_hours a_r_cracked a_s0 a_s0_row a_s1 a_s1_row a_s2 a_s2_row a_s3 a_s3_row d_hour d_traced q55_1.2 f_kind f_wet f_wide f_rows f_cells f_sun f_all f_firstColumn f_lastColumn t_hours t_opened t_firstWrong g_kind g_wet g_wide g_rows g_cells g_sun g_all g_firstColumn g_lastColumn r_cells r_hours r_cracked r_count S_row S_lane S_length)) (rest := []) (st1 := [.int q55_1.1]) Cc hK hA hP hD hS hl.1 (ctX4_faulted l D cI cS a_d a_f a_t a_r a_z d_hour d_traced (0 : Int32) (1 : Int32) n q55_1.1 q55_1.2 hq102) ⟨tw_173, tw_170, tw_172, tp_0, tw_1⟩ mdX4_faulted ⟨rfl, rfl, Nat.le_of_ble_eq_true rfl, Nat.le_of_ble_eq_true rfl⟩ rfl dX4_copy_55 rfl (Nat.le_of_ble_eq_true rfl) ⟨Nat.zero_le _, Nat.zero_le _⟩ rfl rfl rfl [0] [1, 2, 3, 4, 5, 6, 7, 8, 9, 10, 11, 12, 13, 14, 15, 16, 17, 18, 19, 20] [20, 0, 1, 2, 3, 4, 5, 6, 7, 8, 9, 10, 11, 12, 13, 14, 15, 16, 17, 18, 19] rfl rfl (by decide) rfl (fun H locs hP hD hS => ?_)
              replace hf := Option.some.inj hf
              obtain ⟨er0, er1⟩ := Prod.mk.inj hf
              obtain ⟨er2, er3⟩ := Prod.mk.inj er1
              clear hf er1
              subst er0
              subst er2
              subst er3
              exact rt_i Cc hK hP hD hS dX4_copy_58
        · refine W.eq (g2 := F0 m 35 ls [.ref a_s3]) rfl ?_
          refine lv_astore (lv' := [(7, .ref a_s3), (6, .ref a_s1), (0, .ref a_d), (1, .int p1), (2, .int p2), (3, .int p3), (4, .int p4), (5, .int p5)]) hx hb dX4_copy_35 hl (by decide) rfl (fun ls hl => ?_)
          refine lv_aload hx hb dX4_copy_37 (lv_at hl 1 rfl) ?_
          obtain ⟨q39_1, hq103, hf⟩ := Option.bind_eq_some_iff.mp hf
          refine cV (ws' := (W_D cI cS a_d a_f a_t a_r a_z a_f_kind a_f_wet a_g a_g_kind a_g_wet a_r_cells a_r_hours a_r_cracked a_s0 a_s0_row a_s1 a_s1_row a_s2 a_s2_row a_s3 a_s3_row d_hour d_traced (0 : Int32) f_kind f_wet f_wide f_rows f_cells f_sun f_all f_firstColumn f_lastColumn t_hours t_opened t_firstWrong g_kind g_wet g_wide g_rows g_cells g_sun g_all g_firstColumn g_lastColumn r_cells r_hours r_cracked r_count S_row S_lane S_length)) (rest := []) (st1 := [.int q39_1]) Cc hK hA hP hD hS hl.1 (ctX2_isNothing l D cI cS a_s1 a_s1_row (S_row 1) (S_lane 1) (S_length 1)  n q39_1 hq103) ⟨tw_165, tw_428, tw_163, tw_164, tw_5⟩ mdX2_isNothing ⟨rfl, rfl, Nat.le_of_ble_eq_true rfl, Nat.le_of_ble_eq_true rfl⟩ rfl dX4_copy_39 rfl (Nat.le_of_ble_eq_true rfl) ⟨Nat.zero_le _, Nat.zero_le _⟩ rfl rfl rfl [15, 16] [0, 1, 2, 3, 4, 5, 6, 7, 8, 9, 10, 11, 12, 13, 14, 17, 18, 19, 20] [0, 1, 2, 3, 4, 5, 6, 7, 8, 9, 10, 11, 12, 13, 14, 19, 20, 15, 16, 17, 18] rfl rfl (by decide) rfl (fun H locs hP hD hS => ?_)
          refine lv_if_ne (tgt := 53) hx hb dX4_copy_42 (by decide) (fun hc104 => ?_) (fun hc104 => ?_)
          · replace hf := (if_neg hc104).symm.trans hf
            refine lv_aload_n hx hb dX4_copy_53 rfl (lv_at hl 2 rfl) ?_
            refine lv_iconst (v := (1 : Int32)) hx hb dX4_copy_54 (by decide) ?_
            obtain ⟨q55_1, hq105, hf⟩ := Option.bind_eq_some_iff.mp hf
            refine cV (ws' := (W_D cI cS a_d a_f a_t a_r a_z a_f_kind a_f_wet a_g a_g_kind a_g_wet a_r_cells a_r_hours a_r_cracked a_s0 a_s0_row a_s1 a_s1_row a_s2 a_s2_row a_s3 a_s3_row d_hour d_traced q55_1.2 f_kind f_wet f_wide f_rows f_cells f_sun f_all f_firstColumn f_lastColumn t_hours t_opened t_firstWrong g_kind g_wet g_wide g_rows g_cells g_sun g_all g_firstColumn g_lastColumn r_cells r_hours r_cracked r_count S_row S_lane S_length)) (rest := []) (st1 := [.int q55_1.1]) Cc hK hA hP hD hS hl.1 (ctX4_faulted l D cI cS a_d a_f a_t a_r a_z d_hour d_traced (0 : Int32) (1 : Int32) n q55_1.1 q55_1.2 hq105) ⟨tw_173, tw_170, tw_172, tp_0, tw_1⟩ mdX4_faulted ⟨rfl, rfl, Nat.le_of_ble_eq_true rfl, Nat.le_of_ble_eq_true rfl⟩ rfl dX4_copy_55 rfl (Nat.le_of_ble_eq_true rfl) ⟨Nat.zero_le _, Nat.zero_le _⟩ rfl rfl rfl [0] [1, 2, 3, 4, 5, 6, 7, 8, 9, 10, 11, 12, 13, 14, 15, 16, 17, 18, 19, 20] [20, 0, 1, 2, 3, 4, 5, 6, 7, 8, 9, 10, 11, 12, 13, 14, 15, 16, 17, 18, 19] rfl rfl (by decide) rfl (fun H locs hP hD hS => ?_)
            replace hf := Option.some.inj hf
            obtain ⟨er0, er1⟩ := Prod.mk.inj hf
            obtain ⟨er2, er3⟩ := Prod.mk.inj er1
            clear hf er1
            subst er0
            subst er2
            subst er3
            exact rt_i Cc hK hP hD hS dX4_copy_58
          · replace hf := (if_pos hc104).symm.trans hf
            refine lv_aload hx hb dX4_copy_45 (lv_at hl 0 rfl) ?_
            obtain ⟨q47_1, hq106, hf⟩ := Option.bind_eq_some_iff.mp hf
            refine cV (ws' := (W_D cI cS a_d a_f a_t a_r a_z a_f_kind a_f_wet a_g a_g_kind a_g_wet a_r_cells a_r_hours a_r_cracked a_s0 a_s0_row a_s1 a_s1_row a_s2 a_s2_row a_s3 a_s3_row d_hour d_traced (0 : Int32) f_kind f_wet f_wide f_rows f_cells f_sun f_all f_firstColumn f_lastColumn t_hours t_opened t_firstWrong g_kind g_wet g_wide g_rows g_cells g_sun g_all g_firstColumn g_lastColumn r_cells r_hours r_cracked r_count S_row S_lane S_length)) (rest := []) (st1 := [.int q47_1]) Cc hK hA hP hD hS hl.1 (ctX2_isNothing l D cI cS a_s3 a_s3_row (S_row 3) (S_lane 3) (S_length 3)  n q47_1 hq106) ⟨tw_165, tw_428, tw_163, tw_164, tw_5⟩ mdX2_isNothing ⟨rfl, rfl, Nat.le_of_ble_eq_true rfl, Nat.le_of_ble_eq_true rfl⟩ rfl dX4_copy_47 rfl (Nat.le_of_ble_eq_true rfl) ⟨Nat.zero_le _, Nat.zero_le _⟩ rfl rfl rfl [19, 20] [0, 1, 2, 3, 4, 5, 6, 7, 8, 9, 10, 11, 12, 13, 14, 15, 16, 17, 18] [0, 1, 2, 3, 4, 5, 6, 7, 8, 9, 10, 11, 12, 13, 14, 15, 16, 17, 18, 19, 20] rfl rfl (by decide) rfl (fun H locs hP hD hS => ?_)
            refine lv_if_eq (tgt := 59) hx hb dX4_copy_50 (by decide) (fun hc107 => ?_) (fun hc107 => ?_)
            · replace hf := (if_pos hc107).symm.trans hf
              refine lv_aload hx hb dX4_copy_59 (lv_at hl 1 rfl) ?_
              refine va_getN (D := D) (ci := 2) (v := .int (S_lane 1)) (C := RX2) (T := TX2) (N := 3) hx hb hts inX2 hown hK hP 15 rfl rfl 1 (by decide) (va_Nw.use rfl (hnw _ nn_12)) (fun _ h9 => h9) rfl dX4_copy_61 ?_
              refine lv_aload hx hb dX4_copy_64 (lv_at hl 0 rfl) ?_
              refine va_getN (D := D) (ci := 2) (v := .int (S_lane 3)) (C := RX2) (T := TX2) (N := 3) hx hb hts inX2 hown hK hP 19 rfl rfl 1 (by decide) (va_Nw.use rfl (hnw _ nn_12)) (fun _ h9 => h9) rfl dX4_copy_66 ?_
              refine lv_icmp_eq (tgt := 78) hx hb dX4_copy_69 (by decide) (fun hc108 => ?_) (fun hc108 => ?_)
              · replace hf := (if_pos hc108).symm.trans hf
                refine lv_aload hx hb dX4_copy_78 (lv_at hl 1 rfl) ?_
                refine lv_iload_n hx hb dX4_copy_80 rfl (lv_at hl 4 rfl) ?_
                refine lv_iload hx hb dX4_copy_81 (lv_at hl 7 rfl) ?_
                obtain ⟨q83_1, hq109, hf⟩ := Option.bind_eq_some_iff.mp hf
                refine cV (ws' := (W_D cI cS a_d a_f a_t a_r a_z a_f_kind a_f_wet a_g a_g_kind a_g_wet a_r_cells a_r_hours a_r_cracked a_s0 a_s0_row a_s1 a_s1_row a_s2 a_s2_row a_s3 a_s3_row d_hour d_traced (0 : Int32) f_kind f_wet f_wide f_rows f_cells f_sun f_all f_firstColumn f_lastColumn t_hours t_opened t_firstWrong g_kind g_wet g_wide g_rows g_cells g_sun g_all g_firstColumn g_lastColumn r_cells r_hours r_cracked r_count S_row S_lane S_length)) (rest := []) (st1 := [.int q83_1]) Cc hK hA hP hD hS hl.1 (ctX2_has l D cI cS a_s1 a_s1_row (S_row 1) (S_lane 1) (S_length 1) p2 p5 n q83_1 hq109) ⟨tw_169, tw_166, tw_167, tw_168, tw_5⟩ mdX2_has ⟨rfl, rfl, Nat.le_of_ble_eq_true rfl, Nat.le_of_ble_eq_true rfl⟩ rfl dX4_copy_83 rfl (Nat.le_of_ble_eq_true rfl) ⟨Nat.zero_le _, Nat.zero_le _⟩ rfl rfl rfl [15, 16] [0, 1, 2, 3, 4, 5, 6, 7, 8, 9, 10, 11, 12, 13, 14, 17, 18, 19, 20] [0, 1, 2, 3, 4, 5, 6, 7, 8, 9, 10, 11, 12, 13, 14, 19, 20, 15, 16, 17, 18] rfl rfl (by decide) rfl (fun H locs hP hD hS => ?_)
                refine lv_if_eq (tgt := 101) hx hb dX4_copy_86 (by decide) (fun hc110 => ?_) (fun hc110 => ?_)
                · replace hf := (if_pos hc110).symm.trans hf
                  refine lv_aload_n hx hb dX4_copy_101 rfl (lv_at hl 2 rfl) ?_
                  refine lv_iconst (v := (3 : Int32)) hx hb dX4_copy_102 (by decide) ?_
                  obtain ⟨q103_1, hq111, hf⟩ := Option.bind_eq_some_iff.mp hf
                  refine cV (ws' := (W_D cI cS a_d a_f a_t a_r a_z a_f_kind a_f_wet a_g a_g_kind a_g_wet a_r_cells a_r_hours a_r_cracked a_s0 a_s0_row a_s1 a_s1_row a_s2 a_s2_row a_s3 a_s3_row d_hour d_traced q103_1.2 f_kind f_wet f_wide f_rows f_cells f_sun f_all f_firstColumn f_lastColumn t_hours t_opened t_firstWrong g_kind g_wet g_wide g_rows g_cells g_sun g_all g_firstColumn g_lastColumn r_cells r_hours r_cracked r_count S_row S_lane S_length)) (rest := []) (st1 := [.int q103_1.1]) Cc hK hA hP hD hS hl.1 (ctX4_faulted l D cI cS a_d a_f a_t a_r a_z d_hour d_traced (0 : Int32) (3 : Int32) n q103_1.1 q103_1.2 hq111) ⟨tw_173, tw_170, tw_172, tp_0, tw_1⟩ mdX4_faulted ⟨rfl, rfl, Nat.le_of_ble_eq_true rfl, Nat.le_of_ble_eq_true rfl⟩ rfl dX4_copy_103 rfl (Nat.le_of_ble_eq_true rfl) ⟨Nat.zero_le _, Nat.zero_le _⟩ rfl rfl rfl [0] [1, 2, 3, 4, 5, 6, 7, 8, 9, 10, 11, 12, 13, 14, 15, 16, 17, 18, 19, 20] [20, 0, 1, 2, 3, 4, 5, 6, 7, 8, 9, 10, 11, 12, 13, 14, 15, 16, 17, 18, 19] rfl rfl (by decide) rfl (fun H locs hP hD hS => ?_)
                  replace hf := Option.some.inj hf
                  obtain ⟨er0, er1⟩ := Prod.mk.inj hf
                  obtain ⟨er2, er3⟩ := Prod.mk.inj er1
                  clear hf er1
                  subst er0
                  subst er2
                  subst er3
                  exact rt_i Cc hK hP hD hS dX4_copy_106
                · replace hf := (if_neg hc110).symm.trans hf
                  refine lv_aload hx hb dX4_copy_89 (lv_at hl 0 rfl) ?_
                  refine lv_iload hx hb dX4_copy_91 (lv_at hl 6 rfl) ?_
                  refine lv_iload hx hb dX4_copy_93 (lv_at hl 7 rfl) ?_
                  obtain ⟨q95_1, hq112, hf⟩ := Option.bind_eq_some_iff.mp hf
                  refine cV (ws' := (W_D cI cS a_d a_f a_t a_r a_z a_f_kind a_f_wet a_g a_g_kind a_g_wet a_r_cells a_r_hours a_r_cracked a_s0 a_s0_row a_s1 a_s1_row a_s2 a_s2_row a_s3 a_s3_row d_hour d_traced (0 : Int32) f_kind f_wet f_wide f_rows f_cells f_sun f_all f_firstColumn f_lastColumn t_hours t_opened t_firstWrong g_kind g_wet g_wide g_rows g_cells g_sun g_all g_firstColumn g_lastColumn r_cells r_hours r_cracked r_count S_row S_lane S_length)) (rest := []) (st1 := [.int q95_1]) Cc hK hA hP hD hS hl.1 (ctX2_has l D cI cS a_s3 a_s3_row (S_row 3) (S_lane 3) (S_length 3) p4 p5 n q95_1 hq112) ⟨tw_169, tw_166, tw_167, tw_168, tw_5⟩ mdX2_has ⟨rfl, rfl, Nat.le_of_ble_eq_true rfl, Nat.le_of_ble_eq_true rfl⟩ rfl dX4_copy_95 rfl (Nat.le_of_ble_eq_true rfl) ⟨Nat.zero_le _, Nat.zero_le _⟩ rfl rfl rfl [19, 20] [0, 1, 2, 3, 4, 5, 6, 7, 8, 9, 10, 11, 12, 13, 14, 15, 16, 17, 18] [0, 1, 2, 3, 4, 5, 6, 7, 8, 9, 10, 11, 12, 13, 14, 15, 16, 17, 18, 19, 20] rfl rfl (by decide) rfl (fun H locs hP hD hS => ?_)
                  refine lv_if_ne (tgt := 107) hx hb dX4_copy_98 (by decide) (fun hc113 => ?_) (fun hc113 => ?_)
                  · replace hf := (if_neg hc113).symm.trans hf
                    refine lv_aload hx hb dX4_copy_107 (lv_at hl 1 rfl) ?_
                    refine va_getN (D := D) (ci := 2) (v := .ref a_s1_row) (C := RX2) (T := TX2) (N := 3) hx hb hts inX2 hown hK hP 15 rfl rfl 0 (by decide) (va_Nw.use rfl (hnw _ nn_11)) (fun _ h9 => h9) rfl dX4_copy_109 ?_
                    refine lv_iload_n hx hb dX4_copy_112 rfl (lv_at hl 4 rfl) ?_
                    refine lv_aload hx hb dX4_copy_113 (lv_at hl 0 rfl) ?_
                    refine va_getN (D := D) (ci := 2) (v := .ref a_s3_row) (C := RX2) (T := TX2) (N := 3) hx hb hts inX2 hown hK hP 19 rfl rfl 0 (by decide) (va_Nw.use rfl (hnw _ nn_11)) (fun _ h9 => h9) rfl dX4_copy_115 ?_
                    refine lv_iload hx hb dX4_copy_118 (lv_at hl 6 rfl) ?_
                    refine lv_iload hx hb dX4_copy_120 (lv_at hl 7 rfl) ?_
                    obtain ⟨⟨g1, g2, g3, g4, g5⟩, hf⟩ := cpg_some hf
                    refine va_copyi hx hb (hml.trans hl.1.symm) hown (hts _ tw_454) (hts _ tw_native) (hts _ tw_455) (hts _ tw_9) hK hP hD hS 16 20 0 0 rfl rfl rfl rfl rfl g1 g2 g3 g4 g5 (fun _ _ => rfl) (Nat.le_of_ble_eq_true rfl) (Nat.le_of_ble_eq_true rfl) dX4_copy_122 (fun H locs hP hD hS => ?_)
                    have hP : va_P D classes (W_D cI cS a_d a_f a_t a_r a_z a_f_kind a_f_wet a_g a_g_kind a_g_wet a_r_cells a_r_hours a_r_cracked a_s0 a_s0_row a_s1 a_s1_row a_s2 a_s2_row a_s3 a_s3_row d_hour d_traced (0 : Int32) f_kind f_wet f_wide f_rows f_cells f_sun f_all f_firstColumn f_lastColumn t_hours t_opened t_firstWrong g_kind g_wet g_wide g_rows g_cells g_sun g_all g_firstColumn g_lastColumn r_cells r_hours r_cracked r_count (va_up S_row 3 (va_cpy (S_row 1) (S_row 3) p2.toNatClampNeg p4.toNatClampNeg p5.toNatClampNeg)) S_lane S_length) H := hP
                    have hD : va_D A (W_D cI cS a_d a_f a_t a_r a_z a_f_kind a_f_wet a_g a_g_kind a_g_wet a_r_cells a_r_hours a_r_cracked a_s0 a_s0_row a_s1 a_s1_row a_s2 a_s2_row a_s3 a_s3_row d_hour d_traced (0 : Int32) f_kind f_wet f_wide f_rows f_cells f_sun f_all f_firstColumn f_lastColumn t_hours t_opened t_firstWrong g_kind g_wet g_wide g_rows g_cells g_sun g_all g_firstColumn g_lastColumn r_cells r_hours r_cracked r_count (va_up S_row 3 (va_cpy (S_row 1) (S_row 3) p2.toNatClampNeg p4.toNatClampNeg p5.toNatClampNeg)) S_lane S_length) := hD
                    refine lv_iload hx hb dX4_copy_125 (lv_at hl 7 rfl) ?_
                    replace hf := Option.some.inj hf
                    obtain ⟨er0, er1⟩ := Prod.mk.inj hf
                    obtain ⟨er2, er3⟩ := Prod.mk.inj er1
                    clear hf er1
                    subst er0
                    subst er2
                    subst er3
                    exact rt_i Cc hK hP hD hS dX4_copy_127
                  · replace hf := (if_pos hc113).symm.trans hf
                    refine lv_aload_n hx hb dX4_copy_101 rfl (lv_at hl 2 rfl) ?_
                    refine lv_iconst (v := (3 : Int32)) hx hb dX4_copy_102 (by decide) ?_
                    obtain ⟨q103_1, hq114, hf⟩ := Option.bind_eq_some_iff.mp hf
                    refine cV (ws' := (W_D cI cS a_d a_f a_t a_r a_z a_f_kind a_f_wet a_g a_g_kind a_g_wet a_r_cells a_r_hours a_r_cracked a_s0 a_s0_row a_s1 a_s1_row a_s2 a_s2_row a_s3 a_s3_row d_hour d_traced q103_1.2 f_kind f_wet f_wide f_rows f_cells f_sun f_all f_firstColumn f_lastColumn t_hours t_opened t_firstWrong g_kind g_wet g_wide g_rows g_cells g_sun g_all g_firstColumn g_lastColumn r_cells r_hours r_cracked r_count S_row S_lane S_length)) (rest := []) (st1 := [.int q103_1.1]) Cc hK hA hP hD hS hl.1 (ctX4_faulted l D cI cS a_d a_f a_t a_r a_z d_hour d_traced (0 : Int32) (3 : Int32) n q103_1.1 q103_1.2 hq114) ⟨tw_173, tw_170, tw_172, tp_0, tw_1⟩ mdX4_faulted ⟨rfl, rfl, Nat.le_of_ble_eq_true rfl, Nat.le_of_ble_eq_true rfl⟩ rfl dX4_copy_103 rfl (Nat.le_of_ble_eq_true rfl) ⟨Nat.zero_le _, Nat.zero_le _⟩ rfl rfl rfl [0] [1, 2, 3, 4, 5, 6, 7, 8, 9, 10, 11, 12, 13, 14, 15, 16, 17, 18, 19, 20] [20, 0, 1, 2, 3, 4, 5, 6, 7, 8, 9, 10, 11, 12, 13, 14, 15, 16, 17, 18, 19] rfl rfl (by decide) rfl (fun H locs hP hD hS => ?_)
                    replace hf := Option.some.inj hf
                    obtain ⟨er0, er1⟩ := Prod.mk.inj hf
                    obtain ⟨er2, er3⟩ := Prod.mk.inj er1
                    clear hf er1
                    subst er0
                    subst er2
                    subst er3
                    exact rt_i Cc hK hP hD hS dX4_copy_106
              · replace hf := (if_neg hc108).symm.trans hf
                refine lv_aload_n hx hb dX4_copy_72 rfl (lv_at hl 2 rfl) ?_
                refine lv_iconst (v := (2 : Int32)) hx hb dX4_copy_73 (by decide) ?_
                obtain ⟨q74_1, hq115, hf⟩ := Option.bind_eq_some_iff.mp hf
                refine cV (ws' := (W_D cI cS a_d a_f a_t a_r a_z a_f_kind a_f_wet a_g a_g_kind a_g_wet a_r_cells a_r_hours a_r_cracked a_s0 a_s0_row a_s1 a_s1_row a_s2 a_s2_row a_s3 a_s3_row d_hour d_traced q74_1.2 f_kind f_wet f_wide f_rows f_cells f_sun f_all f_firstColumn f_lastColumn t_hours t_opened t_firstWrong g_kind g_wet g_wide g_rows g_cells g_sun g_all g_firstColumn g_lastColumn r_cells r_hours r_cracked r_count S_row S_lane S_length)) (rest := []) (st1 := [.int q74_1.1]) Cc hK hA hP hD hS hl.1 (ctX4_faulted l D cI cS a_d a_f a_t a_r a_z d_hour d_traced (0 : Int32) (2 : Int32) n q74_1.1 q74_1.2 hq115) ⟨tw_173, tw_170, tw_172, tp_0, tw_1⟩ mdX4_faulted ⟨rfl, rfl, Nat.le_of_ble_eq_true rfl, Nat.le_of_ble_eq_true rfl⟩ rfl dX4_copy_74 rfl (Nat.le_of_ble_eq_true rfl) ⟨Nat.zero_le _, Nat.zero_le _⟩ rfl rfl rfl [0] [1, 2, 3, 4, 5, 6, 7, 8, 9, 10, 11, 12, 13, 14, 15, 16, 17, 18, 19, 20] [20, 0, 1, 2, 3, 4, 5, 6, 7, 8, 9, 10, 11, 12, 13, 14, 15, 16, 17, 18, 19] rfl rfl (by decide) rfl (fun H locs hP hD hS => ?_)
                replace hf := Option.some.inj hf
                obtain ⟨er0, er1⟩ := Prod.mk.inj hf
                obtain ⟨er2, er3⟩ := Prod.mk.inj er1
                clear hf er1
                subst er0
                subst er2
                subst er3
                exact rt_i Cc hK hP hD hS dX4_copy_77
            · replace hf := (if_neg hc107).symm.trans hf
              refine lv_aload_n hx hb dX4_copy_53 rfl (lv_at hl 2 rfl) ?_
              refine lv_iconst (v := (1 : Int32)) hx hb dX4_copy_54 (by decide) ?_
              obtain ⟨q55_1, hq116, hf⟩ := Option.bind_eq_some_iff.mp hf
              refine cV (ws' := (W_D cI cS a_d a_f a_t a_r a_z a_f_kind a_f_wet a_g a_g_kind a_g_wet a_r_cells a_r_hours a_r_cracked a_s0 a_s0_row a_s1 a_s1_row a_s2 a_s2_row a_s3 a_s3_row d_hour d_traced q55_1.2 f_kind f_wet f_wide f_rows f_cells f_sun f_all f_firstColumn f_lastColumn t_hours t_opened t_firstWrong g_kind g_wet g_wide g_rows g_cells g_sun g_all g_firstColumn g_lastColumn r_cells r_hours r_cracked r_count S_row S_lane S_length)) (rest := []) (st1 := [.int q55_1.1]) Cc hK hA hP hD hS hl.1 (ctX4_faulted l D cI cS a_d a_f a_t a_r a_z d_hour d_traced (0 : Int32) (1 : Int32) n q55_1.1 q55_1.2 hq116) ⟨tw_173, tw_170, tw_172, tp_0, tw_1⟩ mdX4_faulted ⟨rfl, rfl, Nat.le_of_ble_eq_true rfl, Nat.le_of_ble_eq_true rfl⟩ rfl dX4_copy_55 rfl (Nat.le_of_ble_eq_true rfl) ⟨Nat.zero_le _, Nat.zero_le _⟩ rfl rfl rfl [0] [1, 2, 3, 4, 5, 6, 7, 8, 9, 10, 11, 12, 13, 14, 15, 16, 17, 18, 19, 20] [20, 0, 1, 2, 3, 4, 5, 6, 7, 8, 9, 10, 11, 12, 13, 14, 15, 16, 17, 18, 19] rfl rfl (by decide) rfl (fun H locs hP hD hS => ?_)
              replace hf := Option.some.inj hf
              obtain ⟨er0, er1⟩ := Prod.mk.inj hf
              obtain ⟨er2, er3⟩ := Prod.mk.inj er1
              clear hf er1
              subst er0
              subst er2
              subst er3
              exact rt_i Cc hK hP hD hS dX4_copy_58
      · refine W.eq (g2 := F0 m 27 ls [.ref a_s2]) rfl ?_
        refine lv_astore (lv' := [(6, .ref a_s2), (0, .ref a_d), (1, .int p1), (2, .int p2), (3, .int p3), (4, .int p4), (5, .int p5)]) hx hb dX4_copy_27 hl (by decide) rfl (fun ls hl => ?_)
        refine lv_aload_n hx hb dX4_copy_29 rfl (lv_at hl 1 rfl) ?_
        refine va_get (D := D) (ci := 4) (v := .ref a_z) (C := RX4) (T := TX4) (N := 7) hx hb hts inX4 hown hK hP 0 rfl rfl 3 (by decide) (hts _ tw_126) (fun _ h9 => h9) rfl dX4_copy_30 ?_
        refine lv_iload_n hx hb dX4_copy_33 rfl (lv_at hl 4 rfl) ?_
        obtain ⟨hin, hf⟩ := gd_some hf
        refine va_aldq hx hb hK hP 12 1 rfl rfl hin dX4_copy_34 ?_
        obtain ⟨j, hj, hjx⟩ : ∃ j, j < 4 ∧ p3.toNatClampNeg = j := ⟨_, Nat.not_le.mp fun q => hin (Or.inr q), rfl⟩
        rw [hjx] at hf ⊢
        clear hin hjx
        rcases (show j = 0 ∨ j = 1 ∨ j = 2 ∨ j = 3 by omega) with rfl | rfl | rfl | rfl
        · refine W.eq (g2 := F0 m 35 ls [.ref a_s0]) rfl ?_
          refine lv_astore (lv' := [(7, .ref a_s0), (6, .ref a_s2), (0, .ref a_d), (1, .int p1), (2, .int p2), (3, .int p3), (4, .int p4), (5, .int p5)]) hx hb dX4_copy_35 hl (by decide) rfl (fun ls hl => ?_)
          refine lv_aload hx hb dX4_copy_37 (lv_at hl 1 rfl) ?_
          obtain ⟨q39_1, hq117, hf⟩ := Option.bind_eq_some_iff.mp hf
          refine cV (ws' := (W_D cI cS a_d a_f a_t a_r a_z a_f_kind a_f_wet a_g a_g_kind a_g_wet a_r_cells a_r_hours a_r_cracked a_s0 a_s0_row a_s1 a_s1_row a_s2 a_s2_row a_s3 a_s3_row d_hour d_traced (0 : Int32) f_kind f_wet f_wide f_rows f_cells f_sun f_all f_firstColumn f_lastColumn t_hours t_opened t_firstWrong g_kind g_wet g_wide g_rows g_cells g_sun g_all g_firstColumn g_lastColumn r_cells r_hours r_cracked r_count S_row S_lane S_length)) (rest := []) (st1 := [.int q39_1]) Cc hK hA hP hD hS hl.1 (ctX2_isNothing l D cI cS a_s2 a_s2_row (S_row 2) (S_lane 2) (S_length 2)  n q39_1 hq117) ⟨tw_165, tw_428, tw_163, tw_164, tw_5⟩ mdX2_isNothing ⟨rfl, rfl, Nat.le_of_ble_eq_true rfl, Nat.le_of_ble_eq_true rfl⟩ rfl dX4_copy_39 rfl (Nat.le_of_ble_eq_true rfl) ⟨Nat.zero_le _, Nat.zero_le _⟩ rfl rfl rfl [17, 18] [0, 1, 2, 3, 4, 5, 6, 7, 8, 9, 10, 11, 12, 13, 14, 15, 16, 19, 20] [0, 1, 2, 3, 4, 5, 6, 7, 8, 9, 10, 11, 12, 13, 14, 15, 16, 19, 20, 17, 18] rfl rfl (by decide) rfl (fun H locs hP hD hS => ?_)
          refine lv_if_ne (tgt := 53) hx hb dX4_copy_42 (by decide) (fun hc118 => ?_) (fun hc118 => ?_)
          · replace hf := (if_neg hc118).symm.trans hf
            refine lv_aload_n hx hb dX4_copy_53 rfl (lv_at hl 2 rfl) ?_
            refine lv_iconst (v := (1 : Int32)) hx hb dX4_copy_54 (by decide) ?_
            obtain ⟨q55_1, hq119, hf⟩ := Option.bind_eq_some_iff.mp hf
            refine cV (ws' := (W_D cI cS a_d a_f a_t a_r a_z a_f_kind a_f_wet a_g a_g_kind a_g_wet a_r_cells a_r_hours a_r_cracked a_s0 a_s0_row a_s1 a_s1_row a_s2 a_s2_row a_s3 a_s3_row d_hour d_traced q55_1.2 f_kind f_wet f_wide f_rows f_cells f_sun f_all f_firstColumn f_lastColumn t_hours t_opened t_firstWrong g_kind g_wet g_wide g_rows g_cells g_sun g_all g_firstColumn g_lastColumn r_cells r_hours r_cracked r_count S_row S_lane S_length)) (rest := []) (st1 := [.int q55_1.1]) Cc hK hA hP hD hS hl.1 (ctX4_faulted l D cI cS a_d a_f a_t a_r a_z d_hour d_traced (0 : Int32) (1 : Int32) n q55_1.1 q55_1.2 hq119) ⟨tw_173, tw_170, tw_172, tp_0, tw_1⟩ mdX4_faulted ⟨rfl, rfl, Nat.le_of_ble_eq_true rfl, Nat.le_of_ble_eq_true rfl⟩ rfl dX4_copy_55 rfl (Nat.le_of_ble_eq_true rfl) ⟨Nat.zero_le _, Nat.zero_le _⟩ rfl rfl rfl [0] [1, 2, 3, 4, 5, 6, 7, 8, 9, 10, 11, 12, 13, 14, 15, 16, 17, 18, 19, 20] [20, 0, 1, 2, 3, 4, 5, 6, 7, 8, 9, 10, 11, 12, 13, 14, 15, 16, 17, 18, 19] rfl rfl (by decide) rfl (fun H locs hP hD hS => ?_)
            replace hf := Option.some.inj hf
            obtain ⟨er0, er1⟩ := Prod.mk.inj hf
            obtain ⟨er2, er3⟩ := Prod.mk.inj er1
            clear hf er1
            subst er0
            subst er2
            subst er3
            exact rt_i Cc hK hP hD hS dX4_copy_58
          · replace hf := (if_pos hc118).symm.trans hf
            refine lv_aload hx hb dX4_copy_45 (lv_at hl 0 rfl) ?_
            obtain ⟨q47_1, hq120, hf⟩ := Option.bind_eq_some_iff.mp hf
            refine cV (ws' := (W_D cI cS a_d a_f a_t a_r a_z a_f_kind a_f_wet a_g a_g_kind a_g_wet a_r_cells a_r_hours a_r_cracked a_s0 a_s0_row a_s1 a_s1_row a_s2 a_s2_row a_s3 a_s3_row d_hour d_traced (0 : Int32) f_kind f_wet f_wide f_rows f_cells f_sun f_all f_firstColumn f_lastColumn t_hours t_opened t_firstWrong g_kind g_wet g_wide g_rows g_cells g_sun g_all g_firstColumn g_lastColumn r_cells r_hours r_cracked r_count S_row S_lane S_length)) (rest := []) (st1 := [.int q47_1]) Cc hK hA hP hD hS hl.1 (ctX2_isNothing l D cI cS a_s0 a_s0_row (S_row 0) (S_lane 0) (S_length 0)  n q47_1 hq120) ⟨tw_165, tw_428, tw_163, tw_164, tw_5⟩ mdX2_isNothing ⟨rfl, rfl, Nat.le_of_ble_eq_true rfl, Nat.le_of_ble_eq_true rfl⟩ rfl dX4_copy_47 rfl (Nat.le_of_ble_eq_true rfl) ⟨Nat.zero_le _, Nat.zero_le _⟩ rfl rfl rfl [13, 14] [0, 1, 2, 3, 4, 5, 6, 7, 8, 9, 10, 11, 12, 15, 16, 17, 18, 19, 20] [0, 1, 2, 3, 4, 5, 6, 7, 8, 9, 10, 11, 12, 19, 20, 13, 14, 15, 16, 17, 18] rfl rfl (by decide) rfl (fun H locs hP hD hS => ?_)
            refine lv_if_eq (tgt := 59) hx hb dX4_copy_50 (by decide) (fun hc121 => ?_) (fun hc121 => ?_)
            · replace hf := (if_pos hc121).symm.trans hf
              refine lv_aload hx hb dX4_copy_59 (lv_at hl 1 rfl) ?_
              refine va_getN (D := D) (ci := 2) (v := .int (S_lane 2)) (C := RX2) (T := TX2) (N := 3) hx hb hts inX2 hown hK hP 17 rfl rfl 1 (by decide) (va_Nw.use rfl (hnw _ nn_12)) (fun _ h9 => h9) rfl dX4_copy_61 ?_
              refine lv_aload hx hb dX4_copy_64 (lv_at hl 0 rfl) ?_
              refine va_getN (D := D) (ci := 2) (v := .int (S_lane 0)) (C := RX2) (T := TX2) (N := 3) hx hb hts inX2 hown hK hP 13 rfl rfl 1 (by decide) (va_Nw.use rfl (hnw _ nn_12)) (fun _ h9 => h9) rfl dX4_copy_66 ?_
              refine lv_icmp_eq (tgt := 78) hx hb dX4_copy_69 (by decide) (fun hc122 => ?_) (fun hc122 => ?_)
              · replace hf := (if_pos hc122).symm.trans hf
                refine lv_aload hx hb dX4_copy_78 (lv_at hl 1 rfl) ?_
                refine lv_iload_n hx hb dX4_copy_80 rfl (lv_at hl 4 rfl) ?_
                refine lv_iload hx hb dX4_copy_81 (lv_at hl 7 rfl) ?_
                obtain ⟨q83_1, hq123, hf⟩ := Option.bind_eq_some_iff.mp hf
                refine cV (ws' := (W_D cI cS a_d a_f a_t a_r a_z a_f_kind a_f_wet a_g a_g_kind a_g_wet a_r_cells a_r_hours a_r_cracked a_s0 a_s0_row a_s1 a_s1_row a_s2 a_s2_row a_s3 a_s3_row d_hour d_traced (0 : Int32) f_kind f_wet f_wide f_rows f_cells f_sun f_all f_firstColumn f_lastColumn t_hours t_opened t_firstWrong g_kind g_wet g_wide g_rows g_cells g_sun g_all g_firstColumn g_lastColumn r_cells r_hours r_cracked r_count S_row S_lane S_length)) (rest := []) (st1 := [.int q83_1]) Cc hK hA hP hD hS hl.1 (ctX2_has l D cI cS a_s2 a_s2_row (S_row 2) (S_lane 2) (S_length 2) p2 p5 n q83_1 hq123) ⟨tw_169, tw_166, tw_167, tw_168, tw_5⟩ mdX2_has ⟨rfl, rfl, Nat.le_of_ble_eq_true rfl, Nat.le_of_ble_eq_true rfl⟩ rfl dX4_copy_83 rfl (Nat.le_of_ble_eq_true rfl) ⟨Nat.zero_le _, Nat.zero_le _⟩ rfl rfl rfl [17, 18] [0, 1, 2, 3, 4, 5, 6, 7, 8, 9, 10, 11, 12, 13, 14, 15, 16, 19, 20] [0, 1, 2, 3, 4, 5, 6, 7, 8, 9, 10, 11, 12, 13, 14, 15, 16, 19, 20, 17, 18] rfl rfl (by decide) rfl (fun H locs hP hD hS => ?_)
                refine lv_if_eq (tgt := 101) hx hb dX4_copy_86 (by decide) (fun hc124 => ?_) (fun hc124 => ?_)
                · replace hf := (if_pos hc124).symm.trans hf
                  refine lv_aload_n hx hb dX4_copy_101 rfl (lv_at hl 2 rfl) ?_
                  refine lv_iconst (v := (3 : Int32)) hx hb dX4_copy_102 (by decide) ?_
                  obtain ⟨q103_1, hq125, hf⟩ := Option.bind_eq_some_iff.mp hf
                  refine cV (ws' := (W_D cI cS a_d a_f a_t a_r a_z a_f_kind a_f_wet a_g a_g_kind a_g_wet a_r_cells a_r_hours a_r_cracked a_s0 a_s0_row a_s1 a_s1_row a_s2 a_s2_row a_s3 a_s3_row d_hour d_traced q103_1.2 f_kind f_wet f_wide f_rows f_cells f_sun f_all f_firstColumn f_lastColumn t_hours t_opened t_firstWrong g_kind g_wet g_wide g_rows g_cells g_sun g_all g_firstColumn g_lastColumn r_cells r_hours r_cracked r_count S_row S_lane S_length)) (rest := []) (st1 := [.int q103_1.1]) Cc hK hA hP hD hS hl.1 (ctX4_faulted l D cI cS a_d a_f a_t a_r a_z d_hour d_traced (0 : Int32) (3 : Int32) n q103_1.1 q103_1.2 hq125) ⟨tw_173, tw_170, tw_172, tp_0, tw_1⟩ mdX4_faulted ⟨rfl, rfl, Nat.le_of_ble_eq_true rfl, Nat.le_of_ble_eq_true rfl⟩ rfl dX4_copy_103 rfl (Nat.le_of_ble_eq_true rfl) ⟨Nat.zero_le _, Nat.zero_le _⟩ rfl rfl rfl [0] [1, 2, 3, 4, 5, 6, 7, 8, 9, 10, 11, 12, 13, 14, 15, 16, 17, 18, 19, 20] [20, 0, 1, 2, 3, 4, 5, 6, 7, 8, 9, 10, 11, 12, 13, 14, 15, 16, 17, 18, 19] rfl rfl (by decide) rfl (fun H locs hP hD hS => ?_)
                  replace hf := Option.some.inj hf
                  obtain ⟨er0, er1⟩ := Prod.mk.inj hf
                  obtain ⟨er2, er3⟩ := Prod.mk.inj er1
                  clear hf er1
                  subst er0
                  subst er2
                  subst er3
                  exact rt_i Cc hK hP hD hS dX4_copy_106
                · replace hf := (if_neg hc124).symm.trans hf
                  refine lv_aload hx hb dX4_copy_89 (lv_at hl 0 rfl) ?_
                  refine lv_iload hx hb dX4_copy_91 (lv_at hl 6 rfl) ?_
                  refine lv_iload hx hb dX4_copy_93 (lv_at hl 7 rfl) ?_
                  obtain ⟨q95_1, hq126, hf⟩ := Option.bind_eq_some_iff.mp hf
                  refine cV (ws' := (W_D cI cS a_d a_f a_t a_r a_z a_f_kind a_f_wet a_g a_g_kind a_g_wet a_r_cells a_r_hours a_r_cracked a_s0 a_s0_row a_s1 a_s1_row a_s2 a_s2_row a_s3 a_s3_row d_hour d_traced (0 : Int32) f_kind f_wet f_wide f_rows f_cells f_sun f_all f_firstColumn f_lastColumn t_hours t_opened t_firstWrong g_kind g_wet g_wide g_rows g_cells g_sun g_all g_firstColumn g_lastColumn r_cells r_hours r_cracked r_count S_row S_lane S_length)) (rest := []) (st1 := [.int q95_1]) Cc hK hA hP hD hS hl.1 (ctX2_has l D cI cS a_s0 a_s0_row (S_row 0) (S_lane 0) (S_length 0) p4 p5 n q95_1 hq126) ⟨tw_169, tw_166, tw_167, tw_168, tw_5⟩ mdX2_has ⟨rfl, rfl, Nat.le_of_ble_eq_true rfl, Nat.le_of_ble_eq_true rfl⟩ rfl dX4_copy_95 rfl (Nat.le_of_ble_eq_true rfl) ⟨Nat.zero_le _, Nat.zero_le _⟩ rfl rfl rfl [13, 14] [0, 1, 2, 3, 4, 5, 6, 7, 8, 9, 10, 11, 12, 15, 16, 17, 18, 19, 20] [0, 1, 2, 3, 4, 5, 6, 7, 8, 9, 10, 11, 12, 19, 20, 13, 14, 15, 16, 17, 18] rfl rfl (by decide) rfl (fun H locs hP hD hS => ?_)
                  refine lv_if_ne (tgt := 107) hx hb dX4_copy_98 (by decide) (fun hc127 => ?_) (fun hc127 => ?_)
                  · replace hf := (if_neg hc127).symm.trans hf
                    refine lv_aload hx hb dX4_copy_107 (lv_at hl 1 rfl) ?_
                    refine va_getN (D := D) (ci := 2) (v := .ref a_s2_row) (C := RX2) (T := TX2) (N := 3) hx hb hts inX2 hown hK hP 17 rfl rfl 0 (by decide) (va_Nw.use rfl (hnw _ nn_11)) (fun _ h9 => h9) rfl dX4_copy_109 ?_
                    refine lv_iload_n hx hb dX4_copy_112 rfl (lv_at hl 4 rfl) ?_
                    refine lv_aload hx hb dX4_copy_113 (lv_at hl 0 rfl) ?_
                    refine va_getN (D := D) (ci := 2) (v := .ref a_s0_row) (C := RX2) (T := TX2) (N := 3) hx hb hts inX2 hown hK hP 13 rfl rfl 0 (by decide) (va_Nw.use rfl (hnw _ nn_11)) (fun _ h9 => h9) rfl dX4_copy_115 ?_
                    refine lv_iload hx hb dX4_copy_118 (lv_at hl 6 rfl) ?_
                    refine lv_iload hx hb dX4_copy_120 (lv_at hl 7 rfl) ?_
                    obtain ⟨⟨g1, g2, g3, g4, g5⟩, hf⟩ := cpg_some hf
                    refine va_copyi hx hb (hml.trans hl.1.symm) hown (hts _ tw_454) (hts _ tw_native) (hts _ tw_455) (hts _ tw_9) hK hP hD hS 18 14 0 0 rfl rfl rfl rfl rfl g1 g2 g3 g4 g5 (fun _ _ => rfl) (Nat.le_of_ble_eq_true rfl) (Nat.le_of_ble_eq_true rfl) dX4_copy_122 (fun H locs hP hD hS => ?_)
                    have hP : va_P D classes (W_D cI cS a_d a_f a_t a_r a_z a_f_kind a_f_wet a_g a_g_kind a_g_wet a_r_cells a_r_hours a_r_cracked a_s0 a_s0_row a_s1 a_s1_row a_s2 a_s2_row a_s3 a_s3_row d_hour d_traced (0 : Int32) f_kind f_wet f_wide f_rows f_cells f_sun f_all f_firstColumn f_lastColumn t_hours t_opened t_firstWrong g_kind g_wet g_wide g_rows g_cells g_sun g_all g_firstColumn g_lastColumn r_cells r_hours r_cracked r_count (va_up S_row 0 (va_cpy (S_row 2) (S_row 0) p2.toNatClampNeg p4.toNatClampNeg p5.toNatClampNeg)) S_lane S_length) H := hP
                    have hD : va_D A (W_D cI cS a_d a_f a_t a_r a_z a_f_kind a_f_wet a_g a_g_kind a_g_wet a_r_cells a_r_hours a_r_cracked a_s0 a_s0_row a_s1 a_s1_row a_s2 a_s2_row a_s3 a_s3_row d_hour d_traced (0 : Int32) f_kind f_wet f_wide f_rows f_cells f_sun f_all f_firstColumn f_lastColumn t_hours t_opened t_firstWrong g_kind g_wet g_wide g_rows g_cells g_sun g_all g_firstColumn g_lastColumn r_cells r_hours r_cracked r_count (va_up S_row 0 (va_cpy (S_row 2) (S_row 0) p2.toNatClampNeg p4.toNatClampNeg p5.toNatClampNeg)) S_lane S_length) := hD
                    refine lv_iload hx hb dX4_copy_125 (lv_at hl 7 rfl) ?_
                    replace hf := Option.some.inj hf
                    obtain ⟨er0, er1⟩ := Prod.mk.inj hf
                    obtain ⟨er2, er3⟩ := Prod.mk.inj er1
                    clear hf er1
                    subst er0
                    subst er2
                    subst er3
                    exact rt_i Cc hK hP hD hS dX4_copy_127
                  · replace hf := (if_pos hc127).symm.trans hf
                    refine lv_aload_n hx hb dX4_copy_101 rfl (lv_at hl 2 rfl) ?_
                    refine lv_iconst (v := (3 : Int32)) hx hb dX4_copy_102 (by decide) ?_
                    obtain ⟨q103_1, hq128, hf⟩ := Option.bind_eq_some_iff.mp hf
                    refine cV (ws' := (W_D cI cS a_d a_f a_t a_r a_z a_f_kind a_f_wet a_g a_g_kind a_g_wet a_r_cells a_r_hours a_r_cracked a_s0 a_s0_row a_s1 a_s1_row a_s2 a_s2_row a_s3 a_s3_row d_hour d_traced q103_1.2 f_kind f_wet f_wide f_rows f_cells f_sun f_all f_firstColumn f_lastColumn t_hours t_opened t_firstWrong g_kind g_wet g_wide g_rows g_cells g_sun g_all g_firstColumn g_lastColumn r_cells r_hours r_cracked r_count S_row S_lane S_length)) (rest := []) (st1 := [.int q103_1.1]) Cc hK hA hP hD hS hl.1 (ctX4_faulted l D cI cS a_d a_f a_t a_r a_z d_hour d_traced (0 : Int32) (3 : Int32) n q103_1.1 q103_1.2 hq128) ⟨tw_173, tw_170, tw_172, tp_0, tw_1⟩ mdX4_faulted ⟨rfl, rfl, Nat.le_of_ble_eq_true rfl, Nat.le_of_ble_eq_true rfl⟩ rfl dX4_copy_103 rfl (Nat.le_of_ble_eq_true rfl) ⟨Nat.zero_le _, Nat.zero_le _⟩ rfl rfl rfl [0] [1, 2, 3, 4, 5, 6, 7, 8, 9, 10, 11, 12, 13, 14, 15, 16, 17, 18, 19, 20] [20, 0, 1, 2, 3, 4, 5, 6, 7, 8, 9, 10, 11, 12, 13, 14, 15, 16, 17, 18, 19] rfl rfl (by decide) rfl (fun H locs hP hD hS => ?_)
                    replace hf := Option.some.inj hf
                    obtain ⟨er0, er1⟩ := Prod.mk.inj hf
                    obtain ⟨er2, er3⟩ := Prod.mk.inj er1
                    clear hf er1
                    subst er0
                    subst er2
                    subst er3
                    exact rt_i Cc hK hP hD hS dX4_copy_106
              · replace hf := (if_neg hc122).symm.trans hf
                refine lv_aload_n hx hb dX4_copy_72 rfl (lv_at hl 2 rfl) ?_
                refine lv_iconst (v := (2 : Int32)) hx hb dX4_copy_73 (by decide) ?_
                obtain ⟨q74_1, hq129, hf⟩ := Option.bind_eq_some_iff.mp hf
                refine cV (ws' := (W_D cI cS a_d a_f a_t a_r a_z a_f_kind a_f_wet a_g a_g_kind a_g_wet a_r_cells a_r_hours a_r_cracked a_s0 a_s0_row a_s1 a_s1_row a_s2 a_s2_row a_s3 a_s3_row d_hour d_traced q74_1.2 f_kind f_wet f_wide f_rows f_cells f_sun f_all f_firstColumn f_lastColumn t_hours t_opened t_firstWrong g_kind g_wet g_wide g_rows g_cells g_sun g_all g_firstColumn g_lastColumn r_cells r_hours r_cracked r_count S_row S_lane S_length)) (rest := []) (st1 := [.int q74_1.1]) Cc hK hA hP hD hS hl.1 (ctX4_faulted l D cI cS a_d a_f a_t a_r a_z d_hour d_traced (0 : Int32) (2 : Int32) n q74_1.1 q74_1.2 hq129) ⟨tw_173, tw_170, tw_172, tp_0, tw_1⟩ mdX4_faulted ⟨rfl, rfl, Nat.le_of_ble_eq_true rfl, Nat.le_of_ble_eq_true rfl⟩ rfl dX4_copy_74 rfl (Nat.le_of_ble_eq_true rfl) ⟨Nat.zero_le _, Nat.zero_le _⟩ rfl rfl rfl [0] [1, 2, 3, 4, 5, 6, 7, 8, 9, 10, 11, 12, 13, 14, 15, 16, 17, 18, 19, 20] [20, 0, 1, 2, 3, 4, 5, 6, 7, 8, 9, 10, 11, 12, 13, 14, 15, 16, 17, 18, 19] rfl rfl (by decide) rfl (fun H locs hP hD hS => ?_)
                replace hf := Option.some.inj hf
                obtain ⟨er0, er1⟩ := Prod.mk.inj hf
                obtain ⟨er2, er3⟩ := Prod.mk.inj er1
                clear hf er1
                subst er0
                subst er2
                subst er3
                exact rt_i Cc hK hP hD hS dX4_copy_77
            · replace hf := (if_neg hc121).symm.trans hf
              refine lv_aload_n hx hb dX4_copy_53 rfl (lv_at hl 2 rfl) ?_
              refine lv_iconst (v := (1 : Int32)) hx hb dX4_copy_54 (by decide) ?_
              obtain ⟨q55_1, hq130, hf⟩ := Option.bind_eq_some_iff.mp hf
              refine cV (ws' := (W_D cI cS a_d a_f a_t a_r a_z a_f_kind a_f_wet a_g a_g_kind a_g_wet a_r_cells a_r_hours a_r_cracked a_s0 a_s0_row a_s1 a_s1_row a_s2 a_s2_row a_s3 a_s3_row d_hour d_traced q55_1.2 f_kind f_wet f_wide f_rows f_cells f_sun f_all f_firstColumn f_lastColumn t_hours t_opened t_firstWrong g_kind g_wet g_wide g_rows g_cells g_sun g_all g_firstColumn g_lastColumn r_cells r_hours r_cracked r_count S_row S_lane S_length)) (rest := []) (st1 := [.int q55_1.1]) Cc hK hA hP hD hS hl.1 (ctX4_faulted l D cI cS a_d a_f a_t a_r a_z d_hour d_traced (0 : Int32) (1 : Int32) n q55_1.1 q55_1.2 hq130) ⟨tw_173, tw_170, tw_172, tp_0, tw_1⟩ mdX4_faulted ⟨rfl, rfl, Nat.le_of_ble_eq_true rfl, Nat.le_of_ble_eq_true rfl⟩ rfl dX4_copy_55 rfl (Nat.le_of_ble_eq_true rfl) ⟨Nat.zero_le _, Nat.zero_le _⟩ rfl rfl rfl [0] [1, 2, 3, 4, 5, 6, 7, 8, 9, 10, 11, 12, 13, 14, 15, 16, 17, 18, 19, 20] [20, 0, 1, 2, 3, 4, 5, 6, 7, 8, 9, 10, 11, 12, 13, 14, 15, 16, 17, 18, 19] rfl rfl (by decide) rfl (fun H locs hP hD hS => ?_)
              replace hf := Option.some.inj hf
              obtain ⟨er0, er1⟩ := Prod.mk.inj hf
              obtain ⟨er2, er3⟩ := Prod.mk.inj er1
              clear hf er1
              subst er0
              subst er2
              subst er3
              exact rt_i Cc hK hP hD hS dX4_copy_58
        · refine W.eq (g2 := F0 m 35 ls [.ref a_s1]) rfl ?_
          refine lv_astore (lv' := [(7, .ref a_s1), (6, .ref a_s2), (0, .ref a_d), (1, .int p1), (2, .int p2), (3, .int p3), (4, .int p4), (5, .int p5)]) hx hb dX4_copy_35 hl (by decide) rfl (fun ls hl => ?_)
          refine lv_aload hx hb dX4_copy_37 (lv_at hl 1 rfl) ?_
          obtain ⟨q39_1, hq131, hf⟩ := Option.bind_eq_some_iff.mp hf
          refine cV (ws' := (W_D cI cS a_d a_f a_t a_r a_z a_f_kind a_f_wet a_g a_g_kind a_g_wet a_r_cells a_r_hours a_r_cracked a_s0 a_s0_row a_s1 a_s1_row a_s2 a_s2_row a_s3 a_s3_row d_hour d_traced (0 : Int32) f_kind f_wet f_wide f_rows f_cells f_sun f_all f_firstColumn f_lastColumn t_hours t_opened t_firstWrong g_kind g_wet g_wide g_rows g_cells g_sun g_all g_firstColumn g_lastColumn r_cells r_hours r_cracked r_count S_row S_lane S_length)) (rest := []) (st1 := [.int q39_1]) Cc hK hA hP hD hS hl.1 (ctX2_isNothing l D cI cS a_s2 a_s2_row (S_row 2) (S_lane 2) (S_length 2)  n q39_1 hq131) ⟨tw_165, tw_428, tw_163, tw_164, tw_5⟩ mdX2_isNothing ⟨rfl, rfl, Nat.le_of_ble_eq_true rfl, Nat.le_of_ble_eq_true rfl⟩ rfl dX4_copy_39 rfl (Nat.le_of_ble_eq_true rfl) ⟨Nat.zero_le _, Nat.zero_le _⟩ rfl rfl rfl [17, 18] [0, 1, 2, 3, 4, 5, 6, 7, 8, 9, 10, 11, 12, 13, 14, 15, 16, 19, 20] [0, 1, 2, 3, 4, 5, 6, 7, 8, 9, 10, 11, 12, 13, 14, 15, 16, 19, 20, 17, 18] rfl rfl (by decide) rfl (fun H locs hP hD hS => ?_)
          refine lv_if_ne (tgt := 53) hx hb dX4_copy_42 (by decide) (fun hc132 => ?_) (fun hc132 => ?_)
          · replace hf := (if_neg hc132).symm.trans hf
            refine lv_aload_n hx hb dX4_copy_53 rfl (lv_at hl 2 rfl) ?_
            refine lv_iconst (v := (1 : Int32)) hx hb dX4_copy_54 (by decide) ?_
            obtain ⟨q55_1, hq133, hf⟩ := Option.bind_eq_some_iff.mp hf
            refine cV (ws' := (W_D cI cS a_d a_f a_t a_r a_z a_f_kind a_f_wet a_g a_g_kind a_g_wet a_r_cells a_r_hours a_r_cracked a_s0 a_s0_row a_s1 a_s1_row a_s2 a_s2_row a_s3 a_s3_row d_hour d_traced q55_1.2 f_kind f_wet f_wide f_rows f_cells f_sun f_all f_firstColumn f_lastColumn t_hours t_opened t_firstWrong g_kind g_wet g_wide g_rows g_cells g_sun g_all g_firstColumn g_lastColumn r_cells r_hours r_cracked r_count S_row S_lane S_length)) (rest := []) (st1 := [.int q55_1.1]) Cc hK hA hP hD hS hl.1 (ctX4_faulted l D cI cS a_d a_f a_t a_r a_z d_hour d_traced (0 : Int32) (1 : Int32) n q55_1.1 q55_1.2 hq133) ⟨tw_173, tw_170, tw_172, tp_0, tw_1⟩ mdX4_faulted ⟨rfl, rfl, Nat.le_of_ble_eq_true rfl, Nat.le_of_ble_eq_true rfl⟩ rfl dX4_copy_55 rfl (Nat.le_of_ble_eq_true rfl) ⟨Nat.zero_le _, Nat.zero_le _⟩ rfl rfl rfl [0] [1, 2, 3, 4, 5, 6, 7, 8, 9, 10, 11, 12, 13, 14, 15, 16, 17, 18, 19, 20] [20, 0, 1, 2, 3, 4, 5, 6, 7, 8, 9, 10, 11, 12, 13, 14, 15, 16, 17, 18, 19] rfl rfl (by decide) rfl (fun H locs hP hD hS => ?_)
            replace hf := Option.some.inj hf
            obtain ⟨er0, er1⟩ := Prod.mk.inj hf
            obtain ⟨er2, er3⟩ := Prod.mk.inj er1
            clear hf er1
            subst er0
            subst er2
            subst er3
            exact rt_i Cc hK hP hD hS dX4_copy_58
          · replace hf := (if_pos hc132).symm.trans hf
            refine lv_aload hx hb dX4_copy_45 (lv_at hl 0 rfl) ?_
            obtain ⟨q47_1, hq134, hf⟩ := Option.bind_eq_some_iff.mp hf
            refine cV (ws' := (W_D cI cS a_d a_f a_t a_r a_z a_f_kind a_f_wet a_g a_g_kind a_g_wet a_r_cells a_r_hours a_r_cracked a_s0 a_s0_row a_s1 a_s1_row a_s2 a_s2_row a_s3 a_s3_row d_hour d_traced (0 : Int32) f_kind f_wet f_wide f_rows f_cells f_sun f_all f_firstColumn f_lastColumn t_hours t_opened t_firstWrong g_kind g_wet g_wide g_rows g_cells g_sun g_all g_firstColumn g_lastColumn r_cells r_hours r_cracked r_count S_row S_lane S_length)) (rest := []) (st1 := [.int q47_1]) Cc hK hA hP hD hS hl.1 (ctX2_isNothing l D cI cS a_s1 a_s1_row (S_row 1) (S_lane 1) (S_length 1)  n q47_1 hq134) ⟨tw_165, tw_428, tw_163, tw_164, tw_5⟩ mdX2_isNothing ⟨rfl, rfl, Nat.le_of_ble_eq_true rfl, Nat.le_of_ble_eq_true rfl⟩ rfl dX4_copy_47 rfl (Nat.le_of_ble_eq_true rfl) ⟨Nat.zero_le _, Nat.zero_le _⟩ rfl rfl rfl [15, 16] [0, 1, 2, 3, 4, 5, 6, 7, 8, 9, 10, 11, 12, 13, 14, 17, 18, 19, 20] [0, 1, 2, 3, 4, 5, 6, 7, 8, 9, 10, 11, 12, 13, 14, 19, 20, 15, 16, 17, 18] rfl rfl (by decide) rfl (fun H locs hP hD hS => ?_)
            refine lv_if_eq (tgt := 59) hx hb dX4_copy_50 (by decide) (fun hc135 => ?_) (fun hc135 => ?_)
            · replace hf := (if_pos hc135).symm.trans hf
              refine lv_aload hx hb dX4_copy_59 (lv_at hl 1 rfl) ?_
              refine va_getN (D := D) (ci := 2) (v := .int (S_lane 2)) (C := RX2) (T := TX2) (N := 3) hx hb hts inX2 hown hK hP 17 rfl rfl 1 (by decide) (va_Nw.use rfl (hnw _ nn_12)) (fun _ h9 => h9) rfl dX4_copy_61 ?_
              refine lv_aload hx hb dX4_copy_64 (lv_at hl 0 rfl) ?_
              refine va_getN (D := D) (ci := 2) (v := .int (S_lane 1)) (C := RX2) (T := TX2) (N := 3) hx hb hts inX2 hown hK hP 15 rfl rfl 1 (by decide) (va_Nw.use rfl (hnw _ nn_12)) (fun _ h9 => h9) rfl dX4_copy_66 ?_
              refine lv_icmp_eq (tgt := 78) hx hb dX4_copy_69 (by decide) (fun hc136 => ?_) (fun hc136 => ?_)
              · replace hf := (if_pos hc136).symm.trans hf
                refine lv_aload hx hb dX4_copy_78 (lv_at hl 1 rfl) ?_
                refine lv_iload_n hx hb dX4_copy_80 rfl (lv_at hl 4 rfl) ?_
                refine lv_iload hx hb dX4_copy_81 (lv_at hl 7 rfl) ?_
                obtain ⟨q83_1, hq137, hf⟩ := Option.bind_eq_some_iff.mp hf
                refine cV (ws' := (W_D cI cS a_d a_f a_t a_r a_z a_f_kind a_f_wet a_g a_g_kind a_g_wet a_r_cells a_r_hours a_r_cracked a_s0 a_s0_row a_s1 a_s1_row a_s2 a_s2_row a_s3 a_s3_row d_hour d_traced (0 : Int32) f_kind f_wet f_wide f_rows f_cells f_sun f_all f_firstColumn f_lastColumn t_hours t_opened t_firstWrong g_kind g_wet g_wide g_rows g_cells g_sun g_all g_firstColumn g_lastColumn r_cells r_hours r_cracked r_count S_row S_lane S_length)) (rest := []) (st1 := [.int q83_1]) Cc hK hA hP hD hS hl.1 (ctX2_has l D cI cS a_s2 a_s2_row (S_row 2) (S_lane 2) (S_length 2) p2 p5 n q83_1 hq137) ⟨tw_169, tw_166, tw_167, tw_168, tw_5⟩ mdX2_has ⟨rfl, rfl, Nat.le_of_ble_eq_true rfl, Nat.le_of_ble_eq_true rfl⟩ rfl dX4_copy_83 rfl (Nat.le_of_ble_eq_true rfl) ⟨Nat.zero_le _, Nat.zero_le _⟩ rfl rfl rfl [17, 18] [0, 1, 2, 3, 4, 5, 6, 7, 8, 9, 10, 11, 12, 13, 14, 15, 16, 19, 20] [0, 1, 2, 3, 4, 5, 6, 7, 8, 9, 10, 11, 12, 13, 14, 15, 16, 19, 20, 17, 18] rfl rfl (by decide) rfl (fun H locs hP hD hS => ?_)
                refine lv_if_eq (tgt := 101) hx hb dX4_copy_86 (by decide) (fun hc138 => ?_) (fun hc138 => ?_)
                · replace hf := (if_pos hc138).symm.trans hf
                  refine lv_aload_n hx hb dX4_copy_101 rfl (lv_at hl 2 rfl) ?_
                  refine lv_iconst (v := (3 : Int32)) hx hb dX4_copy_102 (by decide) ?_
                  obtain ⟨q103_1, hq139, hf⟩ := Option.bind_eq_some_iff.mp hf
                  refine cV (ws' := (W_D cI cS a_d a_f a_t a_r a_z a_f_kind a_f_wet a_g a_g_kind a_g_wet a_r_cells a_r_hours a_r_cracked a_s0 a_s0_row a_s1 a_s1_row a_s2 a_s2_row a_s3 a_s3_row d_hour d_traced q103_1.2 f_kind f_wet f_wide f_rows f_cells f_sun f_all f_firstColumn f_lastColumn t_hours t_opened t_firstWrong g_kind g_wet g_wide g_rows g_cells g_sun g_all g_firstColumn g_lastColumn r_cells r_hours r_cracked r_count S_row S_lane S_length)) (rest := []) (st1 := [.int q103_1.1]) Cc hK hA hP hD hS hl.1 (ctX4_faulted l D cI cS a_d a_f a_t a_r a_z d_hour d_traced (0 : Int32) (3 : Int32) n q103_1.1 q103_1.2 hq139) ⟨tw_173, tw_170, tw_172, tp_0, tw_1⟩ mdX4_faulted ⟨rfl, rfl, Nat.le_of_ble_eq_true rfl, Nat.le_of_ble_eq_true rfl⟩ rfl dX4_copy_103 rfl (Nat.le_of_ble_eq_true rfl) ⟨Nat.zero_le _, Nat.zero_le _⟩ rfl rfl rfl [0] [1, 2, 3, 4, 5, 6, 7, 8, 9, 10, 11, 12, 13, 14, 15, 16, 17, 18, 19, 20] [20, 0, 1, 2, 3, 4, 5, 6, 7, 8, 9, 10, 11, 12, 13, 14, 15, 16, 17, 18, 19] rfl rfl (by decide) rfl (fun H locs hP hD hS => ?_)
                  replace hf := Option.some.inj hf
                  obtain ⟨er0, er1⟩ := Prod.mk.inj hf
                  obtain ⟨er2, er3⟩ := Prod.mk.inj er1
                  clear hf er1
                  subst er0
                  subst er2
                  subst er3
                  exact rt_i Cc hK hP hD hS dX4_copy_106
                · replace hf := (if_neg hc138).symm.trans hf
                  refine lv_aload hx hb dX4_copy_89 (lv_at hl 0 rfl) ?_
                  refine lv_iload hx hb dX4_copy_91 (lv_at hl 6 rfl) ?_
                  refine lv_iload hx hb dX4_copy_93 (lv_at hl 7 rfl) ?_
                  obtain ⟨q95_1, hq140, hf⟩ := Option.bind_eq_some_iff.mp hf
                  refine cV (ws' := (W_D cI cS a_d a_f a_t a_r a_z a_f_kind a_f_wet a_g a_g_kind a_g_wet a_r_cells a_r_hours a_r_cracked a_s0 a_s0_row a_s1 a_s1_row a_s2 a_s2_row a_s3 a_s3_row d_hour d_traced (0 : Int32) f_kind f_wet f_wide f_rows f_cells f_sun f_all f_firstColumn f_lastColumn t_hours t_opened t_firstWrong g_kind g_wet g_wide g_rows g_cells g_sun g_all g_firstColumn g_lastColumn r_cells r_hours r_cracked r_count S_row S_lane S_length)) (rest := []) (st1 := [.int q95_1]) Cc hK hA hP hD hS hl.1 (ctX2_has l D cI cS a_s1 a_s1_row (S_row 1) (S_lane 1) (S_length 1) p4 p5 n q95_1 hq140) ⟨tw_169, tw_166, tw_167, tw_168, tw_5⟩ mdX2_has ⟨rfl, rfl, Nat.le_of_ble_eq_true rfl, Nat.le_of_ble_eq_true rfl⟩ rfl dX4_copy_95 rfl (Nat.le_of_ble_eq_true rfl) ⟨Nat.zero_le _, Nat.zero_le _⟩ rfl rfl rfl [15, 16] [0, 1, 2, 3, 4, 5, 6, 7, 8, 9, 10, 11, 12, 13, 14, 17, 18, 19, 20] [0, 1, 2, 3, 4, 5, 6, 7, 8, 9, 10, 11, 12, 13, 14, 19, 20, 15, 16, 17, 18] rfl rfl (by decide) rfl (fun H locs hP hD hS => ?_)
                  refine lv_if_ne (tgt := 107) hx hb dX4_copy_98 (by decide) (fun hc141 => ?_) (fun hc141 => ?_)
                  · replace hf := (if_neg hc141).symm.trans hf
                    refine lv_aload hx hb dX4_copy_107 (lv_at hl 1 rfl) ?_
                    refine va_getN (D := D) (ci := 2) (v := .ref a_s2_row) (C := RX2) (T := TX2) (N := 3) hx hb hts inX2 hown hK hP 17 rfl rfl 0 (by decide) (va_Nw.use rfl (hnw _ nn_11)) (fun _ h9 => h9) rfl dX4_copy_109 ?_
                    refine lv_iload_n hx hb dX4_copy_112 rfl (lv_at hl 4 rfl) ?_
                    refine lv_aload hx hb dX4_copy_113 (lv_at hl 0 rfl) ?_
                    refine va_getN (D := D) (ci := 2) (v := .ref a_s1_row) (C := RX2) (T := TX2) (N := 3) hx hb hts inX2 hown hK hP 15 rfl rfl 0 (by decide) (va_Nw.use rfl (hnw _ nn_11)) (fun _ h9 => h9) rfl dX4_copy_115 ?_
                    refine lv_iload hx hb dX4_copy_118 (lv_at hl 6 rfl) ?_
                    refine lv_iload hx hb dX4_copy_120 (lv_at hl 7 rfl) ?_
                    obtain ⟨⟨g1, g2, g3, g4, g5⟩, hf⟩ := cpg_some hf
                    refine va_copyi hx hb (hml.trans hl.1.symm) hown (hts _ tw_454) (hts _ tw_native) (hts _ tw_455) (hts _ tw_9) hK hP hD hS 18 16 0 0 rfl rfl rfl rfl rfl g1 g2 g3 g4 g5 (fun _ _ => rfl) (Nat.le_of_ble_eq_true rfl) (Nat.le_of_ble_eq_true rfl) dX4_copy_122 (fun H locs hP hD hS => ?_)
                    have hP : va_P D classes (W_D cI cS a_d a_f a_t a_r a_z a_f_kind a_f_wet a_g a_g_kind a_g_wet a_r_cells a_r_hours a_r_cracked a_s0 a_s0_row a_s1 a_s1_row a_s2 a_s2_row a_s3 a_s3_row d_hour d_traced (0 : Int32) f_kind f_wet f_wide f_rows f_cells f_sun f_all f_firstColumn f_lastColumn t_hours t_opened t_firstWrong g_kind g_wet g_wide g_rows g_cells g_sun g_all g_firstColumn g_lastColumn r_cells r_hours r_cracked r_count (va_up S_row 1 (va_cpy (S_row 2) (S_row 1) p2.toNatClampNeg p4.toNatClampNeg p5.toNatClampNeg)) S_lane S_length) H := hP
                    have hD : va_D A (W_D cI cS a_d a_f a_t a_r a_z a_f_kind a_f_wet a_g a_g_kind a_g_wet a_r_cells a_r_hours a_r_cracked a_s0 a_s0_row a_s1 a_s1_row a_s2 a_s2_row a_s3 a_s3_row d_hour d_traced (0 : Int32) f_kind f_wet f_wide f_rows f_cells f_sun f_all f_firstColumn f_lastColumn t_hours t_opened t_firstWrong g_kind g_wet g_wide g_rows g_cells g_sun g_all g_firstColumn g_lastColumn r_cells r_hours r_cracked r_count (va_up S_row 1 (va_cpy (S_row 2) (S_row 1) p2.toNatClampNeg p4.toNatClampNeg p5.toNatClampNeg)) S_lane S_length) := hD
                    refine lv_iload hx hb dX4_copy_125 (lv_at hl 7 rfl) ?_
                    replace hf := Option.some.inj hf
                    obtain ⟨er0, er1⟩ := Prod.mk.inj hf
                    obtain ⟨er2, er3⟩ := Prod.mk.inj er1
                    clear hf er1
                    subst er0
                    subst er2
                    subst er3
                    exact rt_i Cc hK hP hD hS dX4_copy_127
                  · replace hf := (if_pos hc141).symm.trans hf
                    refine lv_aload_n hx hb dX4_copy_101 rfl (lv_at hl 2 rfl) ?_
                    refine lv_iconst (v := (3 : Int32)) hx hb dX4_copy_102 (by decide) ?_
                    obtain ⟨q103_1, hq142, hf⟩ := Option.bind_eq_some_iff.mp hf
                    refine cV (ws' := (W_D cI cS a_d a_f a_t a_r a_z a_f_kind a_f_wet a_g a_g_kind a_g_wet a_r_cells a_r_hours a_r_cracked a_s0 a_s0_row a_s1 a_s1_row a_s2 a_s2_row a_s3 a_s3_row d_hour d_traced q103_1.2 f_kind f_wet f_wide f_rows f_cells f_sun f_all f_firstColumn f_lastColumn t_hours t_opened t_firstWrong g_kind g_wet g_wide g_rows g_cells g_sun g_all g_firstColumn g_lastColumn r_cells r_hours r_cracked r_count S_row S_lane S_length)) (rest := []) (st1 := [.int q103_1.1]) Cc hK hA hP hD hS hl.1 (ctX4_faulted l D cI cS a_d a_f a_t a_r a_z d_hour d_traced (0 : Int32) (3 : Int32) n q103_1.1 q103_1.2 hq142) ⟨tw_173, tw_170, tw_172, tp_0, tw_1⟩ mdX4_faulted ⟨rfl, rfl, Nat.le_of_ble_eq_true rfl, Nat.le_of_ble_eq_true rfl⟩ rfl dX4_copy_103 rfl (Nat.le_of_ble_eq_true rfl) ⟨Nat.zero_le _, Nat.zero_le _⟩ rfl rfl rfl [0] [1, 2, 3, 4, 5, 6, 7, 8, 9, 10, 11, 12, 13, 14, 15, 16, 17, 18, 19, 20] [20, 0, 1, 2, 3, 4, 5, 6, 7, 8, 9, 10, 11, 12, 13, 14, 15, 16, 17, 18, 19] rfl rfl (by decide) rfl (fun H locs hP hD hS => ?_)
                    replace hf := Option.some.inj hf
                    obtain ⟨er0, er1⟩ := Prod.mk.inj hf
                    obtain ⟨er2, er3⟩ := Prod.mk.inj er1
                    clear hf er1
                    subst er0
                    subst er2
                    subst er3
                    exact rt_i Cc hK hP hD hS dX4_copy_106
              · replace hf := (if_neg hc136).symm.trans hf
                refine lv_aload_n hx hb dX4_copy_72 rfl (lv_at hl 2 rfl) ?_
                refine lv_iconst (v := (2 : Int32)) hx hb dX4_copy_73 (by decide) ?_
                obtain ⟨q74_1, hq143, hf⟩ := Option.bind_eq_some_iff.mp hf
                refine cV (ws' := (W_D cI cS a_d a_f a_t a_r a_z a_f_kind a_f_wet a_g a_g_kind a_g_wet a_r_cells a_r_hours a_r_cracked a_s0 a_s0_row a_s1 a_s1_row a_s2 a_s2_row a_s3 a_s3_row d_hour d_traced q74_1.2 f_kind f_wet f_wide f_rows f_cells f_sun f_all f_firstColumn f_lastColumn t_hours t_opened t_firstWrong g_kind g_wet g_wide g_rows g_cells g_sun g_all g_firstColumn g_lastColumn r_cells r_hours r_cracked r_count S_row S_lane S_length)) (rest := []) (st1 := [.int q74_1.1]) Cc hK hA hP hD hS hl.1 (ctX4_faulted l D cI cS a_d a_f a_t a_r a_z d_hour d_traced (0 : Int32) (2 : Int32) n q74_1.1 q74_1.2 hq143) ⟨tw_173, tw_170, tw_172, tp_0, tw_1⟩ mdX4_faulted ⟨rfl, rfl, Nat.le_of_ble_eq_true rfl, Nat.le_of_ble_eq_true rfl⟩ rfl dX4_copy_74 rfl (Nat.le_of_ble_eq_true rfl) ⟨Nat.zero_le _, Nat.zero_le _⟩ rfl rfl rfl [0] [1, 2, 3, 4, 5, 6, 7, 8, 9, 10, 11, 12, 13, 14, 15, 16, 17, 18, 19, 20] [20, 0, 1, 2, 3, 4, 5, 6, 7, 8, 9, 10, 11, 12, 13, 14, 15, 16, 17, 18, 19] rfl rfl (by decide) rfl (fun H locs hP hD hS => ?_)
                replace hf := Option.some.inj hf
                obtain ⟨er0, er1⟩ := Prod.mk.inj hf
                obtain ⟨er2, er3⟩ := Prod.mk.inj er1
                clear hf er1
                subst er0
                subst er2
                subst er3
                exact rt_i Cc hK hP hD hS dX4_copy_77
            · replace hf := (if_neg hc135).symm.trans hf
              refine lv_aload_n hx hb dX4_copy_53 rfl (lv_at hl 2 rfl) ?_
              refine lv_iconst (v := (1 : Int32)) hx hb dX4_copy_54 (by decide) ?_
              obtain ⟨q55_1, hq144, hf⟩ := Option.bind_eq_some_iff.mp hf
              refine cV (ws' := (W_D cI cS a_d a_f a_t a_r a_z a_f_kind a_f_wet a_g a_g_kind a_g_wet a_r_cells a_r_hours a_r_cracked a_s0 a_s0_row a_s1 a_s1_row a_s2 a_s2_row a_s3 a_s3_row d_hour d_traced q55_1.2 f_kind f_wet f_wide f_rows f_cells f_sun f_all f_firstColumn f_lastColumn t_hours t_opened t_firstWrong g_kind g_wet g_wide g_rows g_cells g_sun g_all g_firstColumn g_lastColumn r_cells r_hours r_cracked r_count S_row S_lane S_length)) (rest := []) (st1 := [.int q55_1.1]) Cc hK hA hP hD hS hl.1 (ctX4_faulted l D cI cS a_d a_f a_t a_r a_z d_hour d_traced (0 : Int32) (1 : Int32) n q55_1.1 q55_1.2 hq144) ⟨tw_173, tw_170, tw_172, tp_0, tw_1⟩ mdX4_faulted ⟨rfl, rfl, Nat.le_of_ble_eq_true rfl, Nat.le_of_ble_eq_true rfl⟩ rfl dX4_copy_55 rfl (Nat.le_of_ble_eq_true rfl) ⟨Nat.zero_le _, Nat.zero_le _⟩ rfl rfl rfl [0] [1, 2, 3, 4, 5, 6, 7, 8, 9, 10, 11, 12, 13, 14, 15, 16, 17, 18, 19, 20] [20, 0, 1, 2, 3, 4, 5, 6, 7, 8, 9, 10, 11, 12, 13, 14, 15, 16, 17, 18, 19] rfl rfl (by decide) rfl (fun H locs hP hD hS => ?_)
              replace hf := Option.some.inj hf
              obtain ⟨er0, er1⟩ := Prod.mk.inj hf
              obtain ⟨er2, er3⟩ := Prod.mk.inj er1
              clear hf er1
              subst er0
              subst er2
              subst er3
              exact rt_i Cc hK hP hD hS dX4_copy_58
        · refine W.eq (g2 := F0 m 35 ls [.ref a_s2]) rfl ?_
          refine lv_astore (lv' := [(7, .ref a_s2), (6, .ref a_s2), (0, .ref a_d), (1, .int p1), (2, .int p2), (3, .int p3), (4, .int p4), (5, .int p5)]) hx hb dX4_copy_35 hl (by decide) rfl (fun ls hl => ?_)
          refine lv_aload hx hb dX4_copy_37 (lv_at hl 1 rfl) ?_
          obtain ⟨q39_1, hq145, hf⟩ := Option.bind_eq_some_iff.mp hf
          refine cV (ws' := (W_D cI cS a_d a_f a_t a_r a_z a_f_kind a_f_wet a_g a_g_kind a_g_wet a_r_cells a_r_hours a_r_cracked a_s0 a_s0_row a_s1 a_s1_row a_s2 a_s2_row a_s3 a_s3_row d_hour d_traced (0 : Int32) f_kind f_wet f_wide f_rows f_cells f_sun f_all f_firstColumn f_lastColumn t_hours t_opened t_firstWrong g_kind g_wet g_wide g_rows g_cells g_sun g_all g_firstColumn g_lastColumn r_cells r_hours r_cracked r_count S_row S_lane S_length)) (rest := []) (st1 := [.int q39_1]) Cc hK hA hP hD hS hl.1 (ctX2_isNothing l D cI cS a_s2 a_s2_row (S_row 2) (S_lane 2) (S_length 2)  n q39_1 hq145) ⟨tw_165, tw_428, tw_163, tw_164, tw_5⟩ mdX2_isNothing ⟨rfl, rfl, Nat.le_of_ble_eq_true rfl, Nat.le_of_ble_eq_true rfl⟩ rfl dX4_copy_39 rfl (Nat.le_of_ble_eq_true rfl) ⟨Nat.zero_le _, Nat.zero_le _⟩ rfl rfl rfl [17, 18] [0, 1, 2, 3, 4, 5, 6, 7, 8, 9, 10, 11, 12, 13, 14, 15, 16, 19, 20] [0, 1, 2, 3, 4, 5, 6, 7, 8, 9, 10, 11, 12, 13, 14, 15, 16, 19, 20, 17, 18] rfl rfl (by decide) rfl (fun H locs hP hD hS => ?_)
          refine lv_if_ne (tgt := 53) hx hb dX4_copy_42 (by decide) (fun hc146 => ?_) (fun hc146 => ?_)
          · replace hf := (if_neg hc146).symm.trans hf
            refine lv_aload_n hx hb dX4_copy_53 rfl (lv_at hl 2 rfl) ?_
            refine lv_iconst (v := (1 : Int32)) hx hb dX4_copy_54 (by decide) ?_
            obtain ⟨q55_1, hq147, hf⟩ := Option.bind_eq_some_iff.mp hf
            refine cV (ws' := (W_D cI cS a_d a_f a_t a_r a_z a_f_kind a_f_wet a_g a_g_kind a_g_wet a_r_cells a_r_hours a_r_cracked a_s0 a_s0_row a_s1 a_s1_row a_s2 a_s2_row a_s3 a_s3_row d_hour d_traced q55_1.2 f_kind f_wet f_wide f_rows f_cells f_sun f_all f_firstColumn f_lastColumn t_hours t_opened t_firstWrong g_kind g_wet g_wide g_rows g_cells g_sun g_all g_firstColumn g_lastColumn r_cells r_hours r_cracked r_count S_row S_lane S_length)) (rest := []) (st1 := [.int q55_1.1]) Cc hK hA hP hD hS hl.1 (ctX4_faulted l D cI cS a_d a_f a_t a_r a_z d_hour d_traced (0 : Int32) (1 : Int32) n q55_1.1 q55_1.2 hq147) ⟨tw_173, tw_170, tw_172, tp_0, tw_1⟩ mdX4_faulted ⟨rfl, rfl, Nat.le_of_ble_eq_true rfl, Nat.le_of_ble_eq_true rfl⟩ rfl dX4_copy_55 rfl (Nat.le_of_ble_eq_true rfl) ⟨Nat.zero_le _, Nat.zero_le _⟩ rfl rfl rfl [0] [1, 2, 3, 4, 5, 6, 7, 8, 9, 10, 11, 12, 13, 14, 15, 16, 17, 18, 19, 20] [20, 0, 1, 2, 3, 4, 5, 6, 7, 8, 9, 10, 11, 12, 13, 14, 15, 16, 17, 18, 19] rfl rfl (by decide) rfl (fun H locs hP hD hS => ?_)
            replace hf := Option.some.inj hf
            obtain ⟨er0, er1⟩ := Prod.mk.inj hf
            obtain ⟨er2, er3⟩ := Prod.mk.inj er1
            clear hf er1
            subst er0
            subst er2
            subst er3
            exact rt_i Cc hK hP hD hS dX4_copy_58
          · replace hf := (if_pos hc146).symm.trans hf
            refine lv_aload hx hb dX4_copy_45 (lv_at hl 0 rfl) ?_
            obtain ⟨q47_1, hq148, hf⟩ := Option.bind_eq_some_iff.mp hf
            refine cV (ws' := (W_D cI cS a_d a_f a_t a_r a_z a_f_kind a_f_wet a_g a_g_kind a_g_wet a_r_cells a_r_hours a_r_cracked a_s0 a_s0_row a_s1 a_s1_row a_s2 a_s2_row a_s3 a_s3_row d_hour d_traced (0 : Int32) f_kind f_wet f_wide f_rows f_cells f_sun f_all f_firstColumn f_lastColumn t_hours t_opened t_firstWrong g_kind g_wet g_wide g_rows g_cells g_sun g_all g_firstColumn g_lastColumn r_cells r_hours r_cracked r_count S_row S_lane S_length)) (rest := []) (st1 := [.int q47_1]) Cc hK hA hP hD hS hl.1 (ctX2_isNothing l D cI cS a_s2 a_s2_row (S_row 2) (S_lane 2) (S_length 2)  n q47_1 hq148) ⟨tw_165, tw_428, tw_163, tw_164, tw_5⟩ mdX2_isNothing ⟨rfl, rfl, Nat.le_of_ble_eq_true rfl, Nat.le_of_ble_eq_true rfl⟩ rfl dX4_copy_47 rfl (Nat.le_of_ble_eq_true rfl) ⟨Nat.zero_le _, Nat.zero_le _⟩ rfl rfl rfl [17, 18] [0, 1, 2, 3, 4, 5, 6, 7, 8, 9, 10, 11, 12, 13, 14, 15, 16, 19, 20] [0, 1, 2, 3, 4, 5, 6, 7, 8, 9, 10, 11, 12, 13, 14, 15, 16, 19, 20, 17, 18] rfl rfl (by decide) rfl (fun H locs hP hD hS => ?_)
            refine lv_if_eq (tgt := 59) hx hb dX4_copy_50 (by decide) (fun hc149 => ?_) (fun hc149 => ?_)
            · replace hf := (if_pos hc149).symm.trans hf
              refine lv_aload hx hb dX4_copy_59 (lv_at hl 1 rfl) ?_
              refine va_getN (D := D) (ci := 2) (v := .int (S_lane 2)) (C := RX2) (T := TX2) (N := 3) hx hb hts inX2 hown hK hP 17 rfl rfl 1 (by decide) (va_Nw.use rfl (hnw _ nn_12)) (fun _ h9 => h9) rfl dX4_copy_61 ?_
              refine lv_aload hx hb dX4_copy_64 (lv_at hl 0 rfl) ?_
              refine va_getN (D := D) (ci := 2) (v := .int (S_lane 2)) (C := RX2) (T := TX2) (N := 3) hx hb hts inX2 hown hK hP 17 rfl rfl 1 (by decide) (va_Nw.use rfl (hnw _ nn_12)) (fun _ h9 => h9) rfl dX4_copy_66 ?_
              refine lv_icmp_eq (tgt := 78) hx hb dX4_copy_69 (by decide) (fun hc150 => ?_) (fun hc150 => ?_)
              · replace hf := (if_pos hc150).symm.trans hf
                refine lv_aload hx hb dX4_copy_78 (lv_at hl 1 rfl) ?_
                refine lv_iload_n hx hb dX4_copy_80 rfl (lv_at hl 4 rfl) ?_
                refine lv_iload hx hb dX4_copy_81 (lv_at hl 7 rfl) ?_
                obtain ⟨q83_1, hq151, hf⟩ := Option.bind_eq_some_iff.mp hf
                refine cV (ws' := (W_D cI cS a_d a_f a_t a_r a_z a_f_kind a_f_wet a_g a_g_kind a_g_wet a_r_cells a_r_hours a_r_cracked a_s0 a_s0_row a_s1 a_s1_row a_s2 a_s2_row a_s3 a_s3_row d_hour d_traced (0 : Int32) f_kind f_wet f_wide f_rows f_cells f_sun f_all f_firstColumn f_lastColumn t_hours t_opened t_firstWrong g_kind g_wet g_wide g_rows g_cells g_sun g_all g_firstColumn g_lastColumn r_cells r_hours r_cracked r_count S_row S_lane S_length)) (rest := []) (st1 := [.int q83_1]) Cc hK hA hP hD hS hl.1 (ctX2_has l D cI cS a_s2 a_s2_row (S_row 2) (S_lane 2) (S_length 2) p2 p5 n q83_1 hq151) ⟨tw_169, tw_166, tw_167, tw_168, tw_5⟩ mdX2_has ⟨rfl, rfl, Nat.le_of_ble_eq_true rfl, Nat.le_of_ble_eq_true rfl⟩ rfl dX4_copy_83 rfl (Nat.le_of_ble_eq_true rfl) ⟨Nat.zero_le _, Nat.zero_le _⟩ rfl rfl rfl [17, 18] [0, 1, 2, 3, 4, 5, 6, 7, 8, 9, 10, 11, 12, 13, 14, 15, 16, 19, 20] [0, 1, 2, 3, 4, 5, 6, 7, 8, 9, 10, 11, 12, 13, 14, 15, 16, 19, 20, 17, 18] rfl rfl (by decide) rfl (fun H locs hP hD hS => ?_)
                refine lv_if_eq (tgt := 101) hx hb dX4_copy_86 (by decide) (fun hc152 => ?_) (fun hc152 => ?_)
                · replace hf := (if_pos hc152).symm.trans hf
                  refine lv_aload_n hx hb dX4_copy_101 rfl (lv_at hl 2 rfl) ?_
                  refine lv_iconst (v := (3 : Int32)) hx hb dX4_copy_102 (by decide) ?_
                  obtain ⟨q103_1, hq153, hf⟩ := Option.bind_eq_some_iff.mp hf
                  refine cV (ws' := (W_D cI cS a_d a_f a_t a_r a_z a_f_kind a_f_wet a_g a_g_kind a_g_wet a_r_cells a_r_hours a_r_cracked a_s0 a_s0_row a_s1 a_s1_row a_s2 a_s2_row a_s3 a_s3_row d_hour d_traced q103_1.2 f_kind f_wet f_wide f_rows f_cells f_sun f_all f_firstColumn f_lastColumn t_hours t_opened t_firstWrong g_kind g_wet g_wide g_rows g_cells g_sun g_all g_firstColumn g_lastColumn r_cells r_hours r_cracked r_count S_row S_lane S_length)) (rest := []) (st1 := [.int q103_1.1]) Cc hK hA hP hD hS hl.1 (ctX4_faulted l D cI cS a_d a_f a_t a_r a_z d_hour d_traced (0 : Int32) (3 : Int32) n q103_1.1 q103_1.2 hq153) ⟨tw_173, tw_170, tw_172, tp_0, tw_1⟩ mdX4_faulted ⟨rfl, rfl, Nat.le_of_ble_eq_true rfl, Nat.le_of_ble_eq_true rfl⟩ rfl dX4_copy_103 rfl (Nat.le_of_ble_eq_true rfl) ⟨Nat.zero_le _, Nat.zero_le _⟩ rfl rfl rfl [0] [1, 2, 3, 4, 5, 6, 7, 8, 9, 10, 11, 12, 13, 14, 15, 16, 17, 18, 19, 20] [20, 0, 1, 2, 3, 4, 5, 6, 7, 8, 9, 10, 11, 12, 13, 14, 15, 16, 17, 18, 19] rfl rfl (by decide) rfl (fun H locs hP hD hS => ?_)
                  replace hf := Option.some.inj hf
                  obtain ⟨er0, er1⟩ := Prod.mk.inj hf
                  obtain ⟨er2, er3⟩ := Prod.mk.inj er1
                  clear hf er1
                  subst er0
                  subst er2
                  subst er3
                  exact rt_i Cc hK hP hD hS dX4_copy_106
                · replace hf := (if_neg hc152).symm.trans hf
                  refine lv_aload hx hb dX4_copy_89 (lv_at hl 0 rfl) ?_
                  refine lv_iload hx hb dX4_copy_91 (lv_at hl 6 rfl) ?_
                  refine lv_iload hx hb dX4_copy_93 (lv_at hl 7 rfl) ?_
                  obtain ⟨q95_1, hq154, hf⟩ := Option.bind_eq_some_iff.mp hf
                  refine cV (ws' := (W_D cI cS a_d a_f a_t a_r a_z a_f_kind a_f_wet a_g a_g_kind a_g_wet a_r_cells a_r_hours a_r_cracked a_s0 a_s0_row a_s1 a_s1_row a_s2 a_s2_row a_s3 a_s3_row d_hour d_traced (0 : Int32) f_kind f_wet f_wide f_rows f_cells f_sun f_all f_firstColumn f_lastColumn t_hours t_opened t_firstWrong g_kind g_wet g_wide g_rows g_cells g_sun g_all g_firstColumn g_lastColumn r_cells r_hours r_cracked r_count S_row S_lane S_length)) (rest := []) (st1 := [.int q95_1]) Cc hK hA hP hD hS hl.1 (ctX2_has l D cI cS a_s2 a_s2_row (S_row 2) (S_lane 2) (S_length 2) p4 p5 n q95_1 hq154) ⟨tw_169, tw_166, tw_167, tw_168, tw_5⟩ mdX2_has ⟨rfl, rfl, Nat.le_of_ble_eq_true rfl, Nat.le_of_ble_eq_true rfl⟩ rfl dX4_copy_95 rfl (Nat.le_of_ble_eq_true rfl) ⟨Nat.zero_le _, Nat.zero_le _⟩ rfl rfl rfl [17, 18] [0, 1, 2, 3, 4, 5, 6, 7, 8, 9, 10, 11, 12, 13, 14, 15, 16, 19, 20] [0, 1, 2, 3, 4, 5, 6, 7, 8, 9, 10, 11, 12, 13, 14, 15, 16, 19, 20, 17, 18] rfl rfl (by decide) rfl (fun H locs hP hD hS => ?_)
                  refine lv_if_ne (tgt := 107) hx hb dX4_copy_98 (by decide) (fun hc155 => ?_) (fun hc155 => ?_)
                  · replace hf := (if_neg hc155).symm.trans hf
                    refine lv_aload hx hb dX4_copy_107 (lv_at hl 1 rfl) ?_
                    refine va_getN (D := D) (ci := 2) (v := .ref a_s2_row) (C := RX2) (T := TX2) (N := 3) hx hb hts inX2 hown hK hP 17 rfl rfl 0 (by decide) (va_Nw.use rfl (hnw _ nn_11)) (fun _ h9 => h9) rfl dX4_copy_109 ?_
                    refine lv_iload_n hx hb dX4_copy_112 rfl (lv_at hl 4 rfl) ?_
                    refine lv_aload hx hb dX4_copy_113 (lv_at hl 0 rfl) ?_
                    refine va_getN (D := D) (ci := 2) (v := .ref a_s2_row) (C := RX2) (T := TX2) (N := 3) hx hb hts inX2 hown hK hP 17 rfl rfl 0 (by decide) (va_Nw.use rfl (hnw _ nn_11)) (fun _ h9 => h9) rfl dX4_copy_115 ?_
                    refine lv_iload hx hb dX4_copy_118 (lv_at hl 6 rfl) ?_
                    refine lv_iload hx hb dX4_copy_120 (lv_at hl 7 rfl) ?_
                    obtain ⟨⟨g1, g2, g3, g4, g5⟩, hf⟩ := cpg_some hf
                    refine va_copyi hx hb (hml.trans hl.1.symm) hown (hts _ tw_454) (hts _ tw_native) (hts _ tw_455) (hts _ tw_9) hK hP hD hS 18 18 0 0 rfl rfl rfl rfl rfl g1 g2 g3 g4 g5 (fun _ _ => rfl) (Nat.le_of_ble_eq_true rfl) (Nat.le_of_ble_eq_true rfl) dX4_copy_122 (fun H locs hP hD hS => ?_)
                    have hP : va_P D classes (W_D cI cS a_d a_f a_t a_r a_z a_f_kind a_f_wet a_g a_g_kind a_g_wet a_r_cells a_r_hours a_r_cracked a_s0 a_s0_row a_s1 a_s1_row a_s2 a_s2_row a_s3 a_s3_row d_hour d_traced (0 : Int32) f_kind f_wet f_wide f_rows f_cells f_sun f_all f_firstColumn f_lastColumn t_hours t_opened t_firstWrong g_kind g_wet g_wide g_rows g_cells g_sun g_all g_firstColumn g_lastColumn r_cells r_hours r_cracked r_count (va_up S_row 2 (va_cpy (S_row 2) (S_row 2) p2.toNatClampNeg p4.toNatClampNeg p5.toNatClampNeg)) S_lane S_length) H := hP
                    have hD : va_D A (W_D cI cS a_d a_f a_t a_r a_z a_f_kind a_f_wet a_g a_g_kind a_g_wet a_r_cells a_r_hours a_r_cracked a_s0 a_s0_row a_s1 a_s1_row a_s2 a_s2_row a_s3 a_s3_row d_hour d_traced (0 : Int32) f_kind f_wet f_wide f_rows f_cells f_sun f_all f_firstColumn f_lastColumn t_hours t_opened t_firstWrong g_kind g_wet g_wide g_rows g_cells g_sun g_all g_firstColumn g_lastColumn r_cells r_hours r_cracked r_count (va_up S_row 2 (va_cpy (S_row 2) (S_row 2) p2.toNatClampNeg p4.toNatClampNeg p5.toNatClampNeg)) S_lane S_length) := hD
                    refine lv_iload hx hb dX4_copy_125 (lv_at hl 7 rfl) ?_
                    replace hf := Option.some.inj hf
                    obtain ⟨er0, er1⟩ := Prod.mk.inj hf
                    obtain ⟨er2, er3⟩ := Prod.mk.inj er1
                    clear hf er1
                    subst er0
                    subst er2
                    subst er3
                    exact rt_i Cc hK hP hD hS dX4_copy_127
                  · replace hf := (if_pos hc155).symm.trans hf
                    refine lv_aload_n hx hb dX4_copy_101 rfl (lv_at hl 2 rfl) ?_
                    refine lv_iconst (v := (3 : Int32)) hx hb dX4_copy_102 (by decide) ?_
                    obtain ⟨q103_1, hq156, hf⟩ := Option.bind_eq_some_iff.mp hf
                    refine cV (ws' := (W_D cI cS a_d a_f a_t a_r a_z a_f_kind a_f_wet a_g a_g_kind a_g_wet a_r_cells a_r_hours a_r_cracked a_s0 a_s0_row a_s1 a_s1_row a_s2 a_s2_row a_s3 a_s3_row d_hour d_traced q103_1.2 f_kind f_wet f_wide f_rows f_cells f_sun f_all f_firstColumn f_lastColumn t_hours t_opened t_firstWrong g_kind g_wet g_wide g_rows g_cells g_sun g_all g_firstColumn g_lastColumn r_cells r_hours r_cracked r_count S_row S_lane S_length)) (rest := []) (st1 := [.int q103_1.1]) Cc hK hA hP hD hS hl.1 (ctX4_faulted l D cI cS a_d a_f a_t a_r a_z d_hour d_traced (0 : Int32) (3 : Int32) n q103_1.1 q103_1.2 hq156) ⟨tw_173, tw_170, tw_172, tp_0, tw_1⟩ mdX4_faulted ⟨rfl, rfl, Nat.le_of_ble_eq_true rfl, Nat.le_of_ble_eq_true rfl⟩ rfl dX4_copy_103 rfl (Nat.le_of_ble_eq_true rfl) ⟨Nat.zero_le _, Nat.zero_le _⟩ rfl rfl rfl [0] [1, 2, 3, 4, 5, 6, 7, 8, 9, 10, 11, 12, 13, 14, 15, 16, 17, 18, 19, 20] [20, 0, 1, 2, 3, 4, 5, 6, 7, 8, 9, 10, 11, 12, 13, 14, 15, 16, 17, 18, 19] rfl rfl (by decide) rfl (fun H locs hP hD hS => ?_)
                    replace hf := Option.some.inj hf
                    obtain ⟨er0, er1⟩ := Prod.mk.inj hf
                    obtain ⟨er2, er3⟩ := Prod.mk.inj er1
                    clear hf er1
                    subst er0
                    subst er2
                    subst er3
                    exact rt_i Cc hK hP hD hS dX4_copy_106
              · replace hf := (if_neg hc150).symm.trans hf
                refine lv_aload_n hx hb dX4_copy_72 rfl (lv_at hl 2 rfl) ?_
                refine lv_iconst (v := (2 : Int32)) hx hb dX4_copy_73 (by decide) ?_
                obtain ⟨q74_1, hq157, hf⟩ := Option.bind_eq_some_iff.mp hf
                refine cV (ws' := (W_D cI cS a_d a_f a_t a_r a_z a_f_kind a_f_wet a_g a_g_kind a_g_wet a_r_cells a_r_hours a_r_cracked a_s0 a_s0_row a_s1 a_s1_row a_s2 a_s2_row a_s3 a_s3_row d_hour d_traced q74_1.2 f_kind f_wet f_wide f_rows f_cells f_sun f_all f_firstColumn f_lastColumn t_hours t_opened t_firstWrong g_kind g_wet g_wide g_rows g_cells g_sun g_all g_firstColumn g_lastColumn r_cells r_hours r_cracked r_count S_row S_lane S_length)) (rest := []) (st1 := [.int q74_1.1]) Cc hK hA hP hD hS hl.1 (ctX4_faulted l D cI cS a_d a_f a_t a_r a_z d_hour d_traced (0 : Int32) (2 : Int32) n q74_1.1 q74_1.2 hq157) ⟨tw_173, tw_170, tw_172, tp_0, tw_1⟩ mdX4_faulted ⟨rfl, rfl, Nat.le_of_ble_eq_true rfl, Nat.le_of_ble_eq_true rfl⟩ rfl dX4_copy_74 rfl (Nat.le_of_ble_eq_true rfl) ⟨Nat.zero_le _, Nat.zero_le _⟩ rfl rfl rfl [0] [1, 2, 3, 4, 5, 6, 7, 8, 9, 10, 11, 12, 13, 14, 15, 16, 17, 18, 19, 20] [20, 0, 1, 2, 3, 4, 5, 6, 7, 8, 9, 10, 11, 12, 13, 14, 15, 16, 17, 18, 19] rfl rfl (by decide) rfl (fun H locs hP hD hS => ?_)
                replace hf := Option.some.inj hf
                obtain ⟨er0, er1⟩ := Prod.mk.inj hf
                obtain ⟨er2, er3⟩ := Prod.mk.inj er1
                clear hf er1
                subst er0
                subst er2
                subst er3
                exact rt_i Cc hK hP hD hS dX4_copy_77
            · replace hf := (if_neg hc149).symm.trans hf
              refine lv_aload_n hx hb dX4_copy_53 rfl (lv_at hl 2 rfl) ?_
              refine lv_iconst (v := (1 : Int32)) hx hb dX4_copy_54 (by decide) ?_
              obtain ⟨q55_1, hq158, hf⟩ := Option.bind_eq_some_iff.mp hf
              refine cV (ws' := (W_D cI cS a_d a_f a_t a_r a_z a_f_kind a_f_wet a_g a_g_kind a_g_wet a_r_cells a_r_hours a_r_cracked a_s0 a_s0_row a_s1 a_s1_row a_s2 a_s2_row a_s3 a_s3_row d_hour d_traced q55_1.2 f_kind f_wet f_wide f_rows f_cells f_sun f_all f_firstColumn f_lastColumn t_hours t_opened t_firstWrong g_kind g_wet g_wide g_rows g_cells g_sun g_all g_firstColumn g_lastColumn r_cells r_hours r_cracked r_count S_row S_lane S_length)) (rest := []) (st1 := [.int q55_1.1]) Cc hK hA hP hD hS hl.1 (ctX4_faulted l D cI cS a_d a_f a_t a_r a_z d_hour d_traced (0 : Int32) (1 : Int32) n q55_1.1 q55_1.2 hq158) ⟨tw_173, tw_170, tw_172, tp_0, tw_1⟩ mdX4_faulted ⟨rfl, rfl, Nat.le_of_ble_eq_true rfl, Nat.le_of_ble_eq_true rfl⟩ rfl dX4_copy_55 rfl (Nat.le_of_ble_eq_true rfl) ⟨Nat.zero_le _, Nat.zero_le _⟩ rfl rfl rfl [0] [1, 2, 3, 4, 5, 6, 7, 8, 9, 10, 11, 12, 13, 14, 15, 16, 17, 18, 19, 20] [20, 0, 1, 2, 3, 4, 5, 6, 7, 8, 9, 10, 11, 12, 13, 14, 15, 16, 17, 18, 19] rfl rfl (by decide) rfl (fun H locs hP hD hS => ?_)
              replace hf := Option.some.inj hf
              obtain ⟨er0, er1⟩ := Prod.mk.inj hf
              obtain ⟨er2, er3⟩ := Prod.mk.inj er1
              clear hf er1
              subst er0
              subst er2
              subst er3
              exact rt_i Cc hK hP hD hS dX4_copy_58
        · refine W.eq (g2 := F0 m 35 ls [.ref a_s3]) rfl ?_
          refine lv_astore (lv' := [(7, .ref a_s3), (6, .ref a_s2), (0, .ref a_d), (1, .int p1), (2, .int p2), (3, .int p3), (4, .int p4), (5, .int p5)]) hx hb dX4_copy_35 hl (by decide) rfl (fun ls hl => ?_)
          refine lv_aload hx hb dX4_copy_37 (lv_at hl 1 rfl) ?_
          obtain ⟨q39_1, hq159, hf⟩ := Option.bind_eq_some_iff.mp hf
          refine cV (ws' := (W_D cI cS a_d a_f a_t a_r a_z a_f_kind a_f_wet a_g a_g_kind a_g_wet a_r_cells a_r_hours a_r_cracked a_s0 a_s0_row a_s1 a_s1_row a_s2 a_s2_row a_s3 a_s3_row d_hour d_traced (0 : Int32) f_kind f_wet f_wide f_rows f_cells f_sun f_all f_firstColumn f_lastColumn t_hours t_opened t_firstWrong g_kind g_wet g_wide g_rows g_cells g_sun g_all g_firstColumn g_lastColumn r_cells r_hours r_cracked r_count S_row S_lane S_length)) (rest := []) (st1 := [.int q39_1]) Cc hK hA hP hD hS hl.1 (ctX2_isNothing l D cI cS a_s2 a_s2_row (S_row 2) (S_lane 2) (S_length 2)  n q39_1 hq159) ⟨tw_165, tw_428, tw_163, tw_164, tw_5⟩ mdX2_isNothing ⟨rfl, rfl, Nat.le_of_ble_eq_true rfl, Nat.le_of_ble_eq_true rfl⟩ rfl dX4_copy_39 rfl (Nat.le_of_ble_eq_true rfl) ⟨Nat.zero_le _, Nat.zero_le _⟩ rfl rfl rfl [17, 18] [0, 1, 2, 3, 4, 5, 6, 7, 8, 9, 10, 11, 12, 13, 14, 15, 16, 19, 20] [0, 1, 2, 3, 4, 5, 6, 7, 8, 9, 10, 11, 12, 13, 14, 15, 16, 19, 20, 17, 18] rfl rfl (by decide) rfl (fun H locs hP hD hS => ?_)
          refine lv_if_ne (tgt := 53) hx hb dX4_copy_42 (by decide) (fun hc160 => ?_) (fun hc160 => ?_)
          · replace hf := (if_neg hc160).symm.trans hf
            refine lv_aload_n hx hb dX4_copy_53 rfl (lv_at hl 2 rfl) ?_
            refine lv_iconst (v := (1 : Int32)) hx hb dX4_copy_54 (by decide) ?_
            obtain ⟨q55_1, hq161, hf⟩ := Option.bind_eq_some_iff.mp hf
            refine cV (ws' := (W_D cI cS a_d a_f a_t a_r a_z a_f_kind a_f_wet a_g a_g_kind a_g_wet a_r_cells a_r_hours a_r_cracked a_s0 a_s0_row a_s1 a_s1_row a_s2 a_s2_row a_s3 a_s3_row d_hour d_traced q55_1.2 f_kind f_wet f_wide f_rows f_cells f_sun f_all f_firstColumn f_lastColumn t_hours t_opened t_firstWrong g_kind g_wet g_wide g_rows g_cells g_sun g_all g_firstColumn g_lastColumn r_cells r_hours r_cracked r_count S_row S_lane S_length)) (rest := []) (st1 := [.int q55_1.1]) Cc hK hA hP hD hS hl.1 (ctX4_faulted l D cI cS a_d a_f a_t a_r a_z d_hour d_traced (0 : Int32) (1 : Int32) n q55_1.1 q55_1.2 hq161) ⟨tw_173, tw_170, tw_172, tp_0, tw_1⟩ mdX4_faulted ⟨rfl, rfl, Nat.le_of_ble_eq_true rfl, Nat.le_of_ble_eq_true rfl⟩ rfl dX4_copy_55 rfl (Nat.le_of_ble_eq_true rfl) ⟨Nat.zero_le _, Nat.zero_le _⟩ rfl rfl rfl [0] [1, 2, 3, 4, 5, 6, 7, 8, 9, 10, 11, 12, 13, 14, 15, 16, 17, 18, 19, 20] [20, 0, 1, 2, 3, 4, 5, 6, 7, 8, 9, 10, 11, 12, 13, 14, 15, 16, 17, 18, 19] rfl rfl (by decide) rfl (fun H locs hP hD hS => ?_)
            replace hf := Option.some.inj hf
            obtain ⟨er0, er1⟩ := Prod.mk.inj hf
            obtain ⟨er2, er3⟩ := Prod.mk.inj er1
            clear hf er1
            subst er0
            subst er2
            subst er3
            exact rt_i Cc hK hP hD hS dX4_copy_58
          · replace hf := (if_pos hc160).symm.trans hf
            refine lv_aload hx hb dX4_copy_45 (lv_at hl 0 rfl) ?_
            obtain ⟨q47_1, hq162, hf⟩ := Option.bind_eq_some_iff.mp hf
            refine cV (ws' := (W_D cI cS a_d a_f a_t a_r a_z a_f_kind a_f_wet a_g a_g_kind a_g_wet a_r_cells a_r_hours a_r_cracked a_s0 a_s0_row a_s1 a_s1_row a_s2 a_s2_row a_s3 a_s3_row d_hour d_traced (0 : Int32) f_kind f_wet f_wide f_rows f_cells f_sun f_all f_firstColumn f_lastColumn t_hours t_opened t_firstWrong g_kind g_wet g_wide g_rows g_cells g_sun g_all g_firstColumn g_lastColumn r_cells r_hours r_cracked r_count S_row S_lane S_length)) (rest := []) (st1 := [.int q47_1]) Cc hK hA hP hD hS hl.1 (ctX2_isNothing l D cI cS a_s3 a_s3_row (S_row 3) (S_lane 3) (S_length 3)  n q47_1 hq162) ⟨tw_165, tw_428, tw_163, tw_164, tw_5⟩ mdX2_isNothing ⟨rfl, rfl, Nat.le_of_ble_eq_true rfl, Nat.le_of_ble_eq_true rfl⟩ rfl dX4_copy_47 rfl (Nat.le_of_ble_eq_true rfl) ⟨Nat.zero_le _, Nat.zero_le _⟩ rfl rfl rfl [19, 20] [0, 1, 2, 3, 4, 5, 6, 7, 8, 9, 10, 11, 12, 13, 14, 15, 16, 17, 18] [0, 1, 2, 3, 4, 5, 6, 7, 8, 9, 10, 11, 12, 13, 14, 15, 16, 17, 18, 19, 20] rfl rfl (by decide) rfl (fun H locs hP hD hS => ?_)
            refine lv_if_eq (tgt := 59) hx hb dX4_copy_50 (by decide) (fun hc163 => ?_) (fun hc163 => ?_)
            · replace hf := (if_pos hc163).symm.trans hf
              refine lv_aload hx hb dX4_copy_59 (lv_at hl 1 rfl) ?_
              refine va_getN (D := D) (ci := 2) (v := .int (S_lane 2)) (C := RX2) (T := TX2) (N := 3) hx hb hts inX2 hown hK hP 17 rfl rfl 1 (by decide) (va_Nw.use rfl (hnw _ nn_12)) (fun _ h9 => h9) rfl dX4_copy_61 ?_
              refine lv_aload hx hb dX4_copy_64 (lv_at hl 0 rfl) ?_
              refine va_getN (D := D) (ci := 2) (v := .int (S_lane 3)) (C := RX2) (T := TX2) (N := 3) hx hb hts inX2 hown hK hP 19 rfl rfl 1 (by decide) (va_Nw.use rfl (hnw _ nn_12)) (fun _ h9 => h9) rfl dX4_copy_66 ?_
              refine lv_icmp_eq (tgt := 78) hx hb dX4_copy_69 (by decide) (fun hc164 => ?_) (fun hc164 => ?_)
              · replace hf := (if_pos hc164).symm.trans hf
                refine lv_aload hx hb dX4_copy_78 (lv_at hl 1 rfl) ?_
                refine lv_iload_n hx hb dX4_copy_80 rfl (lv_at hl 4 rfl) ?_
                refine lv_iload hx hb dX4_copy_81 (lv_at hl 7 rfl) ?_
                obtain ⟨q83_1, hq165, hf⟩ := Option.bind_eq_some_iff.mp hf
                refine cV (ws' := (W_D cI cS a_d a_f a_t a_r a_z a_f_kind a_f_wet a_g a_g_kind a_g_wet a_r_cells a_r_hours a_r_cracked a_s0 a_s0_row a_s1 a_s1_row a_s2 a_s2_row a_s3 a_s3_row d_hour d_traced (0 : Int32) f_kind f_wet f_wide f_rows f_cells f_sun f_all f_firstColumn f_lastColumn t_hours t_opened t_firstWrong g_kind g_wet g_wide g_rows g_cells g_sun g_all g_firstColumn g_lastColumn r_cells r_hours r_cracked r_count S_row S_lane S_length)) (rest := []) (st1 := [.int q83_1]) Cc hK hA hP hD hS hl.1 (ctX2_has l D cI cS a_s2 a_s2_row (S_row 2) (S_lane 2) (S_length 2) p2 p5 n q83_1 hq165) ⟨tw_169, tw_166, tw_167, tw_168, tw_5⟩ mdX2_has ⟨rfl, rfl, Nat.le_of_ble_eq_true rfl, Nat.le_of_ble_eq_true rfl⟩ rfl dX4_copy_83 rfl (Nat.le_of_ble_eq_true rfl) ⟨Nat.zero_le _, Nat.zero_le _⟩ rfl rfl rfl [17, 18] [0, 1, 2, 3, 4, 5, 6, 7, 8, 9, 10, 11, 12, 13, 14, 15, 16, 19, 20] [0, 1, 2, 3, 4, 5, 6, 7, 8, 9, 10, 11, 12, 13, 14, 15, 16, 19, 20, 17, 18] rfl rfl (by decide) rfl (fun H locs hP hD hS => ?_)
                refine lv_if_eq (tgt := 101) hx hb dX4_copy_86 (by decide) (fun hc166 => ?_) (fun hc166 => ?_)
                · replace hf := (if_pos hc166).symm.trans hf
                  refine lv_aload_n hx hb dX4_copy_101 rfl (lv_at hl 2 rfl) ?_
                  refine lv_iconst (v := (3 : Int32)) hx hb dX4_copy_102 (by decide) ?_
                  obtain ⟨q103_1, hq167, hf⟩ := Option.bind_eq_some_iff.mp hf
                  refine cV (ws' := (W_D cI cS a_d a_f a_t a_r a_z a_f_kind a_f_wet a_g a_g_kind a_g_wet a_r_cells a_r_hours a_r_cracked a_s0 a_s0_row a_s1 a_s1_row a_s2 a_s2_row a_s3 a_s3_row d_hour d_traced q103_1.2 f_kind f_wet f_wide f_rows f_cells f_sun f_all f_firstColumn f_lastColumn t_hours t_opened t_firstWrong g_kind g_wet g_wide g_rows g_cells g_sun g_all g_firstColumn g_lastColumn r_cells r_hours r_cracked r_count S_row S_lane S_length)) (rest := []) (st1 := [.int q103_1.1]) Cc hK hA hP hD hS hl.1 (ctX4_faulted l D cI cS a_d a_f a_t a_r a_z d_hour d_traced (0 : Int32) (3 : Int32) n q103_1.1 q103_1.2 hq167) ⟨tw_173, tw_170, tw_172, tp_0, tw_1⟩ mdX4_faulted ⟨rfl, rfl, Nat.le_of_ble_eq_true rfl, Nat.le_of_ble_eq_true rfl⟩ rfl dX4_copy_103 rfl (Nat.le_of_ble_eq_true rfl) ⟨Nat.zero_le _, Nat.zero_le _⟩ rfl rfl rfl [0] [1, 2, 3, 4, 5, 6, 7, 8, 9, 10, 11, 12, 13, 14, 15, 16, 17, 18, 19, 20] [20, 0, 1, 2, 3, 4, 5, 6, 7, 8, 9, 10, 11, 12, 13, 14, 15, 16, 17, 18, 19] rfl rfl (by decide) rfl (fun H locs hP hD hS => ?_)
                  replace hf := Option.some.inj hf
                  obtain ⟨er0, er1⟩ := Prod.mk.inj hf
                  obtain ⟨er2, er3⟩ := Prod.mk.inj er1
                  clear hf er1
                  subst er0
                  subst er2
                  subst er3
                  exact rt_i Cc hK hP hD hS dX4_copy_106
                · replace hf := (if_neg hc166).symm.trans hf
                  refine lv_aload hx hb dX4_copy_89 (lv_at hl 0 rfl) ?_
                  refine lv_iload hx hb dX4_copy_91 (lv_at hl 6 rfl) ?_
                  refine lv_iload hx hb dX4_copy_93 (lv_at hl 7 rfl) ?_
                  obtain ⟨q95_1, hq168, hf⟩ := Option.bind_eq_some_iff.mp hf
                  refine cV (ws' := (W_D cI cS a_d a_f a_t a_r a_z a_f_kind a_f_wet a_g a_g_kind a_g_wet a_r_cells a_r_hours a_r_cracked a_s0 a_s0_row a_s1 a_s1_row a_s2 a_s2_row a_s3 a_s3_row d_hour d_traced (0 : Int32) f_kind f_wet f_wide f_rows f_cells f_sun f_all f_firstColumn f_lastColumn t_hours t_opened t_firstWrong g_kind g_wet g_wide g_rows g_cells g_sun g_all g_firstColumn g_lastColumn r_cells r_hours r_cracked r_count S_row S_lane S_length)) (rest := []) (st1 := [.int q95_1]) Cc hK hA hP hD hS hl.1 (ctX2_has l D cI cS a_s3 a_s3_row (S_row 3) (S_lane 3) (S_length 3) p4 p5 n q95_1 hq168) ⟨tw_169, tw_166, tw_167, tw_168, tw_5⟩ mdX2_has ⟨rfl, rfl, Nat.le_of_ble_eq_true rfl, Nat.le_of_ble_eq_true rfl⟩ rfl dX4_copy_95 rfl (Nat.le_of_ble_eq_true rfl) ⟨Nat.zero_le _, Nat.zero_le _⟩ rfl rfl rfl [19, 20] [0, 1, 2, 3, 4, 5, 6, 7, 8, 9, 10, 11, 12, 13, 14, 15, 16, 17, 18] [0, 1, 2, 3, 4, 5, 6, 7, 8, 9, 10, 11, 12, 13, 14, 15, 16, 17, 18, 19, 20] rfl rfl (by decide) rfl (fun H locs hP hD hS => ?_)
                  refine lv_if_ne (tgt := 107) hx hb dX4_copy_98 (by decide) (fun hc169 => ?_) (fun hc169 => ?_)
                  · replace hf := (if_neg hc169).symm.trans hf
                    refine lv_aload hx hb dX4_copy_107 (lv_at hl 1 rfl) ?_
                    refine va_getN (D := D) (ci := 2) (v := .ref a_s2_row) (C := RX2) (T := TX2) (N := 3) hx hb hts inX2 hown hK hP 17 rfl rfl 0 (by decide) (va_Nw.use rfl (hnw _ nn_11)) (fun _ h9 => h9) rfl dX4_copy_109 ?_
                    refine lv_iload_n hx hb dX4_copy_112 rfl (lv_at hl 4 rfl) ?_
                    refine lv_aload hx hb dX4_copy_113 (lv_at hl 0 rfl) ?_
                    refine va_getN (D := D) (ci := 2) (v := .ref a_s3_row) (C := RX2) (T := TX2) (N := 3) hx hb hts inX2 hown hK hP 19 rfl rfl 0 (by decide) (va_Nw.use rfl (hnw _ nn_11)) (fun _ h9 => h9) rfl dX4_copy_115 ?_
                    refine lv_iload hx hb dX4_copy_118 (lv_at hl 6 rfl) ?_
                    refine lv_iload hx hb dX4_copy_120 (lv_at hl 7 rfl) ?_
                    obtain ⟨⟨g1, g2, g3, g4, g5⟩, hf⟩ := cpg_some hf
                    refine va_copyi hx hb (hml.trans hl.1.symm) hown (hts _ tw_454) (hts _ tw_native) (hts _ tw_455) (hts _ tw_9) hK hP hD hS 18 20 0 0 rfl rfl rfl rfl rfl g1 g2 g3 g4 g5 (fun _ _ => rfl) (Nat.le_of_ble_eq_true rfl) (Nat.le_of_ble_eq_true rfl) dX4_copy_122 (fun H locs hP hD hS => ?_)
                    have hP : va_P D classes (W_D cI cS a_d a_f a_t a_r a_z a_f_kind a_f_wet a_g a_g_kind a_g_wet a_r_cells a_r_hours a_r_cracked a_s0 a_s0_row a_s1 a_s1_row a_s2 a_s2_row a_s3 a_s3_row d_hour d_traced (0 : Int32) f_kind f_wet f_wide f_rows f_cells f_sun f_all f_firstColumn f_lastColumn t_hours t_opened t_firstWrong g_kind g_wet g_wide g_rows g_cells g_sun g_all g_firstColumn g_lastColumn r_cells r_hours r_cracked r_count (va_up S_row 3 (va_cpy (S_row 2) (S_row 3) p2.toNatClampNeg p4.toNatClampNeg p5.toNatClampNeg)) S_lane S_length) H := hP
                    have hD : va_D A (W_D cI cS a_d a_f a_t a_r a_z a_f_kind a_f_wet a_g a_g_kind a_g_wet a_r_cells a_r_hours a_r_cracked a_s0 a_s0_row a_s1 a_s1_row a_s2 a_s2_row a_s3 a_s3_row d_hour d_traced (0 : Int32) f_kind f_wet f_wide f_rows f_cells f_sun f_all f_firstColumn f_lastColumn t_hours t_opened t_firstWrong g_kind g_wet g_wide g_rows g_cells g_sun g_all g_firstColumn g_lastColumn r_cells r_hours r_cracked r_count (va_up S_row 3 (va_cpy (S_row 2) (S_row 3) p2.toNatClampNeg p4.toNatClampNeg p5.toNatClampNeg)) S_lane S_length) := hD
                    refine lv_iload hx hb dX4_copy_125 (lv_at hl 7 rfl) ?_
                    replace hf := Option.some.inj hf
                    obtain ⟨er0, er1⟩ := Prod.mk.inj hf
                    obtain ⟨er2, er3⟩ := Prod.mk.inj er1
                    clear hf er1
                    subst er0
                    subst er2
                    subst er3
                    exact rt_i Cc hK hP hD hS dX4_copy_127
                  · replace hf := (if_pos hc169).symm.trans hf
                    refine lv_aload_n hx hb dX4_copy_101 rfl (lv_at hl 2 rfl) ?_
                    refine lv_iconst (v := (3 : Int32)) hx hb dX4_copy_102 (by decide) ?_
                    obtain ⟨q103_1, hq170, hf⟩ := Option.bind_eq_some_iff.mp hf
                    refine cV (ws' := (W_D cI cS a_d a_f a_t a_r a_z a_f_kind a_f_wet a_g a_g_kind a_g_wet a_r_cells a_r_hours a_r_cracked a_s0 a_s0_row a_s1 a_s1_row a_s2 a_s2_row a_s3 a_s3_row d_hour d_traced q103_1.2 f_kind f_wet f_wide f_rows f_cells f_sun f_all f_firstColumn f_lastColumn t_hours t_opened t_firstWrong g_kind g_wet g_wide g_rows g_cells g_sun g_all g_firstColumn g_lastColumn r_cells r_hours r_cracked r_count S_row S_lane S_length)) (rest := []) (st1 := [.int q103_1.1]) Cc hK hA hP hD hS hl.1 (ctX4_faulted l D cI cS a_d a_f a_t a_r a_z d_hour d_traced (0 : Int32) (3 : Int32) n q103_1.1 q103_1.2 hq170) ⟨tw_173, tw_170, tw_172, tp_0, tw_1⟩ mdX4_faulted ⟨rfl, rfl, Nat.le_of_ble_eq_true rfl, Nat.le_of_ble_eq_true rfl⟩ rfl dX4_copy_103 rfl (Nat.le_of_ble_eq_true rfl) ⟨Nat.zero_le _, Nat.zero_le _⟩ rfl rfl rfl [0] [1, 2, 3, 4, 5, 6, 7, 8, 9, 10, 11, 12, 13, 14, 15, 16, 17, 18, 19, 20] [20, 0, 1, 2, 3, 4, 5, 6, 7, 8, 9, 10, 11, 12, 13, 14, 15, 16, 17, 18, 19] rfl rfl (by decide) rfl (fun H locs hP hD hS => ?_)
                    replace hf := Option.some.inj hf
                    obtain ⟨er0, er1⟩ := Prod.mk.inj hf
                    obtain ⟨er2, er3⟩ := Prod.mk.inj er1
                    clear hf er1
                    subst er0
                    subst er2
                    subst er3
                    exact rt_i Cc hK hP hD hS dX4_copy_106
              · replace hf := (if_neg hc164).symm.trans hf
                refine lv_aload_n hx hb dX4_copy_72 rfl (lv_at hl 2 rfl) ?_
                refine lv_iconst (v := (2 : Int32)) hx hb dX4_copy_73 (by decide) ?_
                obtain ⟨q74_1, hq171, hf⟩ := Option.bind_eq_some_iff.mp hf
                refine cV (ws' := (W_D cI cS a_d a_f a_t a_r a_z a_f_kind a_f_wet a_g a_g_kind a_g_wet a_r_cells a_r_hours a_r_cracked a_s0 a_s0_row a_s1 a_s1_row a_s2 a_s2_row a_s3 a_s3_row d_hour d_traced q74_1.2 f_kind f_wet f_wide f_rows f_cells f_sun f_all f_firstColumn f_lastColumn t_hours t_opened t_firstWrong g_kind g_wet g_wide g_rows g_cells g_sun g_all g_firstColumn g_lastColumn r_cells r_hours r_cracked r_count S_row S_lane S_length)) (rest := []) (st1 := [.int q74_1.1]) Cc hK hA hP hD hS hl.1 (ctX4_faulted l D cI cS a_d a_f a_t a_r a_z d_hour d_traced (0 : Int32) (2 : Int32) n q74_1.1 q74_1.2 hq171) ⟨tw_173, tw_170, tw_172, tp_0, tw_1⟩ mdX4_faulted ⟨rfl, rfl, Nat.le_of_ble_eq_true rfl, Nat.le_of_ble_eq_true rfl⟩ rfl dX4_copy_74 rfl (Nat.le_of_ble_eq_true rfl) ⟨Nat.zero_le _, Nat.zero_le _⟩ rfl rfl rfl [0] [1, 2, 3, 4, 5, 6, 7, 8, 9, 10, 11, 12, 13, 14, 15, 16, 17, 18, 19, 20] [20, 0, 1, 2, 3, 4, 5, 6, 7, 8, 9, 10, 11, 12, 13, 14, 15, 16, 17, 18, 19] rfl rfl (by decide) rfl (fun H locs hP hD hS => ?_)
                replace hf := Option.some.inj hf
                obtain ⟨er0, er1⟩ := Prod.mk.inj hf
                obtain ⟨er2, er3⟩ := Prod.mk.inj er1
                clear hf er1
                subst er0
                subst er2
                subst er3
                exact rt_i Cc hK hP hD hS dX4_copy_77
            · replace hf := (if_neg hc163).symm.trans hf
              refine lv_aload_n hx hb dX4_copy_53 rfl (lv_at hl 2 rfl) ?_
              refine lv_iconst (v := (1 : Int32)) hx hb dX4_copy_54 (by decide) ?_
              obtain ⟨q55_1, hq172, hf⟩ := Option.bind_eq_some_iff.mp hf
              refine cV (ws' := (W_D cI cS a_d a_f a_t a_r a_z a_f_kind a_f_wet a_g a_g_kind a_g_wet a_r_cells a_r_hours a_r_cracked a_s0 a_s0_row a_s1 a_s1_row a_s2 a_s2_row a_s3 a_s3_row d_hour d_traced q55_1.2 f_kind f_wet f_wide f_rows f_cells f_sun f_all f_firstColumn f_lastColumn t_hours t_opened t_firstWrong g_kind g_wet g_wide g_rows g_cells g_sun g_all g_firstColumn g_lastColumn r_cells r_hours r_cracked r_count S_row S_lane S_length)) (rest := []) (st1 := [.int q55_1.1]) Cc hK hA hP hD hS hl.1 (ctX4_faulted l D cI cS a_d a_f a_t a_r a_z d_hour d_traced (0 : Int32) (1 : Int32) n q55_1.1 q55_1.2 hq172) ⟨tw_173, tw_170, tw_172, tp_0, tw_1⟩ mdX4_faulted ⟨rfl, rfl, Nat.le_of_ble_eq_true rfl, Nat.le_of_ble_eq_true rfl⟩ rfl dX4_copy_55 rfl (Nat.le_of_ble_eq_true rfl) ⟨Nat.zero_le _, Nat.zero_le _⟩ rfl rfl rfl [0] [1, 2, 3, 4, 5, 6, 7, 8, 9, 10, 11, 12, 13, 14, 15, 16, 17, 18, 19, 20] [20, 0, 1, 2, 3, 4, 5, 6, 7, 8, 9, 10, 11, 12, 13, 14, 15, 16, 17, 18, 19] rfl rfl (by decide) rfl (fun H locs hP hD hS => ?_)
              replace hf := Option.some.inj hf
              obtain ⟨er0, er1⟩ := Prod.mk.inj hf
              obtain ⟨er2, er3⟩ := Prod.mk.inj er1
              clear hf er1
              subst er0
              subst er2
              subst er3
              exact rt_i Cc hK hP hD hS dX4_copy_58
      · refine W.eq (g2 := F0 m 27 ls [.ref a_s3]) rfl ?_
        refine lv_astore (lv' := [(6, .ref a_s3), (0, .ref a_d), (1, .int p1), (2, .int p2), (3, .int p3), (4, .int p4), (5, .int p5)]) hx hb dX4_copy_27 hl (by decide) rfl (fun ls hl => ?_)
        refine lv_aload_n hx hb dX4_copy_29 rfl (lv_at hl 1 rfl) ?_
        refine va_get (D := D) (ci := 4) (v := .ref a_z) (C := RX4) (T := TX4) (N := 7) hx hb hts inX4 hown hK hP 0 rfl rfl 3 (by decide) (hts _ tw_126) (fun _ h9 => h9) rfl dX4_copy_30 ?_
        refine lv_iload_n hx hb dX4_copy_33 rfl (lv_at hl 4 rfl) ?_
        obtain ⟨hin, hf⟩ := gd_some hf
        refine va_aldq hx hb hK hP 12 1 rfl rfl hin dX4_copy_34 ?_
        obtain ⟨j, hj, hjx⟩ : ∃ j, j < 4 ∧ p3.toNatClampNeg = j := ⟨_, Nat.not_le.mp fun q => hin (Or.inr q), rfl⟩
        rw [hjx] at hf ⊢
        clear hin hjx
        rcases (show j = 0 ∨ j = 1 ∨ j = 2 ∨ j = 3 by omega) with rfl | rfl | rfl | rfl
        · refine W.eq (g2 := F0 m 35 ls [.ref a_s0]) rfl ?_
          refine lv_astore (lv' := [(7, .ref a_s0), (6, .ref a_s3), (0, .ref a_d), (1, .int p1), (2, .int p2), (3, .int p3), (4, .int p4), (5, .int p5)]) hx hb dX4_copy_35 hl (by decide) rfl (fun ls hl => ?_)
          refine lv_aload hx hb dX4_copy_37 (lv_at hl 1 rfl) ?_
          obtain ⟨q39_1, hq173, hf⟩ := Option.bind_eq_some_iff.mp hf
          refine cV (ws' := (W_D cI cS a_d a_f a_t a_r a_z a_f_kind a_f_wet a_g a_g_kind a_g_wet a_r_cells a_r_hours a_r_cracked a_s0 a_s0_row a_s1 a_s1_row a_s2 a_s2_row a_s3 a_s3_row d_hour d_traced (0 : Int32) f_kind f_wet f_wide f_rows f_cells f_sun f_all f_firstColumn f_lastColumn t_hours t_opened t_firstWrong g_kind g_wet g_wide g_rows g_cells g_sun g_all g_firstColumn g_lastColumn r_cells r_hours r_cracked r_count S_row S_lane S_length)) (rest := []) (st1 := [.int q39_1]) Cc hK hA hP hD hS hl.1 (ctX2_isNothing l D cI cS a_s3 a_s3_row (S_row 3) (S_lane 3) (S_length 3)  n q39_1 hq173) ⟨tw_165, tw_428, tw_163, tw_164, tw_5⟩ mdX2_isNothing ⟨rfl, rfl, Nat.le_of_ble_eq_true rfl, Nat.le_of_ble_eq_true rfl⟩ rfl dX4_copy_39 rfl (Nat.le_of_ble_eq_true rfl) ⟨Nat.zero_le _, Nat.zero_le _⟩ rfl rfl rfl [19, 20] [0, 1, 2, 3, 4, 5, 6, 7, 8, 9, 10, 11, 12, 13, 14, 15, 16, 17, 18] [0, 1, 2, 3, 4, 5, 6, 7, 8, 9, 10, 11, 12, 13, 14, 15, 16, 17, 18, 19, 20] rfl rfl (by decide) rfl (fun H locs hP hD hS => ?_)
          refine lv_if_ne (tgt := 53) hx hb dX4_copy_42 (by decide) (fun hc174 => ?_) (fun hc174 => ?_)
          · replace hf := (if_neg hc174).symm.trans hf
            refine lv_aload_n hx hb dX4_copy_53 rfl (lv_at hl 2 rfl) ?_
            refine lv_iconst (v := (1 : Int32)) hx hb dX4_copy_54 (by decide) ?_
            obtain ⟨q55_1, hq175, hf⟩ := Option.bind_eq_some_iff.mp hf
            refine cV (ws' := (W_D cI cS a_d a_f a_t a_r a_z a_f_kind a_f_wet a_g a_g_kind a_g_wet a_r_cells a_r_hours a_r_cracked a_s0 a_s0_row a_s1 a_s1_row a_s2 a_s2_row a_s3 a_s3_row d_hour d_traced q55_1.2 f_kind f_wet f_wide f_rows f_cells f_sun f_all f_firstColumn f_lastColumn t_hours t_opened t_firstWrong g_kind g_wet g_wide g_rows g_cells g_sun g_all g_firstColumn g_lastColumn r_cells r_hours r_cracked r_count S_row S_lane S_length)) (rest := []) (st1 := [.int q55_1.1]) Cc hK hA hP hD hS hl.1 (ctX4_faulted l D cI cS a_d a_f a_t a_r a_z d_hour d_traced (0 : Int32) (1 : Int32) n q55_1.1 q55_1.2 hq175) ⟨tw_173, tw_170, tw_172, tp_0, tw_1⟩ mdX4_faulted ⟨rfl, rfl, Nat.le_of_ble_eq_true rfl, Nat.le_of_ble_eq_true rfl⟩ rfl dX4_copy_55 rfl (Nat.le_of_ble_eq_true rfl) ⟨Nat.zero_le _, Nat.zero_le _⟩ rfl rfl rfl [0] [1, 2, 3, 4, 5, 6, 7, 8, 9, 10, 11, 12, 13, 14, 15, 16, 17, 18, 19, 20] [20, 0, 1, 2, 3, 4, 5, 6, 7, 8, 9, 10, 11, 12, 13, 14, 15, 16, 17, 18, 19] rfl rfl (by decide) rfl (fun H locs hP hD hS => ?_)
            replace hf := Option.some.inj hf
            obtain ⟨er0, er1⟩ := Prod.mk.inj hf
            obtain ⟨er2, er3⟩ := Prod.mk.inj er1
            clear hf er1
            subst er0
            subst er2
            subst er3
            exact rt_i Cc hK hP hD hS dX4_copy_58
          · replace hf := (if_pos hc174).symm.trans hf
            refine lv_aload hx hb dX4_copy_45 (lv_at hl 0 rfl) ?_
            obtain ⟨q47_1, hq176, hf⟩ := Option.bind_eq_some_iff.mp hf
            refine cV (ws' := (W_D cI cS a_d a_f a_t a_r a_z a_f_kind a_f_wet a_g a_g_kind a_g_wet a_r_cells a_r_hours a_r_cracked a_s0 a_s0_row a_s1 a_s1_row a_s2 a_s2_row a_s3 a_s3_row d_hour d_traced (0 : Int32) f_kind f_wet f_wide f_rows f_cells f_sun f_all f_firstColumn f_lastColumn t_hours t_opened t_firstWrong g_kind g_wet g_wide g_rows g_cells g_sun g_all g_firstColumn g_lastColumn r_cells r_hours r_cracked r_count S_row S_lane S_length)) (rest := []) (st1 := [.int q47_1]) Cc hK hA hP hD hS hl.1 (ctX2_isNothing l D cI cS a_s0 a_s0_row (S_row 0) (S_lane 0) (S_length 0)  n q47_1 hq176) ⟨tw_165, tw_428, tw_163, tw_164, tw_5⟩ mdX2_isNothing ⟨rfl, rfl, Nat.le_of_ble_eq_true rfl, Nat.le_of_ble_eq_true rfl⟩ rfl dX4_copy_47 rfl (Nat.le_of_ble_eq_true rfl) ⟨Nat.zero_le _, Nat.zero_le _⟩ rfl rfl rfl [13, 14] [0, 1, 2, 3, 4, 5, 6, 7, 8, 9, 10, 11, 12, 15, 16, 17, 18, 19, 20] [0, 1, 2, 3, 4, 5, 6, 7, 8, 9, 10, 11, 12, 19, 20, 13, 14, 15, 16, 17, 18] rfl rfl (by decide) rfl (fun H locs hP hD hS => ?_)
            refine lv_if_eq (tgt := 59) hx hb dX4_copy_50 (by decide) (fun hc177 => ?_) (fun hc177 => ?_)
            · replace hf := (if_pos hc177).symm.trans hf
              refine lv_aload hx hb dX4_copy_59 (lv_at hl 1 rfl) ?_
              refine va_getN (D := D) (ci := 2) (v := .int (S_lane 3)) (C := RX2) (T := TX2) (N := 3) hx hb hts inX2 hown hK hP 19 rfl rfl 1 (by decide) (va_Nw.use rfl (hnw _ nn_12)) (fun _ h9 => h9) rfl dX4_copy_61 ?_
              refine lv_aload hx hb dX4_copy_64 (lv_at hl 0 rfl) ?_
              refine va_getN (D := D) (ci := 2) (v := .int (S_lane 0)) (C := RX2) (T := TX2) (N := 3) hx hb hts inX2 hown hK hP 13 rfl rfl 1 (by decide) (va_Nw.use rfl (hnw _ nn_12)) (fun _ h9 => h9) rfl dX4_copy_66 ?_
              refine lv_icmp_eq (tgt := 78) hx hb dX4_copy_69 (by decide) (fun hc178 => ?_) (fun hc178 => ?_)
              · replace hf := (if_pos hc178).symm.trans hf
                refine lv_aload hx hb dX4_copy_78 (lv_at hl 1 rfl) ?_
                refine lv_iload_n hx hb dX4_copy_80 rfl (lv_at hl 4 rfl) ?_
                refine lv_iload hx hb dX4_copy_81 (lv_at hl 7 rfl) ?_
                obtain ⟨q83_1, hq179, hf⟩ := Option.bind_eq_some_iff.mp hf
                refine cV (ws' := (W_D cI cS a_d a_f a_t a_r a_z a_f_kind a_f_wet a_g a_g_kind a_g_wet a_r_cells a_r_hours a_r_cracked a_s0 a_s0_row a_s1 a_s1_row a_s2 a_s2_row a_s3 a_s3_row d_hour d_traced (0 : Int32) f_kind f_wet f_wide f_rows f_cells f_sun f_all f_firstColumn f_lastColumn t_hours t_opened t_firstWrong g_kind g_wet g_wide g_rows g_cells g_sun g_all g_firstColumn g_lastColumn r_cells r_hours r_cracked r_count S_row S_lane S_length)) (rest := []) (st1 := [.int q83_1]) Cc hK hA hP hD hS hl.1 (ctX2_has l D cI cS a_s3 a_s3_row (S_row 3) (S_lane 3) (S_length 3) p2 p5 n q83_1 hq179) ⟨tw_169, tw_166, tw_167, tw_168, tw_5⟩ mdX2_has ⟨rfl, rfl, Nat.le_of_ble_eq_true rfl, Nat.le_of_ble_eq_true rfl⟩ rfl dX4_copy_83 rfl (Nat.le_of_ble_eq_true rfl) ⟨Nat.zero_le _, Nat.zero_le _⟩ rfl rfl rfl [19, 20] [0, 1, 2, 3, 4, 5, 6, 7, 8, 9, 10, 11, 12, 13, 14, 15, 16, 17, 18] [0, 1, 2, 3, 4, 5, 6, 7, 8, 9, 10, 11, 12, 13, 14, 15, 16, 17, 18, 19, 20] rfl rfl (by decide) rfl (fun H locs hP hD hS => ?_)
                refine lv_if_eq (tgt := 101) hx hb dX4_copy_86 (by decide) (fun hc180 => ?_) (fun hc180 => ?_)
                · replace hf := (if_pos hc180).symm.trans hf
                  refine lv_aload_n hx hb dX4_copy_101 rfl (lv_at hl 2 rfl) ?_
                  refine lv_iconst (v := (3 : Int32)) hx hb dX4_copy_102 (by decide) ?_
                  obtain ⟨q103_1, hq181, hf⟩ := Option.bind_eq_some_iff.mp hf
                  refine cV (ws' := (W_D cI cS a_d a_f a_t a_r a_z a_f_kind a_f_wet a_g a_g_kind a_g_wet a_r_cells a_r_hours a_r_cracked a_s0 a_s0_row a_s1 a_s1_row a_s2 a_s2_row a_s3 a_s3_row d_hour d_traced q103_1.2 f_kind f_wet f_wide f_rows f_cells f_sun f_all f_firstColumn f_lastColumn t_hours t_opened t_firstWrong g_kind g_wet g_wide g_rows g_cells g_sun g_all g_firstColumn g_lastColumn r_cells r_hours r_cracked r_count S_row S_lane S_length)) (rest := []) (st1 := [.int q103_1.1]) Cc hK hA hP hD hS hl.1 (ctX4_faulted l D cI cS a_d a_f a_t a_r a_z d_hour d_traced (0 : Int32) (3 : Int32) n q103_1.1 q103_1.2 hq181) ⟨tw_173, tw_170, tw_172, tp_0, tw_1⟩ mdX4_faulted ⟨rfl, rfl, Nat.le_of_ble_eq_true rfl, Nat.le_of_ble_eq_true rfl⟩ rfl dX4_copy_103 rfl (Nat.le_of_ble_eq_true rfl) ⟨Nat.zero_le _, Nat.zero_le _⟩ rfl rfl rfl [0] [1, 2, 3, 4, 5, 6, 7, 8, 9, 10, 11, 12, 13, 14, 15, 16, 17, 18, 19, 20] [20, 0, 1, 2, 3, 4, 5, 6, 7, 8, 9, 10, 11, 12, 13, 14, 15, 16, 17, 18, 19] rfl rfl (by decide) rfl (fun H locs hP hD hS => ?_)
                  replace hf := Option.some.inj hf
                  obtain ⟨er0, er1⟩ := Prod.mk.inj hf
                  obtain ⟨er2, er3⟩ := Prod.mk.inj er1
                  clear hf er1
                  subst er0
                  subst er2
                  subst er3
                  exact rt_i Cc hK hP hD hS dX4_copy_106
                · replace hf := (if_neg hc180).symm.trans hf
                  refine lv_aload hx hb dX4_copy_89 (lv_at hl 0 rfl) ?_
                  refine lv_iload hx hb dX4_copy_91 (lv_at hl 6 rfl) ?_
                  refine lv_iload hx hb dX4_copy_93 (lv_at hl 7 rfl) ?_
                  obtain ⟨q95_1, hq182, hf⟩ := Option.bind_eq_some_iff.mp hf
                  refine cV (ws' := (W_D cI cS a_d a_f a_t a_r a_z a_f_kind a_f_wet a_g a_g_kind a_g_wet a_r_cells a_r_hours a_r_cracked a_s0 a_s0_row a_s1 a_s1_row a_s2 a_s2_row a_s3 a_s3_row d_hour d_traced (0 : Int32) f_kind f_wet f_wide f_rows f_cells f_sun f_all f_firstColumn f_lastColumn t_hours t_opened t_firstWrong g_kind g_wet g_wide g_rows g_cells g_sun g_all g_firstColumn g_lastColumn r_cells r_hours r_cracked r_count S_row S_lane S_length)) (rest := []) (st1 := [.int q95_1]) Cc hK hA hP hD hS hl.1 (ctX2_has l D cI cS a_s0 a_s0_row (S_row 0) (S_lane 0) (S_length 0) p4 p5 n q95_1 hq182) ⟨tw_169, tw_166, tw_167, tw_168, tw_5⟩ mdX2_has ⟨rfl, rfl, Nat.le_of_ble_eq_true rfl, Nat.le_of_ble_eq_true rfl⟩ rfl dX4_copy_95 rfl (Nat.le_of_ble_eq_true rfl) ⟨Nat.zero_le _, Nat.zero_le _⟩ rfl rfl rfl [13, 14] [0, 1, 2, 3, 4, 5, 6, 7, 8, 9, 10, 11, 12, 15, 16, 17, 18, 19, 20] [0, 1, 2, 3, 4, 5, 6, 7, 8, 9, 10, 11, 12, 19, 20, 13, 14, 15, 16, 17, 18] rfl rfl (by decide) rfl (fun H locs hP hD hS => ?_)
                  refine lv_if_ne (tgt := 107) hx hb dX4_copy_98 (by decide) (fun hc183 => ?_) (fun hc183 => ?_)
                  · replace hf := (if_neg hc183).symm.trans hf
                    refine lv_aload hx hb dX4_copy_107 (lv_at hl 1 rfl) ?_
                    refine va_getN (D := D) (ci := 2) (v := .ref a_s3_row) (C := RX2) (T := TX2) (N := 3) hx hb hts inX2 hown hK hP 19 rfl rfl 0 (by decide) (va_Nw.use rfl (hnw _ nn_11)) (fun _ h9 => h9) rfl dX4_copy_109 ?_
                    refine lv_iload_n hx hb dX4_copy_112 rfl (lv_at hl 4 rfl) ?_
                    refine lv_aload hx hb dX4_copy_113 (lv_at hl 0 rfl) ?_
                    refine va_getN (D := D) (ci := 2) (v := .ref a_s0_row) (C := RX2) (T := TX2) (N := 3) hx hb hts inX2 hown hK hP 13 rfl rfl 0 (by decide) (va_Nw.use rfl (hnw _ nn_11)) (fun _ h9 => h9) rfl dX4_copy_115 ?_
                    refine lv_iload hx hb dX4_copy_118 (lv_at hl 6 rfl) ?_
                    refine lv_iload hx hb dX4_copy_120 (lv_at hl 7 rfl) ?_
                    obtain ⟨⟨g1, g2, g3, g4, g5⟩, hf⟩ := cpg_some hf
                    refine va_copyi hx hb (hml.trans hl.1.symm) hown (hts _ tw_454) (hts _ tw_native) (hts _ tw_455) (hts _ tw_9) hK hP hD hS 20 14 0 0 rfl rfl rfl rfl rfl g1 g2 g3 g4 g5 (fun _ _ => rfl) (Nat.le_of_ble_eq_true rfl) (Nat.le_of_ble_eq_true rfl) dX4_copy_122 (fun H locs hP hD hS => ?_)
                    have hP : va_P D classes (W_D cI cS a_d a_f a_t a_r a_z a_f_kind a_f_wet a_g a_g_kind a_g_wet a_r_cells a_r_hours a_r_cracked a_s0 a_s0_row a_s1 a_s1_row a_s2 a_s2_row a_s3 a_s3_row d_hour d_traced (0 : Int32) f_kind f_wet f_wide f_rows f_cells f_sun f_all f_firstColumn f_lastColumn t_hours t_opened t_firstWrong g_kind g_wet g_wide g_rows g_cells g_sun g_all g_firstColumn g_lastColumn r_cells r_hours r_cracked r_count (va_up S_row 0 (va_cpy (S_row 3) (S_row 0) p2.toNatClampNeg p4.toNatClampNeg p5.toNatClampNeg)) S_lane S_length) H := hP
                    have hD : va_D A (W_D cI cS a_d a_f a_t a_r a_z a_f_kind a_f_wet a_g a_g_kind a_g_wet a_r_cells a_r_hours a_r_cracked a_s0 a_s0_row a_s1 a_s1_row a_s2 a_s2_row a_s3 a_s3_row d_hour d_traced (0 : Int32) f_kind f_wet f_wide f_rows f_cells f_sun f_all f_firstColumn f_lastColumn t_hours t_opened t_firstWrong g_kind g_wet g_wide g_rows g_cells g_sun g_all g_firstColumn g_lastColumn r_cells r_hours r_cracked r_count (va_up S_row 0 (va_cpy (S_row 3) (S_row 0) p2.toNatClampNeg p4.toNatClampNeg p5.toNatClampNeg)) S_lane S_length) := hD
                    refine lv_iload hx hb dX4_copy_125 (lv_at hl 7 rfl) ?_
                    replace hf := Option.some.inj hf
                    obtain ⟨er0, er1⟩ := Prod.mk.inj hf
                    obtain ⟨er2, er3⟩ := Prod.mk.inj er1
                    clear hf er1
                    subst er0
                    subst er2
                    subst er3
                    exact rt_i Cc hK hP hD hS dX4_copy_127
                  · replace hf := (if_pos hc183).symm.trans hf
                    refine lv_aload_n hx hb dX4_copy_101 rfl (lv_at hl 2 rfl) ?_
                    refine lv_iconst (v := (3 : Int32)) hx hb dX4_copy_102 (by decide) ?_
                    obtain ⟨q103_1, hq184, hf⟩ := Option.bind_eq_some_iff.mp hf
                    refine cV (ws' := (W_D cI cS a_d a_f a_t a_r a_z a_f_kind a_f_wet a_g a_g_kind a_g_wet a_r_cells a_r_hours a_r_cracked a_s0 a_s0_row a_s1 a_s1_row a_s2 a_s2_row a_s3 a_s3_row d_hour d_traced q103_1.2 f_kind f_wet f_wide f_rows f_cells f_sun f_all f_firstColumn f_lastColumn t_hours t_opened t_firstWrong g_kind g_wet g_wide g_rows g_cells g_sun g_all g_firstColumn g_lastColumn r_cells r_hours r_cracked r_count S_row S_lane S_length)) (rest := []) (st1 := [.int q103_1.1]) Cc hK hA hP hD hS hl.1 (ctX4_faulted l D cI cS a_d a_f a_t a_r a_z d_hour d_traced (0 : Int32) (3 : Int32) n q103_1.1 q103_1.2 hq184) ⟨tw_173, tw_170, tw_172, tp_0, tw_1⟩ mdX4_faulted ⟨rfl, rfl, Nat.le_of_ble_eq_true rfl, Nat.le_of_ble_eq_true rfl⟩ rfl dX4_copy_103 rfl (Nat.le_of_ble_eq_true rfl) ⟨Nat.zero_le _, Nat.zero_le _⟩ rfl rfl rfl [0] [1, 2, 3, 4, 5, 6, 7, 8, 9, 10, 11, 12, 13, 14, 15, 16, 17, 18, 19, 20] [20, 0, 1, 2, 3, 4, 5, 6, 7, 8, 9, 10, 11, 12, 13, 14, 15, 16, 17, 18, 19] rfl rfl (by decide) rfl (fun H locs hP hD hS => ?_)
                    replace hf := Option.some.inj hf
                    obtain ⟨er0, er1⟩ := Prod.mk.inj hf
                    obtain ⟨er2, er3⟩ := Prod.mk.inj er1
                    clear hf er1
                    subst er0
                    subst er2
                    subst er3
                    exact rt_i Cc hK hP hD hS dX4_copy_106
              · replace hf := (if_neg hc178).symm.trans hf
                refine lv_aload_n hx hb dX4_copy_72 rfl (lv_at hl 2 rfl) ?_
                refine lv_iconst (v := (2 : Int32)) hx hb dX4_copy_73 (by decide) ?_
                obtain ⟨q74_1, hq185, hf⟩ := Option.bind_eq_some_iff.mp hf
                refine cV (ws' := (W_D cI cS a_d a_f a_t a_r a_z a_f_kind a_f_wet a_g a_g_kind a_g_wet a_r_cells a_r_hours a_r_cracked a_s0 a_s0_row a_s1 a_s1_row a_s2 a_s2_row a_s3 a_s3_row d_hour d_traced q74_1.2 f_kind f_wet f_wide f_rows f_cells f_sun f_all f_firstColumn f_lastColumn t_hours t_opened t_firstWrong g_kind g_wet g_wide g_rows g_cells g_sun g_all g_firstColumn g_lastColumn r_cells r_hours r_cracked r_count S_row S_lane S_length)) (rest := []) (st1 := [.int q74_1.1]) Cc hK hA hP hD hS hl.1 (ctX4_faulted l D cI cS a_d a_f a_t a_r a_z d_hour d_traced (0 : Int32) (2 : Int32) n q74_1.1 q74_1.2 hq185) ⟨tw_173, tw_170, tw_172, tp_0, tw_1⟩ mdX4_faulted ⟨rfl, rfl, Nat.le_of_ble_eq_true rfl, Nat.le_of_ble_eq_true rfl⟩ rfl dX4_copy_74 rfl (Nat.le_of_ble_eq_true rfl) ⟨Nat.zero_le _, Nat.zero_le _⟩ rfl rfl rfl [0] [1, 2, 3, 4, 5, 6, 7, 8, 9, 10, 11, 12, 13, 14, 15, 16, 17, 18, 19, 20] [20, 0, 1, 2, 3, 4, 5, 6, 7, 8, 9, 10, 11, 12, 13, 14, 15, 16, 17, 18, 19] rfl rfl (by decide) rfl (fun H locs hP hD hS => ?_)
                replace hf := Option.some.inj hf
                obtain ⟨er0, er1⟩ := Prod.mk.inj hf
                obtain ⟨er2, er3⟩ := Prod.mk.inj er1
                clear hf er1
                subst er0
                subst er2
                subst er3
                exact rt_i Cc hK hP hD hS dX4_copy_77
            · replace hf := (if_neg hc177).symm.trans hf
              refine lv_aload_n hx hb dX4_copy_53 rfl (lv_at hl 2 rfl) ?_
              refine lv_iconst (v := (1 : Int32)) hx hb dX4_copy_54 (by decide) ?_
              obtain ⟨q55_1, hq186, hf⟩ := Option.bind_eq_some_iff.mp hf
              refine cV (ws' := (W_D cI cS a_d a_f a_t a_r a_z a_f_kind a_f_wet a_g a_g_kind a_g_wet a_r_cells a_r_hours a_r_cracked a_s0 a_s0_row a_s1 a_s1_row a_s2 a_s2_row a_s3 a_s3_row d_hour d_traced q55_1.2 f_kind f_wet f_wide f_rows f_cells f_sun f_all f_firstColumn f_lastColumn t_hours t_opened t_firstWrong g_kind g_wet g_wide g_rows g_cells g_sun g_all g_firstColumn g_lastColumn r_cells r_hours r_cracked r_count S_row S_lane S_length)) (rest := []) (st1 := [.int q55_1.1]) Cc hK hA hP hD hS hl.1 (ctX4_faulted l D cI cS a_d a_f a_t a_r a_z d_hour d_traced (0 : Int32) (1 : Int32) n q55_1.1 q55_1.2 hq186) ⟨tw_173, tw_170, tw_172, tp_0, tw_1⟩ mdX4_faulted ⟨rfl, rfl, Nat.le_of_ble_eq_true rfl, Nat.le_of_ble_eq_true rfl⟩ rfl dX4_copy_55 rfl (Nat.le_of_ble_eq_true rfl) ⟨Nat.zero_le _, Nat.zero_le _⟩ rfl rfl rfl [0] [1, 2, 3, 4, 5, 6, 7, 8, 9, 10, 11, 12, 13, 14, 15, 16, 17, 18, 19, 20] [20, 0, 1, 2, 3, 4, 5, 6, 7, 8, 9, 10, 11, 12, 13, 14, 15, 16, 17, 18, 19] rfl rfl (by decide) rfl (fun H locs hP hD hS => ?_)
              replace hf := Option.some.inj hf
              obtain ⟨er0, er1⟩ := Prod.mk.inj hf
              obtain ⟨er2, er3⟩ := Prod.mk.inj er1
              clear hf er1
              subst er0
              subst er2
              subst er3
              exact rt_i Cc hK hP hD hS dX4_copy_58
        · refine W.eq (g2 := F0 m 35 ls [.ref a_s1]) rfl ?_
          refine lv_astore (lv' := [(7, .ref a_s1), (6, .ref a_s3), (0, .ref a_d), (1, .int p1), (2, .int p2), (3, .int p3), (4, .int p4), (5, .int p5)]) hx hb dX4_copy_35 hl (by decide) rfl (fun ls hl => ?_)
          refine lv_aload hx hb dX4_copy_37 (lv_at hl 1 rfl) ?_
          obtain ⟨q39_1, hq187, hf⟩ := Option.bind_eq_some_iff.mp hf
          refine cV (ws' := (W_D cI cS a_d a_f a_t a_r a_z a_f_kind a_f_wet a_g a_g_kind a_g_wet a_r_cells a_r_hours a_r_cracked a_s0 a_s0_row a_s1 a_s1_row a_s2 a_s2_row a_s3 a_s3_row d_hour d_traced (0 : Int32) f_kind f_wet f_wide f_rows f_cells f_sun f_all f_firstColumn f_lastColumn t_hours t_opened t_firstWrong g_kind g_wet g_wide g_rows g_cells g_sun g_all g_firstColumn g_lastColumn r_cells r_hours r_cracked r_count S_row S_lane S_length)) (rest := []) (st1 := [.int q39_1]) Cc hK hA hP hD hS hl.1 (ctX2_isNothing l D cI cS a_s3 a_s3_row (S_row 3) (S_lane 3) (S_length 3)  n q39_1 hq187) ⟨tw_165, tw_428, tw_163, tw_164, tw_5⟩ mdX2_isNothing ⟨rfl, rfl, Nat.le_of_ble_eq_true rfl, Nat.le_of_ble_eq_true rfl⟩ rfl dX4_copy_39 rfl (Nat.le_of_ble_eq_true rfl) ⟨Nat.zero_le _, Nat.zero_le _⟩ rfl rfl rfl [19, 20] [0, 1, 2, 3, 4, 5, 6, 7, 8, 9, 10, 11, 12, 13, 14, 15, 16, 17, 18] [0, 1, 2, 3, 4, 5, 6, 7, 8, 9, 10, 11, 12, 13, 14, 15, 16, 17, 18, 19, 20] rfl rfl (by decide) rfl (fun H locs hP hD hS => ?_)
          refine lv_if_ne (tgt := 53) hx hb dX4_copy_42 (by decide) (fun hc188 => ?_) (fun hc188 => ?_)
          · replace hf := (if_neg hc188).symm.trans hf
            refine lv_aload_n hx hb dX4_copy_53 rfl (lv_at hl 2 rfl) ?_
            refine lv_iconst (v := (1 : Int32)) hx hb dX4_copy_54 (by decide) ?_
            obtain ⟨q55_1, hq189, hf⟩ := Option.bind_eq_some_iff.mp hf
            refine cV (ws' := (W_D cI cS a_d a_f a_t a_r a_z a_f_kind a_f_wet a_g a_g_kind a_g_wet a_r_cells a_r_hours a_r_cracked a_s0 a_s0_row a_s1 a_s1_row a_s2 a_s2_row a_s3 a_s3_row d_hour d_traced q55_1.2 f_kind f_wet f_wide f_rows f_cells f_sun f_all f_firstColumn f_lastColumn t_hours t_opened t_firstWrong g_kind g_wet g_wide g_rows g_cells g_sun g_all g_firstColumn g_lastColumn r_cells r_hours r_cracked r_count S_row S_lane S_length)) (rest := []) (st1 := [.int q55_1.1]) Cc hK hA hP hD hS hl.1 (ctX4_faulted l D cI cS a_d a_f a_t a_r a_z d_hour d_traced (0 : Int32) (1 : Int32) n q55_1.1 q55_1.2 hq189) ⟨tw_173, tw_170, tw_172, tp_0, tw_1⟩ mdX4_faulted ⟨rfl, rfl, Nat.le_of_ble_eq_true rfl, Nat.le_of_ble_eq_true rfl⟩ rfl dX4_copy_55 rfl (Nat.le_of_ble_eq_true rfl) ⟨Nat.zero_le _, Nat.zero_le _⟩ rfl rfl rfl [0] [1, 2, 3, 4, 5, 6, 7, 8, 9, 10, 11, 12, 13, 14, 15, 16, 17, 18, 19, 20] [20, 0, 1, 2, 3, 4, 5, 6, 7, 8, 9, 10, 11, 12, 13, 14, 15, 16, 17, 18, 19] rfl rfl (by decide) rfl (fun H locs hP hD hS => ?_)
            replace hf := Option.some.inj hf
            obtain ⟨er0, er1⟩ := Prod.mk.inj hf
            obtain ⟨er2, er3⟩ := Prod.mk.inj er1
            clear hf er1
            subst er0
            subst er2
            subst er3
            exact rt_i Cc hK hP hD hS dX4_copy_58
          · replace hf := (if_pos hc188).symm.trans hf
            refine lv_aload hx hb dX4_copy_45 (lv_at hl 0 rfl) ?_
            obtain ⟨q47_1, hq190, hf⟩ := Option.bind_eq_some_iff.mp hf
            refine cV (ws' := (W_D cI cS a_d a_f a_t a_r a_z a_f_kind a_f_wet a_g a_g_kind a_g_wet a_r_cells a_r_hours a_r_cracked a_s0 a_s0_row a_s1 a_s1_row a_s2 a_s2_row a_s3 a_s3_row d_hour d_traced (0 : Int32) f_kind f_wet f_wide f_rows f_cells f_sun f_all f_firstColumn f_lastColumn t_hours t_opened t_firstWrong g_kind g_wet g_wide g_rows g_cells g_sun g_all g_firstColumn g_lastColumn r_cells r_hours r_cracked r_count S_row S_lane S_length)) (rest := []) (st1 := [.int q47_1]) Cc hK hA hP hD hS hl.1 (ctX2_isNothing l D cI cS a_s1 a_s1_row (S_row 1) (S_lane 1) (S_length 1)  n q47_1 hq190) ⟨tw_165, tw_428, tw_163, tw_164, tw_5⟩ mdX2_isNothing ⟨rfl, rfl, Nat.le_of_ble_eq_true rfl, Nat.le_of_ble_eq_true rfl⟩ rfl dX4_copy_47 rfl (Nat.le_of_ble_eq_true rfl) ⟨Nat.zero_le _, Nat.zero_le _⟩ rfl rfl rfl [15, 16] [0, 1, 2, 3, 4, 5, 6, 7, 8, 9, 10, 11, 12, 13, 14, 17, 18, 19, 20] [0, 1, 2, 3, 4, 5, 6, 7, 8, 9, 10, 11, 12, 13, 14, 19, 20, 15, 16, 17, 18] rfl rfl (by decide) rfl (fun H locs hP hD hS => ?_)
            refine lv_if_eq (tgt := 59) hx hb dX4_copy_50 (by decide) (fun hc191 => ?_) (fun hc191 => ?_)
            · replace hf := (if_pos hc191).symm.trans hf
              refine lv_aload hx hb dX4_copy_59 (lv_at hl 1 rfl) ?_
              refine va_getN (D := D) (ci := 2) (v := .int (S_lane 3)) (C := RX2) (T := TX2) (N := 3) hx hb hts inX2 hown hK hP 19 rfl rfl 1 (by decide) (va_Nw.use rfl (hnw _ nn_12)) (fun _ h9 => h9) rfl dX4_copy_61 ?_
              refine lv_aload hx hb dX4_copy_64 (lv_at hl 0 rfl) ?_
              refine va_getN (D := D) (ci := 2) (v := .int (S_lane 1)) (C := RX2) (T := TX2) (N := 3) hx hb hts inX2 hown hK hP 15 rfl rfl 1 (by decide) (va_Nw.use rfl (hnw _ nn_12)) (fun _ h9 => h9) rfl dX4_copy_66 ?_
              refine lv_icmp_eq (tgt := 78) hx hb dX4_copy_69 (by decide) (fun hc192 => ?_) (fun hc192 => ?_)
              · replace hf := (if_pos hc192).symm.trans hf
                refine lv_aload hx hb dX4_copy_78 (lv_at hl 1 rfl) ?_
                refine lv_iload_n hx hb dX4_copy_80 rfl (lv_at hl 4 rfl) ?_
                refine lv_iload hx hb dX4_copy_81 (lv_at hl 7 rfl) ?_
                obtain ⟨q83_1, hq193, hf⟩ := Option.bind_eq_some_iff.mp hf
                refine cV (ws' := (W_D cI cS a_d a_f a_t a_r a_z a_f_kind a_f_wet a_g a_g_kind a_g_wet a_r_cells a_r_hours a_r_cracked a_s0 a_s0_row a_s1 a_s1_row a_s2 a_s2_row a_s3 a_s3_row d_hour d_traced (0 : Int32) f_kind f_wet f_wide f_rows f_cells f_sun f_all f_firstColumn f_lastColumn t_hours t_opened t_firstWrong g_kind g_wet g_wide g_rows g_cells g_sun g_all g_firstColumn g_lastColumn r_cells r_hours r_cracked r_count S_row S_lane S_length)) (rest := []) (st1 := [.int q83_1]) Cc hK hA hP hD hS hl.1 (ctX2_has l D cI cS a_s3 a_s3_row (S_row 3) (S_lane 3) (S_length 3) p2 p5 n q83_1 hq193) ⟨tw_169, tw_166, tw_167, tw_168, tw_5⟩ mdX2_has ⟨rfl, rfl, Nat.le_of_ble_eq_true rfl, Nat.le_of_ble_eq_true rfl⟩ rfl dX4_copy_83 rfl (Nat.le_of_ble_eq_true rfl) ⟨Nat.zero_le _, Nat.zero_le _⟩ rfl rfl rfl [19, 20] [0, 1, 2, 3, 4, 5, 6, 7, 8, 9, 10, 11, 12, 13, 14, 15, 16, 17, 18] [0, 1, 2, 3, 4, 5, 6, 7, 8, 9, 10, 11, 12, 13, 14, 15, 16, 17, 18, 19, 20] rfl rfl (by decide) rfl (fun H locs hP hD hS => ?_)
                refine lv_if_eq (tgt := 101) hx hb dX4_copy_86 (by decide) (fun hc194 => ?_) (fun hc194 => ?_)
                · replace hf := (if_pos hc194).symm.trans hf
                  refine lv_aload_n hx hb dX4_copy_101 rfl (lv_at hl 2 rfl) ?_
                  refine lv_iconst (v := (3 : Int32)) hx hb dX4_copy_102 (by decide) ?_
                  obtain ⟨q103_1, hq195, hf⟩ := Option.bind_eq_some_iff.mp hf
                  refine cV (ws' := (W_D cI cS a_d a_f a_t a_r a_z a_f_kind a_f_wet a_g a_g_kind a_g_wet a_r_cells a_r_hours a_r_cracked a_s0 a_s0_row a_s1 a_s1_row a_s2 a_s2_row a_s3 a_s3_row d_hour d_traced q103_1.2 f_kind f_wet f_wide f_rows f_cells f_sun f_all f_firstColumn f_lastColumn t_hours t_opened t_firstWrong g_kind g_wet g_wide g_rows g_cells g_sun g_all g_firstColumn g_lastColumn r_cells r_hours r_cracked r_count S_row S_lane S_length)) (rest := []) (st1 := [.int q103_1.1]) Cc hK hA hP hD hS hl.1 (ctX4_faulted l D cI cS a_d a_f a_t a_r a_z d_hour d_traced (0 : Int32) (3 : Int32) n q103_1.1 q103_1.2 hq195) ⟨tw_173, tw_170, tw_172, tp_0, tw_1⟩ mdX4_faulted ⟨rfl, rfl, Nat.le_of_ble_eq_true rfl, Nat.le_of_ble_eq_true rfl⟩ rfl dX4_copy_103 rfl (Nat.le_of_ble_eq_true rfl) ⟨Nat.zero_le _, Nat.zero_le _⟩ rfl rfl rfl [0] [1, 2, 3, 4, 5, 6, 7, 8, 9, 10, 11, 12, 13, 14, 15, 16, 17, 18, 19, 20] [20, 0, 1, 2, 3, 4, 5, 6, 7, 8, 9, 10, 11, 12, 13, 14, 15, 16, 17, 18, 19] rfl rfl (by decide) rfl (fun H locs hP hD hS => ?_)
                  replace hf := Option.some.inj hf
                  obtain ⟨er0, er1⟩ := Prod.mk.inj hf
                  obtain ⟨er2, er3⟩ := Prod.mk.inj er1
                  clear hf er1
                  subst er0
                  subst er2
                  subst er3
                  exact rt_i Cc hK hP hD hS dX4_copy_106
                · replace hf := (if_neg hc194).symm.trans hf
                  refine lv_aload hx hb dX4_copy_89 (lv_at hl 0 rfl) ?_
                  refine lv_iload hx hb dX4_copy_91 (lv_at hl 6 rfl) ?_
                  refine lv_iload hx hb dX4_copy_93 (lv_at hl 7 rfl) ?_
                  obtain ⟨q95_1, hq196, hf⟩ := Option.bind_eq_some_iff.mp hf
                  refine cV (ws' := (W_D cI cS a_d a_f a_t a_r a_z a_f_kind a_f_wet a_g a_g_kind a_g_wet a_r_cells a_r_hours a_r_cracked a_s0 a_s0_row a_s1 a_s1_row a_s2 a_s2_row a_s3 a_s3_row d_hour d_traced (0 : Int32) f_kind f_wet f_wide f_rows f_cells f_sun f_all f_firstColumn f_lastColumn t_hours t_opened t_firstWrong g_kind g_wet g_wide g_rows g_cells g_sun g_all g_firstColumn g_lastColumn r_cells r_hours r_cracked r_count S_row S_lane S_length)) (rest := []) (st1 := [.int q95_1]) Cc hK hA hP hD hS hl.1 (ctX2_has l D cI cS a_s1 a_s1_row (S_row 1) (S_lane 1) (S_length 1) p4 p5 n q95_1 hq196) ⟨tw_169, tw_166, tw_167, tw_168, tw_5⟩ mdX2_has ⟨rfl, rfl, Nat.le_of_ble_eq_true rfl, Nat.le_of_ble_eq_true rfl⟩ rfl dX4_copy_95 rfl (Nat.le_of_ble_eq_true rfl) ⟨Nat.zero_le _, Nat.zero_le _⟩ rfl rfl rfl [15, 16] [0, 1, 2, 3, 4, 5, 6, 7, 8, 9, 10, 11, 12, 13, 14, 17, 18, 19, 20] [0, 1, 2, 3, 4, 5, 6, 7, 8, 9, 10, 11, 12, 13, 14, 19, 20, 15, 16, 17, 18] rfl rfl (by decide) rfl (fun H locs hP hD hS => ?_)
                  refine lv_if_ne (tgt := 107) hx hb dX4_copy_98 (by decide) (fun hc197 => ?_) (fun hc197 => ?_)
                  · replace hf := (if_neg hc197).symm.trans hf
                    refine lv_aload hx hb dX4_copy_107 (lv_at hl 1 rfl) ?_
                    refine va_getN (D := D) (ci := 2) (v := .ref a_s3_row) (C := RX2) (T := TX2) (N := 3) hx hb hts inX2 hown hK hP 19 rfl rfl 0 (by decide) (va_Nw.use rfl (hnw _ nn_11)) (fun _ h9 => h9) rfl dX4_copy_109 ?_
                    refine lv_iload_n hx hb dX4_copy_112 rfl (lv_at hl 4 rfl) ?_
                    refine lv_aload hx hb dX4_copy_113 (lv_at hl 0 rfl) ?_
                    refine va_getN (D := D) (ci := 2) (v := .ref a_s1_row) (C := RX2) (T := TX2) (N := 3) hx hb hts inX2 hown hK hP 15 rfl rfl 0 (by decide) (va_Nw.use rfl (hnw _ nn_11)) (fun _ h9 => h9) rfl dX4_copy_115 ?_
                    refine lv_iload hx hb dX4_copy_118 (lv_at hl 6 rfl) ?_
                    refine lv_iload hx hb dX4_copy_120 (lv_at hl 7 rfl) ?_
                    obtain ⟨⟨g1, g2, g3, g4, g5⟩, hf⟩ := cpg_some hf
                    refine va_copyi hx hb (hml.trans hl.1.symm) hown (hts _ tw_454) (hts _ tw_native) (hts _ tw_455) (hts _ tw_9) hK hP hD hS 20 16 0 0 rfl rfl rfl rfl rfl g1 g2 g3 g4 g5 (fun _ _ => rfl) (Nat.le_of_ble_eq_true rfl) (Nat.le_of_ble_eq_true rfl) dX4_copy_122 (fun H locs hP hD hS => ?_)
                    have hP : va_P D classes (W_D cI cS a_d a_f a_t a_r a_z a_f_kind a_f_wet a_g a_g_kind a_g_wet a_r_cells a_r_hours a_r_cracked a_s0 a_s0_row a_s1 a_s1_row a_s2 a_s2_row a_s3 a_s3_row d_hour d_traced (0 : Int32) f_kind f_wet f_wide f_rows f_cells f_sun f_all f_firstColumn f_lastColumn t_hours t_opened t_firstWrong g_kind g_wet g_wide g_rows g_cells g_sun g_all g_firstColumn g_lastColumn r_cells r_hours r_cracked r_count (va_up S_row 1 (va_cpy (S_row 3) (S_row 1) p2.toNatClampNeg p4.toNatClampNeg p5.toNatClampNeg)) S_lane S_length) H := hP
                    have hD : va_D A (W_D cI cS a_d a_f a_t a_r a_z a_f_kind a_f_wet a_g a_g_kind a_g_wet a_r_cells a_r_hours a_r_cracked a_s0 a_s0_row a_s1 a_s1_row a_s2 a_s2_row a_s3 a_s3_row d_hour d_traced (0 : Int32) f_kind f_wet f_wide f_rows f_cells f_sun f_all f_firstColumn f_lastColumn t_hours t_opened t_firstWrong g_kind g_wet g_wide g_rows g_cells g_sun g_all g_firstColumn g_lastColumn r_cells r_hours r_cracked r_count (va_up S_row 1 (va_cpy (S_row 3) (S_row 1) p2.toNatClampNeg p4.toNatClampNeg p5.toNatClampNeg)) S_lane S_length) := hD
                    refine lv_iload hx hb dX4_copy_125 (lv_at hl 7 rfl) ?_
                    replace hf := Option.some.inj hf
                    obtain ⟨er0, er1⟩ := Prod.mk.inj hf
                    obtain ⟨er2, er3⟩ := Prod.mk.inj er1
                    clear hf er1
                    subst er0
                    subst er2
                    subst er3
                    exact rt_i Cc hK hP hD hS dX4_copy_127
                  · replace hf := (if_pos hc197).symm.trans hf
                    refine lv_aload_n hx hb dX4_copy_101 rfl (lv_at hl 2 rfl) ?_
                    refine lv_iconst (v := (3 : Int32)) hx hb dX4_copy_102 (by decide) ?_
                    obtain ⟨q103_1, hq198, hf⟩ := Option.bind_eq_some_iff.mp hf
                    refine cV (ws' := (W_D cI cS a_d a_f a_t a_r a_z a_f_kind a_f_wet a_g a_g_kind a_g_wet a_r_cells a_r_hours a_r_cracked a_s0 a_s0_row a_s1 a_s1_row a_s2 a_s2_row a_s3 a_s3_row d_hour d_traced q103_1.2 f_kind f_wet f_wide f_rows f_cells f_sun f_all f_firstColumn f_lastColumn t_hours t_opened t_firstWrong g_kind g_wet g_wide g_rows g_cells g_sun g_all g_firstColumn g_lastColumn r_cells r_hours r_cracked r_count S_row S_lane S_length)) (rest := []) (st1 := [.int q103_1.1]) Cc hK hA hP hD hS hl.1 (ctX4_faulted l D cI cS a_d a_f a_t a_r a_z d_hour d_traced (0 : Int32) (3 : Int32) n q103_1.1 q103_1.2 hq198) ⟨tw_173, tw_170, tw_172, tp_0, tw_1⟩ mdX4_faulted ⟨rfl, rfl, Nat.le_of_ble_eq_true rfl, Nat.le_of_ble_eq_true rfl⟩ rfl dX4_copy_103 rfl (Nat.le_of_ble_eq_true rfl) ⟨Nat.zero_le _, Nat.zero_le _⟩ rfl rfl rfl [0] [1, 2, 3, 4, 5, 6, 7, 8, 9, 10, 11, 12, 13, 14, 15, 16, 17, 18, 19, 20] [20, 0, 1, 2, 3, 4, 5, 6, 7, 8, 9, 10, 11, 12, 13, 14, 15, 16, 17, 18, 19] rfl rfl (by decide) rfl (fun H locs hP hD hS => ?_)
                    replace hf := Option.some.inj hf
                    obtain ⟨er0, er1⟩ := Prod.mk.inj hf
                    obtain ⟨er2, er3⟩ := Prod.mk.inj er1
                    clear hf er1
                    subst er0
                    subst er2
                    subst er3
                    exact rt_i Cc hK hP hD hS dX4_copy_106
              · replace hf := (if_neg hc192).symm.trans hf
                refine lv_aload_n hx hb dX4_copy_72 rfl (lv_at hl 2 rfl) ?_
                refine lv_iconst (v := (2 : Int32)) hx hb dX4_copy_73 (by decide) ?_
                obtain ⟨q74_1, hq199, hf⟩ := Option.bind_eq_some_iff.mp hf
                refine cV (ws' := (W_D cI cS a_d a_f a_t a_r a_z a_f_kind a_f_wet a_g a_g_kind a_g_wet a_r_cells a_r_hours a_r_cracked a_s0 a_s0_row a_s1 a_s1_row a_s2 a_s2_row a_s3 a_s3_row d_hour d_traced q74_1.2 f_kind f_wet f_wide f_rows f_cells f_sun f_all f_firstColumn f_lastColumn t_hours t_opened t_firstWrong g_kind g_wet g_wide g_rows g_cells g_sun g_all g_firstColumn g_lastColumn r_cells r_hours r_cracked r_count S_row S_lane S_length)) (rest := []) (st1 := [.int q74_1.1]) Cc hK hA hP hD hS hl.1 (ctX4_faulted l D cI cS a_d a_f a_t a_r a_z d_hour d_traced (0 : Int32) (2 : Int32) n q74_1.1 q74_1.2 hq199) ⟨tw_173, tw_170, tw_172, tp_0, tw_1⟩ mdX4_faulted ⟨rfl, rfl, Nat.le_of_ble_eq_true rfl, Nat.le_of_ble_eq_true rfl⟩ rfl dX4_copy_74 rfl (Nat.le_of_ble_eq_true rfl) ⟨Nat.zero_le _, Nat.zero_le _⟩ rfl rfl rfl [0] [1, 2, 3, 4, 5, 6, 7, 8, 9, 10, 11, 12, 13, 14, 15, 16, 17, 18, 19, 20] [20, 0, 1, 2, 3, 4, 5, 6, 7, 8, 9, 10, 11, 12, 13, 14, 15, 16, 17, 18, 19] rfl rfl (by decide) rfl (fun H locs hP hD hS => ?_)
                replace hf := Option.some.inj hf
                obtain ⟨er0, er1⟩ := Prod.mk.inj hf
                obtain ⟨er2, er3⟩ := Prod.mk.inj er1
                clear hf er1
                subst er0
                subst er2
                subst er3
                exact rt_i Cc hK hP hD hS dX4_copy_77
            · replace hf := (if_neg hc191).symm.trans hf
              refine lv_aload_n hx hb dX4_copy_53 rfl (lv_at hl 2 rfl) ?_
              refine lv_iconst (v := (1 : Int32)) hx hb dX4_copy_54 (by decide) ?_
              obtain ⟨q55_1, hq200, hf⟩ := Option.bind_eq_some_iff.mp hf
              refine cV (ws' := (W_D cI cS a_d a_f a_t a_r a_z a_f_kind a_f_wet a_g a_g_kind a_g_wet a_r_cells a_r_hours a_r_cracked a_s0 a_s0_row a_s1 a_s1_row a_s2 a_s2_row a_s3 a_s3_row d_hour d_traced q55_1.2 f_kind f_wet f_wide f_rows f_cells f_sun f_all f_firstColumn f_lastColumn t_hours t_opened t_firstWrong g_kind g_wet g_wide g_rows g_cells g_sun g_all g_firstColumn g_lastColumn r_cells r_hours r_cracked r_count S_row S_lane S_length)) (rest := []) (st1 := [.int q55_1.1]) Cc hK hA hP hD hS hl.1 (ctX4_faulted l D cI cS a_d a_f a_t a_r a_z d_hour d_traced (0 : Int32) (1 : Int32) n q55_1.1 q55_1.2 hq200) ⟨tw_173, tw_170, tw_172, tp_0, tw_1⟩ mdX4_faulted ⟨rfl, rfl, Nat.le_of_ble_eq_true rfl, Nat.le_of_ble_eq_true rfl⟩ rfl dX4_copy_55 rfl (Nat.le_of_ble_eq_true rfl) ⟨Nat.zero_le _, Nat.zero_le _⟩ rfl rfl rfl [0] [1, 2, 3, 4, 5, 6, 7, 8, 9, 10, 11, 12, 13, 14, 15, 16, 17, 18, 19, 20] [20, 0, 1, 2, 3, 4, 5, 6, 7, 8, 9, 10, 11, 12, 13, 14, 15, 16, 17, 18, 19] rfl rfl (by decide) rfl (fun H locs hP hD hS => ?_)
              replace hf := Option.some.inj hf
              obtain ⟨er0, er1⟩ := Prod.mk.inj hf
              obtain ⟨er2, er3⟩ := Prod.mk.inj er1
              clear hf er1
              subst er0
              subst er2
              subst er3
              exact rt_i Cc hK hP hD hS dX4_copy_58
        · refine W.eq (g2 := F0 m 35 ls [.ref a_s2]) rfl ?_
          refine lv_astore (lv' := [(7, .ref a_s2), (6, .ref a_s3), (0, .ref a_d), (1, .int p1), (2, .int p2), (3, .int p3), (4, .int p4), (5, .int p5)]) hx hb dX4_copy_35 hl (by decide) rfl (fun ls hl => ?_)
          refine lv_aload hx hb dX4_copy_37 (lv_at hl 1 rfl) ?_
          obtain ⟨q39_1, hq201, hf⟩ := Option.bind_eq_some_iff.mp hf
          refine cV (ws' := (W_D cI cS a_d a_f a_t a_r a_z a_f_kind a_f_wet a_g a_g_kind a_g_wet a_r_cells a_r_hours a_r_cracked a_s0 a_s0_row a_s1 a_s1_row a_s2 a_s2_row a_s3 a_s3_row d_hour d_traced (0 : Int32) f_kind f_wet f_wide f_rows f_cells f_sun f_all f_firstColumn f_lastColumn t_hours t_opened t_firstWrong g_kind g_wet g_wide g_rows g_cells g_sun g_all g_firstColumn g_lastColumn r_cells r_hours r_cracked r_count S_row S_lane S_length)) (rest := []) (st1 := [.int q39_1]) Cc hK hA hP hD hS hl.1 (ctX2_isNothing l D cI cS a_s3 a_s3_row (S_row 3) (S_lane 3) (S_length 3)  n q39_1 hq201) ⟨tw_165, tw_428, tw_163, tw_164, tw_5⟩ mdX2_isNothing ⟨rfl, rfl, Nat.le_of_ble_eq_true rfl, Nat.le_of_ble_eq_true rfl⟩ rfl dX4_copy_39 rfl (Nat.le_of_ble_eq_true rfl) ⟨Nat.zero_le _, Nat.zero_le _⟩ rfl rfl rfl [19, 20] [0, 1, 2, 3, 4, 5, 6, 7, 8, 9, 10, 11, 12, 13, 14, 15, 16, 17, 18] [0, 1, 2, 3, 4, 5, 6, 7, 8, 9, 10, 11, 12, 13, 14, 15, 16, 17, 18, 19, 20] rfl rfl (by decide) rfl (fun H locs hP hD hS => ?_)
          refine lv_if_ne (tgt := 53) hx hb dX4_copy_42 (by decide) (fun hc202 => ?_) (fun hc202 => ?_)
          · replace hf := (if_neg hc202).symm.trans hf
            refine lv_aload_n hx hb dX4_copy_53 rfl (lv_at hl 2 rfl) ?_
            refine lv_iconst (v := (1 : Int32)) hx hb dX4_copy_54 (by decide) ?_
            obtain ⟨q55_1, hq203, hf⟩ := Option.bind_eq_some_iff.mp hf
            refine cV (ws' := (W_D cI cS a_d a_f a_t a_r a_z a_f_kind a_f_wet a_g a_g_kind a_g_wet a_r_cells a_r_hours a_r_cracked a_s0 a_s0_row a_s1 a_s1_row a_s2 a_s2_row a_s3 a_s3_row d_hour d_traced q55_1.2 f_kind f_wet f_wide f_rows f_cells f_sun f_all f_firstColumn f_lastColumn t_hours t_opened t_firstWrong g_kind g_wet g_wide g_rows g_cells g_sun g_all g_firstColumn g_lastColumn r_cells r_hours r_cracked r_count S_row S_lane S_length)) (rest := []) (st1 := [.int q55_1.1]) Cc hK hA hP hD hS hl.1 (ctX4_faulted l D cI cS a_d a_f a_t a_r a_z d_hour d_traced (0 : Int32) (1 : Int32) n q55_1.1 q55_1.2 hq203) ⟨tw_173, tw_170, tw_172, tp_0, tw_1⟩ mdX4_faulted ⟨rfl, rfl, Nat.le_of_ble_eq_true rfl, Nat.le_of_ble_eq_true rfl⟩ rfl dX4_copy_55 rfl (Nat.le_of_ble_eq_true rfl) ⟨Nat.zero_le _, Nat.zero_le _⟩ rfl rfl rfl [0] [1, 2, 3, 4, 5, 6, 7, 8, 9, 10, 11, 12, 13, 14, 15, 16, 17, 18, 19, 20] [20, 0, 1, 2, 3, 4, 5, 6, 7, 8, 9, 10, 11, 12, 13, 14, 15, 16, 17, 18, 19] rfl rfl (by decide) rfl (fun H locs hP hD hS => ?_)
            replace hf := Option.some.inj hf
            obtain ⟨er0, er1⟩ := Prod.mk.inj hf
            obtain ⟨er2, er3⟩ := Prod.mk.inj er1
            clear hf er1
            subst er0
            subst er2
            subst er3
            exact rt_i Cc hK hP hD hS dX4_copy_58
          · replace hf := (if_pos hc202).symm.trans hf
            refine lv_aload hx hb dX4_copy_45 (lv_at hl 0 rfl) ?_
            obtain ⟨q47_1, hq204, hf⟩ := Option.bind_eq_some_iff.mp hf
            refine cV (ws' := (W_D cI cS a_d a_f a_t a_r a_z a_f_kind a_f_wet a_g a_g_kind a_g_wet a_r_cells a_r_hours a_r_cracked a_s0 a_s0_row a_s1 a_s1_row a_s2 a_s2_row a_s3 a_s3_row d_hour d_traced (0 : Int32) f_kind f_wet f_wide f_rows f_cells f_sun f_all f_firstColumn f_lastColumn t_hours t_opened t_firstWrong g_kind g_wet g_wide g_rows g_cells g_sun g_all g_firstColumn g_lastColumn r_cells r_hours r_cracked r_count S_row S_lane S_length)) (rest := []) (st1 := [.int q47_1]) Cc hK hA hP hD hS hl.1 (ctX2_isNothing l D cI cS a_s2 a_s2_row (S_row 2) (S_lane 2) (S_length 2)  n q47_1 hq204) ⟨tw_165, tw_428, tw_163, tw_164, tw_5⟩ mdX2_isNothing ⟨rfl, rfl, Nat.le_of_ble_eq_true rfl, Nat.le_of_ble_eq_true rfl⟩ rfl dX4_copy_47 rfl (Nat.le_of_ble_eq_true rfl) ⟨Nat.zero_le _, Nat.zero_le _⟩ rfl rfl rfl [17, 18] [0, 1, 2, 3, 4, 5, 6, 7, 8, 9, 10, 11, 12, 13, 14, 15, 16, 19, 20] [0, 1, 2, 3, 4, 5, 6, 7, 8, 9, 10, 11, 12, 13, 14, 15, 16, 19, 20, 17, 18] rfl rfl (by decide) rfl (fun H locs hP hD hS => ?_)
            refine lv_if_eq (tgt := 59) hx hb dX4_copy_50 (by decide) (fun hc205 => ?_) (fun hc205 => ?_)
            · replace hf := (if_pos hc205).symm.trans hf
              refine lv_aload hx hb dX4_copy_59 (lv_at hl 1 rfl) ?_
              refine va_getN (D := D) (ci := 2) (v := .int (S_lane 3)) (C := RX2) (T := TX2) (N := 3) hx hb hts inX2 hown hK hP 19 rfl rfl 1 (by decide) (va_Nw.use rfl (hnw _ nn_12)) (fun _ h9 => h9) rfl dX4_copy_61 ?_
              refine lv_aload hx hb dX4_copy_64 (lv_at hl 0 rfl) ?_
              refine va_getN (D := D) (ci := 2) (v := .int (S_lane 2)) (C := RX2) (T := TX2) (N := 3) hx hb hts inX2 hown hK hP 17 rfl rfl 1 (by decide) (va_Nw.use rfl (hnw _ nn_12)) (fun _ h9 => h9) rfl dX4_copy_66 ?_
              refine lv_icmp_eq (tgt := 78) hx hb dX4_copy_69 (by decide) (fun hc206 => ?_) (fun hc206 => ?_)
              · replace hf := (if_pos hc206).symm.trans hf
                refine lv_aload hx hb dX4_copy_78 (lv_at hl 1 rfl) ?_
                refine lv_iload_n hx hb dX4_copy_80 rfl (lv_at hl 4 rfl) ?_
                refine lv_iload hx hb dX4_copy_81 (lv_at hl 7 rfl) ?_
                obtain ⟨q83_1, hq207, hf⟩ := Option.bind_eq_some_iff.mp hf
                refine cV (ws' := (W_D cI cS a_d a_f a_t a_r a_z a_f_kind a_f_wet a_g a_g_kind a_g_wet a_r_cells a_r_hours a_r_cracked a_s0 a_s0_row a_s1 a_s1_row a_s2 a_s2_row a_s3 a_s3_row d_hour d_traced (0 : Int32) f_kind f_wet f_wide f_rows f_cells f_sun f_all f_firstColumn f_lastColumn t_hours t_opened t_firstWrong g_kind g_wet g_wide g_rows g_cells g_sun g_all g_firstColumn g_lastColumn r_cells r_hours r_cracked r_count S_row S_lane S_length)) (rest := []) (st1 := [.int q83_1]) Cc hK hA hP hD hS hl.1 (ctX2_has l D cI cS a_s3 a_s3_row (S_row 3) (S_lane 3) (S_length 3) p2 p5 n q83_1 hq207) ⟨tw_169, tw_166, tw_167, tw_168, tw_5⟩ mdX2_has ⟨rfl, rfl, Nat.le_of_ble_eq_true rfl, Nat.le_of_ble_eq_true rfl⟩ rfl dX4_copy_83 rfl (Nat.le_of_ble_eq_true rfl) ⟨Nat.zero_le _, Nat.zero_le _⟩ rfl rfl rfl [19, 20] [0, 1, 2, 3, 4, 5, 6, 7, 8, 9, 10, 11, 12, 13, 14, 15, 16, 17, 18] [0, 1, 2, 3, 4, 5, 6, 7, 8, 9, 10, 11, 12, 13, 14, 15, 16, 17, 18, 19, 20] rfl rfl (by decide) rfl (fun H locs hP hD hS => ?_)
                refine lv_if_eq (tgt := 101) hx hb dX4_copy_86 (by decide) (fun hc208 => ?_) (fun hc208 => ?_)
                · replace hf := (if_pos hc208).symm.trans hf
                  refine lv_aload_n hx hb dX4_copy_101 rfl (lv_at hl 2 rfl) ?_
                  refine lv_iconst (v := (3 : Int32)) hx hb dX4_copy_102 (by decide) ?_
                  obtain ⟨q103_1, hq209, hf⟩ := Option.bind_eq_some_iff.mp hf
                  refine cV (ws' := (W_D cI cS a_d a_f a_t a_r a_z a_f_kind a_f_wet a_g a_g_kind a_g_wet a_r_cells a_r_hours a_r_cracked a_s0 a_s0_row a_s1 a_s1_row a_s2 a_s2_row a_s3 a_s3_row d_hour d_traced q103_1.2 f_kind f_wet f_wide f_rows f_cells f_sun f_all f_firstColumn f_lastColumn t_hours t_opened t_firstWrong g_kind g_wet g_wide g_rows g_cells g_sun g_all g_firstColumn g_lastColumn r_cells r_hours r_cracked r_count S_row S_lane S_length)) (rest := []) (st1 := [.int q103_1.1]) Cc hK hA hP hD hS hl.1 (ctX4_faulted l D cI cS a_d a_f a_t a_r a_z d_hour d_traced (0 : Int32) (3 : Int32) n q103_1.1 q103_1.2 hq209) ⟨tw_173, tw_170, tw_172, tp_0, tw_1⟩ mdX4_faulted ⟨rfl, rfl, Nat.le_of_ble_eq_true rfl, Nat.le_of_ble_eq_true rfl⟩ rfl dX4_copy_103 rfl (Nat.le_of_ble_eq_true rfl) ⟨Nat.zero_le _, Nat.zero_le _⟩ rfl rfl rfl [0] [1, 2, 3, 4, 5, 6, 7, 8, 9, 10, 11, 12, 13, 14, 15, 16, 17, 18, 19, 20] [20, 0, 1, 2, 3, 4, 5, 6, 7, 8, 9, 10, 11, 12, 13, 14, 15, 16, 17, 18, 19] rfl rfl (by decide) rfl (fun H locs hP hD hS => ?_)
                  replace hf := Option.some.inj hf
                  obtain ⟨er0, er1⟩ := Prod.mk.inj hf
                  obtain ⟨er2, er3⟩ := Prod.mk.inj er1
                  clear hf er1
                  subst er0
                  subst er2
                  subst er3
                  exact rt_i Cc hK hP hD hS dX4_copy_106
                · replace hf := (if_neg hc208).symm.trans hf
                  refine lv_aload hx hb dX4_copy_89 (lv_at hl 0 rfl) ?_
                  refine lv_iload hx hb dX4_copy_91 (lv_at hl 6 rfl) ?_
                  refine lv_iload hx hb dX4_copy_93 (lv_at hl 7 rfl) ?_
                  obtain ⟨q95_1, hq210, hf⟩ := Option.bind_eq_some_iff.mp hf
                  refine cV (ws' := (W_D cI cS a_d a_f a_t a_r a_z a_f_kind a_f_wet a_g a_g_kind a_g_wet a_r_cells a_r_hours a_r_cracked a_s0 a_s0_row a_s1 a_s1_row a_s2 a_s2_row a_s3 a_s3_row d_hour d_traced (0 : Int32) f_kind f_wet f_wide f_rows f_cells f_sun f_all f_firstColumn f_lastColumn t_hours t_opened t_firstWrong g_kind g_wet g_wide g_rows g_cells g_sun g_all g_firstColumn g_lastColumn r_cells r_hours r_cracked r_count S_row S_lane S_length)) (rest := []) (st1 := [.int q95_1]) Cc hK hA hP hD hS hl.1 (ctX2_has l D cI cS a_s2 a_s2_row (S_row 2) (S_lane 2) (S_length 2) p4 p5 n q95_1 hq210) ⟨tw_169, tw_166, tw_167, tw_168, tw_5⟩ mdX2_has ⟨rfl, rfl, Nat.le_of_ble_eq_true rfl, Nat.le_of_ble_eq_true rfl⟩ rfl dX4_copy_95 rfl (Nat.le_of_ble_eq_true rfl) ⟨Nat.zero_le _, Nat.zero_le _⟩ rfl rfl rfl [17, 18] [0, 1, 2, 3, 4, 5, 6, 7, 8, 9, 10, 11, 12, 13, 14, 15, 16, 19, 20] [0, 1, 2, 3, 4, 5, 6, 7, 8, 9, 10, 11, 12, 13, 14, 15, 16, 19, 20, 17, 18] rfl rfl (by decide) rfl (fun H locs hP hD hS => ?_)
                  refine lv_if_ne (tgt := 107) hx hb dX4_copy_98 (by decide) (fun hc211 => ?_) (fun hc211 => ?_)
                  · replace hf := (if_neg hc211).symm.trans hf
                    refine lv_aload hx hb dX4_copy_107 (lv_at hl 1 rfl) ?_
                    refine va_getN (D := D) (ci := 2) (v := .ref a_s3_row) (C := RX2) (T := TX2) (N := 3) hx hb hts inX2 hown hK hP 19 rfl rfl 0 (by decide) (va_Nw.use rfl (hnw _ nn_11)) (fun _ h9 => h9) rfl dX4_copy_109 ?_
                    refine lv_iload_n hx hb dX4_copy_112 rfl (lv_at hl 4 rfl) ?_
                    refine lv_aload hx hb dX4_copy_113 (lv_at hl 0 rfl) ?_
                    refine va_getN (D := D) (ci := 2) (v := .ref a_s2_row) (C := RX2) (T := TX2) (N := 3) hx hb hts inX2 hown hK hP 17 rfl rfl 0 (by decide) (va_Nw.use rfl (hnw _ nn_11)) (fun _ h9 => h9) rfl dX4_copy_115 ?_
                    refine lv_iload hx hb dX4_copy_118 (lv_at hl 6 rfl) ?_
                    refine lv_iload hx hb dX4_copy_120 (lv_at hl 7 rfl) ?_
                    obtain ⟨⟨g1, g2, g3, g4, g5⟩, hf⟩ := cpg_some hf
                    refine va_copyi hx hb (hml.trans hl.1.symm) hown (hts _ tw_454) (hts _ tw_native) (hts _ tw_455) (hts _ tw_9) hK hP hD hS 20 18 0 0 rfl rfl rfl rfl rfl g1 g2 g3 g4 g5 (fun _ _ => rfl) (Nat.le_of_ble_eq_true rfl) (Nat.le_of_ble_eq_true rfl) dX4_copy_122 (fun H locs hP hD hS => ?_)
                    have hP : va_P D classes (W_D cI cS a_d a_f a_t a_r a_z a_f_kind a_f_wet a_g a_g_kind a_g_wet a_r_cells a_r_hours a_r_cracked a_s0 a_s0_row a_s1 a_s1_row a_s2 a_s2_row a_s3 a_s3_row d_hour d_traced (0 : Int32) f_kind f_wet f_wide f_rows f_cells f_sun f_all f_firstColumn f_lastColumn t_hours t_opened t_firstWrong g_kind g_wet g_wide g_rows g_cells g_sun g_all g_firstColumn g_lastColumn r_cells r_hours r_cracked r_count (va_up S_row 2 (va_cpy (S_row 3) (S_row 2) p2.toNatClampNeg p4.toNatClampNeg p5.toNatClampNeg)) S_lane S_length) H := hP
                    have hD : va_D A (W_D cI cS a_d a_f a_t a_r a_z a_f_kind a_f_wet a_g a_g_kind a_g_wet a_r_cells a_r_hours a_r_cracked a_s0 a_s0_row a_s1 a_s1_row a_s2 a_s2_row a_s3 a_s3_row d_hour d_traced (0 : Int32) f_kind f_wet f_wide f_rows f_cells f_sun f_all f_firstColumn f_lastColumn t_hours t_opened t_firstWrong g_kind g_wet g_wide g_rows g_cells g_sun g_all g_firstColumn g_lastColumn r_cells r_hours r_cracked r_count (va_up S_row 2 (va_cpy (S_row 3) (S_row 2) p2.toNatClampNeg p4.toNatClampNeg p5.toNatClampNeg)) S_lane S_length) := hD
                    refine lv_iload hx hb dX4_copy_125 (lv_at hl 7 rfl) ?_
                    replace hf := Option.some.inj hf
                    obtain ⟨er0, er1⟩ := Prod.mk.inj hf
                    obtain ⟨er2, er3⟩ := Prod.mk.inj er1
                    clear hf er1
                    subst er0
                    subst er2
                    subst er3
                    exact rt_i Cc hK hP hD hS dX4_copy_127
                  · replace hf := (if_pos hc211).symm.trans hf
                    refine lv_aload_n hx hb dX4_copy_101 rfl (lv_at hl 2 rfl) ?_
                    refine lv_iconst (v := (3 : Int32)) hx hb dX4_copy_102 (by decide) ?_
                    obtain ⟨q103_1, hq212, hf⟩ := Option.bind_eq_some_iff.mp hf
                    refine cV (ws' := (W_D cI cS a_d a_f a_t a_r a_z a_f_kind a_f_wet a_g a_g_kind a_g_wet a_r_cells a_r_hours a_r_cracked a_s0 a_s0_row a_s1 a_s1_row a_s2 a_s2_row a_s3 a_s3_row d_hour d_traced q103_1.2 f_kind f_wet f_wide f_rows f_cells f_sun f_all f_firstColumn f_lastColumn t_hours t_opened t_firstWrong g_kind g_wet g_wide g_rows g_cells g_sun g_all g_firstColumn g_lastColumn r_cells r_hours r_cracked r_count S_row S_lane S_length)) (rest := []) (st1 := [.int q103_1.1]) Cc hK hA hP hD hS hl.1 (ctX4_faulted l D cI cS a_d a_f a_t a_r a_z d_hour d_traced (0 : Int32) (3 : Int32) n q103_1.1 q103_1.2 hq212) ⟨tw_173, tw_170, tw_172, tp_0, tw_1⟩ mdX4_faulted ⟨rfl, rfl, Nat.le_of_ble_eq_true rfl, Nat.le_of_ble_eq_true rfl⟩ rfl dX4_copy_103 rfl (Nat.le_of_ble_eq_true rfl) ⟨Nat.zero_le _, Nat.zero_le _⟩ rfl rfl rfl [0] [1, 2, 3, 4, 5, 6, 7, 8, 9, 10, 11, 12, 13, 14, 15, 16, 17, 18, 19, 20] [20, 0, 1, 2, 3, 4, 5, 6, 7, 8, 9, 10, 11, 12, 13, 14, 15, 16, 17, 18, 19] rfl rfl (by decide) rfl (fun H locs hP hD hS => ?_)
                    replace hf := Option.some.inj hf
                    obtain ⟨er0, er1⟩ := Prod.mk.inj hf
                    obtain ⟨er2, er3⟩ := Prod.mk.inj er1
                    clear hf er1
                    subst er0
                    subst er2
                    subst er3
                    exact rt_i Cc hK hP hD hS dX4_copy_106
              · replace hf := (if_neg hc206).symm.trans hf
                refine lv_aload_n hx hb dX4_copy_72 rfl (lv_at hl 2 rfl) ?_
                refine lv_iconst (v := (2 : Int32)) hx hb dX4_copy_73 (by decide) ?_
                obtain ⟨q74_1, hq213, hf⟩ := Option.bind_eq_some_iff.mp hf
                refine cV (ws' := (W_D cI cS a_d a_f a_t a_r a_z a_f_kind a_f_wet a_g a_g_kind a_g_wet a_r_cells a_r_hours a_r_cracked a_s0 a_s0_row a_s1 a_s1_row a_s2 a_s2_row a_s3 a_s3_row d_hour d_traced q74_1.2 f_kind f_wet f_wide f_rows f_cells f_sun f_all f_firstColumn f_lastColumn t_hours t_opened t_firstWrong g_kind g_wet g_wide g_rows g_cells g_sun g_all g_firstColumn g_lastColumn r_cells r_hours r_cracked r_count S_row S_lane S_length)) (rest := []) (st1 := [.int q74_1.1]) Cc hK hA hP hD hS hl.1 (ctX4_faulted l D cI cS a_d a_f a_t a_r a_z d_hour d_traced (0 : Int32) (2 : Int32) n q74_1.1 q74_1.2 hq213) ⟨tw_173, tw_170, tw_172, tp_0, tw_1⟩ mdX4_faulted ⟨rfl, rfl, Nat.le_of_ble_eq_true rfl, Nat.le_of_ble_eq_true rfl⟩ rfl dX4_copy_74 rfl (Nat.le_of_ble_eq_true rfl) ⟨Nat.zero_le _, Nat.zero_le _⟩ rfl rfl rfl [0] [1, 2, 3, 4, 5, 6, 7, 8, 9, 10, 11, 12, 13, 14, 15, 16, 17, 18, 19, 20] [20, 0, 1, 2, 3, 4, 5, 6, 7, 8, 9, 10, 11, 12, 13, 14, 15, 16, 17, 18, 19] rfl rfl (by decide) rfl (fun H locs hP hD hS => ?_)
                replace hf := Option.some.inj hf
                obtain ⟨er0, er1⟩ := Prod.mk.inj hf
                obtain ⟨er2, er3⟩ := Prod.mk.inj er1
                clear hf er1
                subst er0
                subst er2
                subst er3
                exact rt_i Cc hK hP hD hS dX4_copy_77
            · replace hf := (if_neg hc205).symm.trans hf
              refine lv_aload_n hx hb dX4_copy_53 rfl (lv_at hl 2 rfl) ?_
              refine lv_iconst (v := (1 : Int32)) hx hb dX4_copy_54 (by decide) ?_
              obtain ⟨q55_1, hq214, hf⟩ := Option.bind_eq_some_iff.mp hf
              refine cV (ws' := (W_D cI cS a_d a_f a_t a_r a_z a_f_kind a_f_wet a_g a_g_kind a_g_wet a_r_cells a_r_hours a_r_cracked a_s0 a_s0_row a_s1 a_s1_row a_s2 a_s2_row a_s3 a_s3_row d_hour d_traced q55_1.2 f_kind f_wet f_wide f_rows f_cells f_sun f_all f_firstColumn f_lastColumn t_hours t_opened t_firstWrong g_kind g_wet g_wide g_rows g_cells g_sun g_all g_firstColumn g_lastColumn r_cells r_hours r_cracked r_count S_row S_lane S_length)) (rest := []) (st1 := [.int q55_1.1]) Cc hK hA hP hD hS hl.1 (ctX4_faulted l D cI cS a_d a_f a_t a_r a_z d_hour d_traced (0 : Int32) (1 : Int32) n q55_1.1 q55_1.2 hq214) ⟨tw_173, tw_170, tw_172, tp_0, tw_1⟩ mdX4_faulted ⟨rfl, rfl, Nat.le_of_ble_eq_true rfl, Nat.le_of_ble_eq_true rfl⟩ rfl dX4_copy_55 rfl (Nat.le_of_ble_eq_true rfl) ⟨Nat.zero_le _, Nat.zero_le _⟩ rfl rfl rfl [0] [1, 2, 3, 4, 5, 6, 7, 8, 9, 10, 11, 12, 13, 14, 15, 16, 17, 18, 19, 20] [20, 0, 1, 2, 3, 4, 5, 6, 7, 8, 9, 10, 11, 12, 13, 14, 15, 16, 17, 18, 19] rfl rfl (by decide) rfl (fun H locs hP hD hS => ?_)
              replace hf := Option.some.inj hf
              obtain ⟨er0, er1⟩ := Prod.mk.inj hf
              obtain ⟨er2, er3⟩ := Prod.mk.inj er1
              clear hf er1
              subst er0
              subst er2
              subst er3
              exact rt_i Cc hK hP hD hS dX4_copy_58
        · refine W.eq (g2 := F0 m 35 ls [.ref a_s3]) rfl ?_
          refine lv_astore (lv' := [(7, .ref a_s3), (6, .ref a_s3), (0, .ref a_d), (1, .int p1), (2, .int p2), (3, .int p3), (4, .int p4), (5, .int p5)]) hx hb dX4_copy_35 hl (by decide) rfl (fun ls hl => ?_)
          refine lv_aload hx hb dX4_copy_37 (lv_at hl 1 rfl) ?_
          obtain ⟨q39_1, hq215, hf⟩ := Option.bind_eq_some_iff.mp hf
          refine cV (ws' := (W_D cI cS a_d a_f a_t a_r a_z a_f_kind a_f_wet a_g a_g_kind a_g_wet a_r_cells a_r_hours a_r_cracked a_s0 a_s0_row a_s1 a_s1_row a_s2 a_s2_row a_s3 a_s3_row d_hour d_traced (0 : Int32) f_kind f_wet f_wide f_rows f_cells f_sun f_all f_firstColumn f_lastColumn t_hours t_opened t_firstWrong g_kind g_wet g_wide g_rows g_cells g_sun g_all g_firstColumn g_lastColumn r_cells r_hours r_cracked r_count S_row S_lane S_length)) (rest := []) (st1 := [.int q39_1]) Cc hK hA hP hD hS hl.1 (ctX2_isNothing l D cI cS a_s3 a_s3_row (S_row 3) (S_lane 3) (S_length 3)  n q39_1 hq215) ⟨tw_165, tw_428, tw_163, tw_164, tw_5⟩ mdX2_isNothing ⟨rfl, rfl, Nat.le_of_ble_eq_true rfl, Nat.le_of_ble_eq_true rfl⟩ rfl dX4_copy_39 rfl (Nat.le_of_ble_eq_true rfl) ⟨Nat.zero_le _, Nat.zero_le _⟩ rfl rfl rfl [19, 20] [0, 1, 2, 3, 4, 5, 6, 7, 8, 9, 10, 11, 12, 13, 14, 15, 16, 17, 18] [0, 1, 2, 3, 4, 5, 6, 7, 8, 9, 10, 11, 12, 13, 14, 15, 16, 17, 18, 19, 20] rfl rfl (by decide) rfl (fun H locs hP hD hS => ?_)
          refine lv_if_ne (tgt := 53) hx hb dX4_copy_42 (by decide) (fun hc216 => ?_) (fun hc216 => ?_)
          · replace hf := (if_neg hc216).symm.trans hf
            refine lv_aload_n hx hb dX4_copy_53 rfl (lv_at hl 2 rfl) ?_
            refine lv_iconst (v := (1 : Int32)) hx hb dX4_copy_54 (by decide) ?_
            obtain ⟨q55_1, hq217, hf⟩ := Option.bind_eq_some_iff.mp hf
            refine cV (ws' := (W_D cI cS a_d a_f a_t a_r a_z a_f_kind a_f_wet a_g a_g_kind a_g_wet a_r_cells a_r_hours a_r_cracked a_s0 a_s0_row a_s1 a_s1_row a_s2 a_s2_row a_s3 a_s3_row d_hour d_traced q55_1.2 f_kind f_wet f_wide f_rows f_cells f_sun f_all f_firstColumn f_lastColumn t_hours t_opened t_firstWrong g_kind g_wet g_wide g_rows g_cells g_sun g_all g_firstColumn g_lastColumn r_cells r_hours r_cracked r_count S_row S_lane S_length)) (rest := []) (st1 := [.int q55_1.1]) Cc hK hA hP hD hS hl.1 (ctX4_faulted l D cI cS a_d a_f a_t a_r a_z d_hour d_traced (0 : Int32) (1 : Int32) n q55_1.1 q55_1.2 hq217) ⟨tw_173, tw_170, tw_172, tp_0, tw_1⟩ mdX4_faulted ⟨rfl, rfl, Nat.le_of_ble_eq_true rfl, Nat.le_of_ble_eq_true rfl⟩ rfl dX4_copy_55 rfl (Nat.le_of_ble_eq_true rfl) ⟨Nat.zero_le _, Nat.zero_le _⟩ rfl rfl rfl [0] [1, 2, 3, 4, 5, 6, 7, 8, 9, 10, 11, 12, 13, 14, 15, 16, 17, 18, 19, 20] [20, 0, 1, 2, 3, 4, 5, 6, 7, 8, 9, 10, 11, 12, 13, 14, 15, 16, 17, 18, 19] rfl rfl (by decide) rfl (fun H locs hP hD hS => ?_)
            replace hf := Option.some.inj hf
            obtain ⟨er0, er1⟩ := Prod.mk.inj hf
            obtain ⟨er2, er3⟩ := Prod.mk.inj er1
            clear hf er1
            subst er0
            subst er2
            subst er3
            exact rt_i Cc hK hP hD hS dX4_copy_58
          · replace hf := (if_pos hc216).symm.trans hf
            refine lv_aload hx hb dX4_copy_45 (lv_at hl 0 rfl) ?_
            obtain ⟨q47_1, hq218, hf⟩ := Option.bind_eq_some_iff.mp hf
            refine cV (ws' := (W_D cI cS a_d a_f a_t a_r a_z a_f_kind a_f_wet a_g a_g_kind a_g_wet a_r_cells a_r_hours a_r_cracked a_s0 a_s0_row a_s1 a_s1_row a_s2 a_s2_row a_s3 a_s3_row d_hour d_traced (0 : Int32) f_kind f_wet f_wide f_rows f_cells f_sun f_all f_firstColumn f_lastColumn t_hours t_opened t_firstWrong g_kind g_wet g_wide g_rows g_cells g_sun g_all g_firstColumn g_lastColumn r_cells r_hours r_cracked r_count S_row S_lane S_length)) (rest := []) (st1 := [.int q47_1]) Cc hK hA hP hD hS hl.1 (ctX2_isNothing l D cI cS a_s3 a_s3_row (S_row 3) (S_lane 3) (S_length 3)  n q47_1 hq218) ⟨tw_165, tw_428, tw_163, tw_164, tw_5⟩ mdX2_isNothing ⟨rfl, rfl, Nat.le_of_ble_eq_true rfl, Nat.le_of_ble_eq_true rfl⟩ rfl dX4_copy_47 rfl (Nat.le_of_ble_eq_true rfl) ⟨Nat.zero_le _, Nat.zero_le _⟩ rfl rfl rfl [19, 20] [0, 1, 2, 3, 4, 5, 6, 7, 8, 9, 10, 11, 12, 13, 14, 15, 16, 17, 18] [0, 1, 2, 3, 4, 5, 6, 7, 8, 9, 10, 11, 12, 13, 14, 15, 16, 17, 18, 19, 20] rfl rfl (by decide) rfl (fun H locs hP hD hS => ?_)
            refine lv_if_eq (tgt := 59) hx hb dX4_copy_50 (by decide) (fun hc219 => ?_) (fun hc219 => ?_)
            · replace hf := (if_pos hc219).symm.trans hf
              refine lv_aload hx hb dX4_copy_59 (lv_at hl 1 rfl) ?_
              refine va_getN (D := D) (ci := 2) (v := .int (S_lane 3)) (C := RX2) (T := TX2) (N := 3) hx hb hts inX2 hown hK hP 19 rfl rfl 1 (by decide) (va_Nw.use rfl (hnw _ nn_12)) (fun _ h9 => h9) rfl dX4_copy_61 ?_
              refine lv_aload hx hb dX4_copy_64 (lv_at hl 0 rfl) ?_
              refine va_getN (D := D) (ci := 2) (v := .int (S_lane 3)) (C := RX2) (T := TX2) (N := 3) hx hb hts inX2 hown hK hP 19 rfl rfl 1 (by decide) (va_Nw.use rfl (hnw _ nn_12)) (fun _ h9 => h9) rfl dX4_copy_66 ?_
              refine lv_icmp_eq (tgt := 78) hx hb dX4_copy_69 (by decide) (fun hc220 => ?_) (fun hc220 => ?_)
              · replace hf := (if_pos hc220).symm.trans hf
                refine lv_aload hx hb dX4_copy_78 (lv_at hl 1 rfl) ?_
                refine lv_iload_n hx hb dX4_copy_80 rfl (lv_at hl 4 rfl) ?_
                refine lv_iload hx hb dX4_copy_81 (lv_at hl 7 rfl) ?_
                obtain ⟨q83_1, hq221, hf⟩ := Option.bind_eq_some_iff.mp hf
                refine cV (ws' := (W_D cI cS a_d a_f a_t a_r a_z a_f_kind a_f_wet a_g a_g_kind a_g_wet a_r_cells a_r_hours a_r_cracked a_s0 a_s0_row a_s1 a_s1_row a_s2 a_s2_row a_s3 a_s3_row d_hour d_traced (0 : Int32) f_kind f_wet f_wide f_rows f_cells f_sun f_all f_firstColumn f_lastColumn t_hours t_opened t_firstWrong g_kind g_wet g_wide g_rows g_cells g_sun g_all g_firstColumn g_lastColumn r_cells r_hours r_cracked r_count S_row S_lane S_length)) (rest := []) (st1 := [.int q83_1]) Cc hK hA hP hD hS hl.1 (ctX2_has l D cI cS a_s3 a_s3_row (S_row 3) (S_lane 3) (S_length 3) p2 p5 n q83_1 hq221) ⟨tw_169, tw_166, tw_167, tw_168, tw_5⟩ mdX2_has ⟨rfl, rfl, Nat.le_of_ble_eq_true rfl, Nat.le_of_ble_eq_true rfl⟩ rfl dX4_copy_83 rfl (Nat.le_of_ble_eq_true rfl) ⟨Nat.zero_le _, Nat.zero_le _⟩ rfl rfl rfl [19, 20] [0, 1, 2, 3, 4, 5, 6, 7, 8, 9, 10, 11, 12, 13, 14, 15, 16, 17, 18] [0, 1, 2, 3, 4, 5, 6, 7, 8, 9, 10, 11, 12, 13, 14, 15, 16, 17, 18, 19, 20] rfl rfl (by decide) rfl (fun H locs hP hD hS => ?_)
                refine lv_if_eq (tgt := 101) hx hb dX4_copy_86 (by decide) (fun hc222 => ?_) (fun hc222 => ?_)
                · replace hf := (if_pos hc222).symm.trans hf
                  refine lv_aload_n hx hb dX4_copy_101 rfl (lv_at hl 2 rfl) ?_
                  refine lv_iconst (v := (3 : Int32)) hx hb dX4_copy_102 (by decide) ?_
                  obtain ⟨q103_1, hq223, hf⟩ := Option.bind_eq_some_iff.mp hf
                  refine cV (ws' := (W_D cI cS a_d a_f a_t a_r a_z a_f_kind a_f_wet a_g a_g_kind a_g_wet a_r_cells a_r_hours a_r_cracked a_s0 a_s0_row a_s1 a_s1_row a_s2 a_s2_row a_s3 a_s3_row d_hour d_traced q103_1.2 f_kind f_wet f_wide f_rows f_cells f_sun f_all f_firstColumn f_lastColumn t_hours t_opened t_firstWrong g_kind g_wet g_wide g_rows g_cells g_sun g_all g_firstColumn g_lastColumn r_cells r_hours r_cracked r_count S_row S_lane S_length)) (rest := []) (st1 := [.int q103_1.1]) Cc hK hA hP hD hS hl.1 (ctX4_faulted l D cI cS a_d a_f a_t a_r a_z d_hour d_traced (0 : Int32) (3 : Int32) n q103_1.1 q103_1.2 hq223) ⟨tw_173, tw_170, tw_172, tp_0, tw_1⟩ mdX4_faulted ⟨rfl, rfl, Nat.le_of_ble_eq_true rfl, Nat.le_of_ble_eq_true rfl⟩ rfl dX4_copy_103 rfl (Nat.le_of_ble_eq_true rfl) ⟨Nat.zero_le _, Nat.zero_le _⟩ rfl rfl rfl [0] [1, 2, 3, 4, 5, 6, 7, 8, 9, 10, 11, 12, 13, 14, 15, 16, 17, 18, 19, 20] [20, 0, 1, 2, 3, 4, 5, 6, 7, 8, 9, 10, 11, 12, 13, 14, 15, 16, 17, 18, 19] rfl rfl (by decide) rfl (fun H locs hP hD hS => ?_)
                  replace hf := Option.some.inj hf
                  obtain ⟨er0, er1⟩ := Prod.mk.inj hf
                  obtain ⟨er2, er3⟩ := Prod.mk.inj er1
                  clear hf er1
                  subst er0
                  subst er2
                  subst er3
                  exact rt_i Cc hK hP hD hS dX4_copy_106
                · replace hf := (if_neg hc222).symm.trans hf
                  refine lv_aload hx hb dX4_copy_89 (lv_at hl 0 rfl) ?_
                  refine lv_iload hx hb dX4_copy_91 (lv_at hl 6 rfl) ?_
                  refine lv_iload hx hb dX4_copy_93 (lv_at hl 7 rfl) ?_
                  obtain ⟨q95_1, hq224, hf⟩ := Option.bind_eq_some_iff.mp hf
                  refine cV (ws' := (W_D cI cS a_d a_f a_t a_r a_z a_f_kind a_f_wet a_g a_g_kind a_g_wet a_r_cells a_r_hours a_r_cracked a_s0 a_s0_row a_s1 a_s1_row a_s2 a_s2_row a_s3 a_s3_row d_hour d_traced (0 : Int32) f_kind f_wet f_wide f_rows f_cells f_sun f_all f_firstColumn f_lastColumn t_hours t_opened t_firstWrong g_kind g_wet g_wide g_rows g_cells g_sun g_all g_firstColumn g_lastColumn r_cells r_hours r_cracked r_count S_row S_lane S_length)) (rest := []) (st1 := [.int q95_1]) Cc hK hA hP hD hS hl.1 (ctX2_has l D cI cS a_s3 a_s3_row (S_row 3) (S_lane 3) (S_length 3) p4 p5 n q95_1 hq224) ⟨tw_169, tw_166, tw_167, tw_168, tw_5⟩ mdX2_has ⟨rfl, rfl, Nat.le_of_ble_eq_true rfl, Nat.le_of_ble_eq_true rfl⟩ rfl dX4_copy_95 rfl (Nat.le_of_ble_eq_true rfl) ⟨Nat.zero_le _, Nat.zero_le _⟩ rfl rfl rfl [19, 20] [0, 1, 2, 3, 4, 5, 6, 7, 8, 9, 10, 11, 12, 13, 14, 15, 16, 17, 18] [0, 1, 2, 3, 4, 5, 6, 7, 8, 9, 10, 11, 12, 13, 14, 15, 16, 17, 18, 19, 20] rfl rfl (by decide) rfl (fun H locs hP hD hS => ?_)
                  refine lv_if_ne (tgt := 107) hx hb dX4_copy_98 (by decide) (fun hc225 => ?_) (fun hc225 => ?_)
                  · replace hf := (if_neg hc225).symm.trans hf
                    refine lv_aload hx hb dX4_copy_107 (lv_at hl 1 rfl) ?_
                    refine va_getN (D := D) (ci := 2) (v := .ref a_s3_row) (C := RX2) (T := TX2) (N := 3) hx hb hts inX2 hown hK hP 19 rfl rfl 0 (by decide) (va_Nw.use rfl (hnw _ nn_11)) (fun _ h9 => h9) rfl dX4_copy_109 ?_
                    refine lv_iload_n hx hb dX4_copy_112 rfl (lv_at hl 4 rfl) ?_
                    refine lv_aload hx hb dX4_copy_113 (lv_at hl 0 rfl) ?_
                    refine va_getN (D := D) (ci := 2) (v := .ref a_s3_row) (C := RX2) (T := TX2) (N := 3) hx hb hts inX2 hown hK hP 19 rfl rfl 0 (by decide) (va_Nw.use rfl (hnw _ nn_11)) (fun _ h9 => h9) rfl dX4_copy_115 ?_
                    refine lv_iload hx hb dX4_copy_118 (lv_at hl 6 rfl) ?_
                    refine lv_iload hx hb dX4_copy_120 (lv_at hl 7 rfl) ?_
                    obtain ⟨⟨g1, g2, g3, g4, g5⟩, hf⟩ := cpg_some hf
                    refine va_copyi hx hb (hml.trans hl.1.symm) hown (hts _ tw_454) (hts _ tw_native) (hts _ tw_455) (hts _ tw_9) hK hP hD hS 20 20 0 0 rfl rfl rfl rfl rfl g1 g2 g3 g4 g5 (fun _ _ => rfl) (Nat.le_of_ble_eq_true rfl) (Nat.le_of_ble_eq_true rfl) dX4_copy_122 (fun H locs hP hD hS => ?_)
                    have hP : va_P D classes (W_D cI cS a_d a_f a_t a_r a_z a_f_kind a_f_wet a_g a_g_kind a_g_wet a_r_cells a_r_hours a_r_cracked a_s0 a_s0_row a_s1 a_s1_row a_s2 a_s2_row a_s3 a_s3_row d_hour d_traced (0 : Int32) f_kind f_wet f_wide f_rows f_cells f_sun f_all f_firstColumn f_lastColumn t_hours t_opened t_firstWrong g_kind g_wet g_wide g_rows g_cells g_sun g_all g_firstColumn g_lastColumn r_cells r_hours r_cracked r_count (va_up S_row 3 (va_cpy (S_row 3) (S_row 3) p2.toNatClampNeg p4.toNatClampNeg p5.toNatClampNeg)) S_lane S_length) H := hP
                    have hD : va_D A (W_D cI cS a_d a_f a_t a_r a_z a_f_kind a_f_wet a_g a_g_kind a_g_wet a_r_cells a_r_hours a_r_cracked a_s0 a_s0_row a_s1 a_s1_row a_s2 a_s2_row a_s3 a_s3_row d_hour d_traced (0 : Int32) f_kind f_wet f_wide f_rows f_cells f_sun f_all f_firstColumn f_lastColumn t_hours t_opened t_firstWrong g_kind g_wet g_wide g_rows g_cells g_sun g_all g_firstColumn g_lastColumn r_cells r_hours r_cracked r_count (va_up S_row 3 (va_cpy (S_row 3) (S_row 3) p2.toNatClampNeg p4.toNatClampNeg p5.toNatClampNeg)) S_lane S_length) := hD
                    refine lv_iload hx hb dX4_copy_125 (lv_at hl 7 rfl) ?_
                    replace hf := Option.some.inj hf
                    obtain ⟨er0, er1⟩ := Prod.mk.inj hf
                    obtain ⟨er2, er3⟩ := Prod.mk.inj er1
                    clear hf er1
                    subst er0
                    subst er2
                    subst er3
                    exact rt_i Cc hK hP hD hS dX4_copy_127
                  · replace hf := (if_pos hc225).symm.trans hf
                    refine lv_aload_n hx hb dX4_copy_101 rfl (lv_at hl 2 rfl) ?_
                    refine lv_iconst (v := (3 : Int32)) hx hb dX4_copy_102 (by decide) ?_
                    obtain ⟨q103_1, hq226, hf⟩ := Option.bind_eq_some_iff.mp hf
                    refine cV (ws' := (W_D cI cS a_d a_f a_t a_r a_z a_f_kind a_f_wet a_g a_g_kind a_g_wet a_r_cells a_r_hours a_r_cracked a_s0 a_s0_row a_s1 a_s1_row a_s2 a_s2_row a_s3 a_s3_row d_hour d_traced q103_1.2 f_kind f_wet f_wide f_rows f_cells f_sun f_all f_firstColumn f_lastColumn t_hours t_opened t_firstWrong g_kind g_wet g_wide g_rows g_cells g_sun g_all g_firstColumn g_lastColumn r_cells r_hours r_cracked r_count S_row S_lane S_length)) (rest := []) (st1 := [.int q103_1.1]) Cc hK hA hP hD hS hl.1 (ctX4_faulted l D cI cS a_d a_f a_t a_r a_z d_hour d_traced (0 : Int32) (3 : Int32) n q103_1.1 q103_1.2 hq226) ⟨tw_173, tw_170, tw_172, tp_0, tw_1⟩ mdX4_faulted ⟨rfl, rfl, Nat.le_of_ble_eq_true rfl, Nat.le_of_ble_eq_true rfl⟩ rfl dX4_copy_103 rfl (Nat.le_of_ble_eq_true rfl) ⟨Nat.zero_le _, Nat.zero_le _⟩ rfl rfl rfl [0] [1, 2, 3, 4, 5, 6, 7, 8, 9, 10, 11, 12, 13, 14, 15, 16, 17, 18, 19, 20] [20, 0, 1, 2, 3, 4, 5, 6, 7, 8, 9, 10, 11, 12, 13, 14, 15, 16, 17, 18, 19] rfl rfl (by decide) rfl (fun H locs hP hD hS => ?_)
                    replace hf := Option.some.inj hf
                    obtain ⟨er0, er1⟩ := Prod.mk.inj hf
                    obtain ⟨er2, er3⟩ := Prod.mk.inj er1
                    clear hf er1
                    subst er0
                    subst er2
                    subst er3
                    exact rt_i Cc hK hP hD hS dX4_copy_106
              · replace hf := (if_neg hc220).symm.trans hf
                refine lv_aload_n hx hb dX4_copy_72 rfl (lv_at hl 2 rfl) ?_
                refine lv_iconst (v := (2 : Int32)) hx hb dX4_copy_73 (by decide) ?_
                obtain ⟨q74_1, hq227, hf⟩ := Option.bind_eq_some_iff.mp hf
                refine cV (ws' := (W_D cI cS a_d a_f a_t a_r a_z a_f_kind a_f_wet a_g a_g_kind a_g_wet a_r_cells a_r_hours a_r_cracked a_s0 a_s0_row a_s1 a_s1_row a_s2 a_s2_row a_s3 a_s3_row d_hour d_traced q74_1.2 f_kind f_wet f_wide f_rows f_cells f_sun f_all f_firstColumn f_lastColumn t_hours t_opened t_firstWrong g_kind g_wet g_wide g_rows g_cells g_sun g_all g_firstColumn g_lastColumn r_cells r_hours r_cracked r_count S_row S_lane S_length)) (rest := []) (st1 := [.int q74_1.1]) Cc hK hA hP hD hS hl.1 (ctX4_faulted l D cI cS a_d a_f a_t a_r a_z d_hour d_traced (0 : Int32) (2 : Int32) n q74_1.1 q74_1.2 hq227) ⟨tw_173, tw_170, tw_172, tp_0, tw_1⟩ mdX4_faulted ⟨rfl, rfl, Nat.le_of_ble_eq_true rfl, Nat.le_of_ble_eq_true rfl⟩ rfl dX4_copy_74 rfl (Nat.le_of_ble_eq_true rfl) ⟨Nat.zero_le _, Nat.zero_le _⟩ rfl rfl rfl [0] [1, 2, 3, 4, 5, 6, 7, 8, 9, 10, 11, 12, 13, 14, 15, 16, 17, 18, 19, 20] [20, 0, 1, 2, 3, 4, 5, 6, 7, 8, 9, 10, 11, 12, 13, 14, 15, 16, 17, 18, 19] rfl rfl (by decide) rfl (fun H locs hP hD hS => ?_)
                replace hf := Option.some.inj hf
                obtain ⟨er0, er1⟩ := Prod.mk.inj hf
                obtain ⟨er2, er3⟩ := Prod.mk.inj er1
                clear hf er1
                subst er0
                subst er2
                subst er3
                exact rt_i Cc hK hP hD hS dX4_copy_77
            · replace hf := (if_neg hc219).symm.trans hf
              refine lv_aload_n hx hb dX4_copy_53 rfl (lv_at hl 2 rfl) ?_
              refine lv_iconst (v := (1 : Int32)) hx hb dX4_copy_54 (by decide) ?_
              obtain ⟨q55_1, hq228, hf⟩ := Option.bind_eq_some_iff.mp hf
              refine cV (ws' := (W_D cI cS a_d a_f a_t a_r a_z a_f_kind a_f_wet a_g a_g_kind a_g_wet a_r_cells a_r_hours a_r_cracked a_s0 a_s0_row a_s1 a_s1_row a_s2 a_s2_row a_s3 a_s3_row d_hour d_traced q55_1.2 f_kind f_wet f_wide f_rows f_cells f_sun f_all f_firstColumn f_lastColumn t_hours t_opened t_firstWrong g_kind g_wet g_wide g_rows g_cells g_sun g_all g_firstColumn g_lastColumn r_cells r_hours r_cracked r_count S_row S_lane S_length)) (rest := []) (st1 := [.int q55_1.1]) Cc hK hA hP hD hS hl.1 (ctX4_faulted l D cI cS a_d a_f a_t a_r a_z d_hour d_traced (0 : Int32) (1 : Int32) n q55_1.1 q55_1.2 hq228) ⟨tw_173, tw_170, tw_172, tp_0, tw_1⟩ mdX4_faulted ⟨rfl, rfl, Nat.le_of_ble_eq_true rfl, Nat.le_of_ble_eq_true rfl⟩ rfl dX4_copy_55 rfl (Nat.le_of_ble_eq_true rfl) ⟨Nat.zero_le _, Nat.zero_le _⟩ rfl rfl rfl [0] [1, 2, 3, 4, 5, 6, 7, 8, 9, 10, 11, 12, 13, 14, 15, 16, 17, 18, 19, 20] [20, 0, 1, 2, 3, 4, 5, 6, 7, 8, 9, 10, 11, 12, 13, 14, 15, 16, 17, 18, 19] rfl rfl (by decide) rfl (fun H locs hP hD hS => ?_)
              replace hf := Option.some.inj hf
              obtain ⟨er0, er1⟩ := Prod.mk.inj hf
              obtain ⟨er2, er3⟩ := Prod.mk.inj er1
              clear hf er1
              subst er0
              subst er2
              subst er3
              exact rt_i Cc hK hP hD hS dX4_copy_58
    · replace hf := (if_pos hc4).symm.trans hf
      refine lv_iconst (v := (-1 : Int32)) hx hb dX4_copy_19 (by decide) ?_
      replace hf := Option.some.inj hf
      obtain ⟨er0, er1⟩ := Prod.mk.inj hf
      obtain ⟨er2, er3⟩ := Prod.mk.inj er1
      clear hf er1
      subst er0
      subst er2
      subst er3
      exact rt_i Cc hK hP hD hS dX4_copy_20
