-- X4_bay
def fX4_bay_72 (n : Nat) (d_hour : Int32) (d_latestFault : Int32) (f_kind : Nat → Int32) (f_wet : Nat → Int32) (f_wide : Int32) (f_rows : Int32) (f_cells : Int32) (f_sun : Int32) (f_all : Int32) (f_firstColumn : Int32) (f_lastColumn : Int32) (r_count : Int32) (S_row : Nat → Nat → Int32) (S_lane : Nat → Int32) (S_length : Nat → Int32) (t0 : Nat) (x3 : Int32) (x4 : Int32) (x6 : Int32) : Option (Int32 × Int32 × Int32 × (Nat → Int32) × (Nat → Int32) × Int32 × Int32 × Int32 × Int32 × Int32 × Int32 × Int32 × Int32) := if x6 = 0 then (fX4_firstFault n (S_row t0) (S_length t0) x3 x4).bind fun q89_1 => if q89_1 = (-9 : Int32) then (fX0_becomeText n f_kind f_wet f_wide f_rows f_cells f_sun f_all f_firstColumn f_lastColumn (S_row t0) (S_length t0) x3).bind fun q114_1 => some (q114_1.2.2.2.2.1, (0 : Int32), d_latestFault, q114_1.1, q114_1.2.1, q114_1.2.2.1, q114_1.2.2.2.1, q114_1.2.2.2.2.1, q114_1.2.2.2.2.2.1, q114_1.2.2.2.2.2.2.1, q114_1.2.2.2.2.2.2.2.1, q114_1.2.2.2.2.2.2.2.2, (0 : Int32)) else some (((-100 : Int32) - q89_1), d_hour, d_latestFault, f_kind, f_wet, f_wide, f_rows, f_cells, f_sun, f_all, f_firstColumn, f_lastColumn, r_count) else (fX4_faulted n d_latestFault x6).bind fun q80_1 => some (q80_1.1, d_hour, q80_1.2, f_kind, f_wet, f_wide, f_rows, f_cells, f_sun, f_all, f_firstColumn, f_lastColumn, r_count)
def fX4_bay_53 (n : Nat) (d_hour : Int32) (d_latestFault : Int32) (f_kind : Nat → Int32) (f_wet : Nat → Int32) (f_wide : Int32) (f_rows : Int32) (f_cells : Int32) (f_sun : Int32) (f_all : Int32) (f_firstColumn : Int32) (f_lastColumn : Int32) (r_count : Int32) (S_row : Nat → Nat → Int32) (S_lane : Nat → Int32) (S_length : Nat → Int32) (t0 : Nat) (x3 : Int32) (x4 : Int32) (x6 : Int32) : Option (Int32 × Int32 × Int32 × (Nat → Int32) × (Nat → Int32) × Int32 × Int32 × Int32 × Int32 × Int32 × Int32 × Int32 × Int32) := if x6 = 0 then (fX2_has n (S_length t0) x3 x4).bind fun q63_1 => if q63_1 = 0 then fX4_bay_72 n d_hour d_latestFault f_kind f_wet f_wide f_rows f_cells f_sun f_all f_firstColumn f_lastColumn r_count S_row S_lane S_length t0 x3 x4 (3 : Int32) else fX4_bay_72 n d_hour d_latestFault f_kind f_wet f_wide f_rows f_cells f_sun f_all f_firstColumn f_lastColumn r_count S_row S_lane S_length t0 x3 x4 x6 else fX4_bay_72 n d_hour d_latestFault f_kind f_wet f_wide f_rows f_cells f_sun f_all f_firstColumn f_lastColumn r_count S_row S_lane S_length t0 x3 x4 x6
def fX4_bay (n : Nat) (d_hour : Int32) (d_latestFault : Int32) (f_kind : Nat → Int32) (f_wet : Nat → Int32) (f_wide : Int32) (f_rows : Int32) (f_cells : Int32) (f_sun : Int32) (f_all : Int32) (f_firstColumn : Int32) (f_lastColumn : Int32) (r_count : Int32) (S_row : Nat → Nat → Int32) (S_lane : Nat → Int32) (S_length : Nat → Int32) (p1 : Int32) (p2 : Int32) (p3 : Int32) (p4 : Int32) : Option (Int32 × Int32 × Int32 × (Nat → Int32) × (Nat → Int32) × Int32 × Int32 × Int32 × Int32 × Int32 × Int32 × Int32 × Int32) := (fX4_isSheet n p1).bind fun q6_1 => if q6_1 = 0 then some ((-1 : Int32), d_hour, (0 : Int32), f_kind, f_wet, f_wide, f_rows, f_cells, f_sun, f_all, f_firstColumn, f_lastColumn, r_count) else (fX4_isLane n p2).bind fun q15_1 => if q15_1 = 0 then some ((-2 : Int32), d_hour, (0 : Int32), f_kind, f_wet, f_wide, f_rows, f_cells, f_sun, f_all, f_firstColumn, f_lastColumn, r_count) else gd p1 4 ((fX2_faultAs n (S_lane p1.toNatClampNeg) p2).bind fun q35_1 => if q35_1 = 0 then if 0 ≤ p4 then fX4_bay_53 n d_hour (0 : Int32) f_kind f_wet f_wide f_rows f_cells f_sun f_all f_firstColumn f_lastColumn r_count S_row S_lane S_length p1.toNatClampNeg p3 p4 q35_1 else fX4_bay_53 n d_hour (0 : Int32) f_kind f_wet f_wide f_rows f_cells f_sun f_all f_firstColumn f_lastColumn r_count S_row S_lane S_length p1.toNatClampNeg p3 p4 (4 : Int32) else fX4_bay_53 n d_hour (0 : Int32) f_kind f_wet f_wide f_rows f_cells f_sun f_all f_firstColumn f_lastColumn r_count S_row S_lane S_length p1.toNatClampNeg p3 p4 q35_1)
theorem mdX4_bay : yX4_bay.cls = RX4 ∧ yX4_bay.cls ≠ "java/lang/invoke/MethodHandle" ∧ yX4_bay.cls ≠ "java/lang/invoke/VarHandle" ∧ (parseMethodDescriptor yX4_bay.desc).map (fun d => d.parameters.length) = some 4 := by decide +kernel
set_option maxHeartbeats 4000000 in
set_option maxRecDepth 100000 in
theorem bX4_bay_72_0 {p : Program} {l : Launch} {e : Env} {s : State} {m : MethodId} {args : Array Value} {below : List Frame} {meth : Method} {c : Code} {A : Nat → Prop} {D : va_G} {cI cS : ClassId} (a_d a_f a_t a_r a_z a_f_kind a_f_wet a_g a_g_kind a_g_wet a_r_cells a_r_hours a_r_cracked a_s0 a_s0_row a_s1 a_s1_row a_s2 a_s2_row a_s3 a_s3_row : Nat) (d_traced : Int32) (t_hours : Int32) (t_opened : Int32) (t_firstWrong : Int32) (g_kind : Nat → Int32) (g_wet : Nat → Int32) (g_wide : Int32) (g_rows : Int32) (g_cells : Int32) (g_sun : Int32) (g_all : Int32) (g_firstColumn : Int32) (g_lastColumn : Int32) (r_cells : Nat → Int32) (r_hours : Nat → Int32) (r_cracked : Nat → Int32) (Cc : Cx p s m args meth c RX4 cX4_bay 8 (some .int)) (hK : va_K D classes (tysA cI cS) s) (hA : ∀ q, s.heap.size ≤ q → A q) (n : Nat) : ∀ (d_hour : Int32) (d_latestFault : Int32) (f_kind : Nat → Int32) (f_wet : Nat → Int32) (f_wide : Int32) (f_rows : Int32) (f_cells : Int32) (f_sun : Int32) (f_all : Int32) (f_firstColumn : Int32) (f_lastColumn : Int32) (r_count : Int32) (S_row : Nat → Nat → Int32) (S_lane : Nat → Int32) (S_length : Nat → Int32) (x3 : Int32) (x4 : Int32) (x6 : Int32) (r : Int32) (d_hour' : Int32) (d_latestFault' : Int32) (f_kind' : Nat → Int32) (f_wet' : Nat → Int32) (f_wide' : Int32) (f_rows' : Int32) (f_cells' : Int32) (f_sun' : Int32) (f_all' : Int32) (f_firstColumn' : Int32) (f_lastColumn' : Int32) (r_count' : Int32), fX4_bay_72 n d_hour d_latestFault f_kind f_wet f_wide f_rows f_cells f_sun f_all f_firstColumn f_lastColumn r_count S_row S_lane S_length 0 x3 x4 x6 = some (r, d_hour', d_latestFault', f_kind', f_wet', f_wide', f_rows', f_cells', f_sun', f_all', f_firstColumn', f_lastColumn', r_count') → ∀ (H : Heap) (locs : List Loc) (ls : Array Slot), va_P D classes (W_D cI cS a_d a_f a_t a_r a_z a_f_kind a_f_wet a_g a_g_kind a_g_wet a_r_cells a_r_hours a_r_cracked a_s0 a_s0_row a_s1 a_s1_row a_s2 a_s2_row a_s3 a_s3_row d_hour d_traced d_latestFault f_kind f_wet f_wide f_rows f_cells f_sun f_all f_firstColumn f_lastColumn t_hours t_opened t_firstWrong g_kind g_wet g_wide g_rows g_cells g_sun g_all g_firstColumn g_lastColumn r_cells r_hours r_cracked r_count S_row S_lane S_length) H → va_D A (W_D cI cS a_d a_f a_t a_r a_z a_f_kind a_f_wet a_g a_g_kind a_g_wet a_r_cells a_r_hours a_r_cracked a_s0 a_s0_row a_s1 a_s1_row a_s2 a_s2_row a_s3 a_s3_row d_hour d_traced d_latestFault f_kind f_wet f_wide f_rows f_cells f_sun f_all f_firstColumn f_lastColumn t_hours t_opened t_firstWrong g_kind g_wet g_wide g_rows g_cells g_sun g_all g_firstColumn g_lastColumn r_cells r_hours r_cracked r_count S_row S_lane S_length) → va_S A s.heap H locs → lv_has ls 8 [(0, .ref a_d), (3, .int x3), (4, .int x4), (5, .ref a_s0), (6, .int x6)] → W p l e (Rm 6) s m args below meth c H locs 0 0 (MQ below (QW D (tysA cI cS) (some (.int r)) (W_D cI cS a_d a_f a_t a_r a_z a_f_kind a_f_wet a_g a_g_kind a_g_wet a_r_cells a_r_hours a_r_cracked a_s0 a_s0_row a_s1 a_s1_row a_s2 a_s2_row a_s3 a_s3_row d_hour' d_traced d_latestFault' f_kind' f_wet' f_wide' f_rows' f_cells' f_sun' f_all' f_firstColumn' f_lastColumn' t_hours t_opened t_firstWrong g_kind g_wet g_wide g_rows g_cells g_sun g_all g_firstColumn g_lastColumn r_cells r_hours r_cracked r_count' S_row S_lane S_length) A) args s 0 0 A) (F0 m 72 ls []) := by
  obtain ⟨hx, hb, hr, hml, hown, hts, hlk, hnw⟩ := id Cc
  intro d_hour d_latestFault f_kind f_wet f_wide f_rows f_cells f_sun f_all f_firstColumn f_lastColumn r_count S_row S_lane S_length x3 x4 x6 r d_hour' d_latestFault' f_kind' f_wet' f_wide' f_rows' f_cells' f_sun' f_all' f_firstColumn' f_lastColumn' r_count' hf H locs ls hP hD hS hl
  unfold fX4_bay_72 at hf
  refine lv_iload hx hb dX4_bay_72 (lv_at hl 4 rfl) ?_
  refine lv_if_eq (tgt := 84) hx hb dX4_bay_74 (by decide) (fun hc8 => ?_) (fun hc8 => ?_)
  · replace hf := (if_pos hc8).symm.trans hf
    refine lv_aload hx hb dX4_bay_84 (lv_at hl 3 rfl) ?_
    refine lv_iload_n hx hb dX4_bay_86 rfl (lv_at hl 1 rfl) ?_
    refine lv_iload hx hb dX4_bay_87 (lv_at hl 2 rfl) ?_
    obtain ⟨q89_1, hq9, hf⟩ := Option.bind_eq_some_iff.mp hf
    refine cSt (ws' := (W_D cI cS a_d a_f a_t a_r a_z a_f_kind a_f_wet a_g a_g_kind a_g_wet a_r_cells a_r_hours a_r_cracked a_s0 a_s0_row a_s1 a_s1_row a_s2 a_s2_row a_s3 a_s3_row d_hour d_traced d_latestFault f_kind f_wet f_wide f_rows f_cells f_sun f_all f_firstColumn f_lastColumn t_hours t_opened t_firstWrong g_kind g_wet g_wide g_rows g_cells g_sun g_all g_firstColumn g_lastColumn r_cells r_hours r_cracked r_count S_row S_lane S_length)) (rest := []) (st1 := [.int q89_1]) Cc hK hA hP hD hS hl.1 (ctX4_firstFault l D cI cS a_s0 a_s0_row (S_row 0) (S_lane 0) (S_length 0) x3 x4 n q89_1 hq9) ⟨tw_176, tw_174, tw_175, tw_1⟩ mdX4_firstFault ⟨rfl, rfl, Nat.le_of_ble_eq_true rfl, Nat.le_of_ble_eq_true rfl⟩ rfl dX4_bay_89 rfl (Nat.le_of_ble_eq_true rfl) ⟨Nat.zero_le _, Nat.zero_le _⟩ rfl [13, 14] [0, 1, 2, 3, 4, 5, 6, 7, 8, 9, 10, 11, 12, 15, 16, 17, 18, 19, 20] [0, 1, 2, 3, 4, 5, 6, 7, 8, 9, 10, 11, 12, 19, 20, 13, 14, 15, 16, 17, 18] rfl rfl (by decide) rfl (fun H locs hP hD hS => ?_)
    refine lv_istore (lv' := [(7, .int q89_1), (0, .ref a_d), (3, .int x3), (4, .int x4), (5, .ref a_s0), (6, .int x6)]) hx hb dX4_bay_92 hl (by decide) rfl (fun ls hl => ?_)
    refine lv_iload hx hb dX4_bay_94 (lv_at hl 0 rfl) ?_
    refine lv_bipush (v := (-9 : Int32)) hx hb dX4_bay_96 (by decide) ?_
    refine lv_icmp_eq (tgt := 107) hx hb dX4_bay_98 (by decide) (fun hc10 => ?_) (fun hc10 => ?_)
    · replace hf := (if_pos hc10).symm.trans hf
      refine lv_aload_n hx hb dX4_bay_107 rfl (lv_at hl 1 rfl) ?_
      refine va_get (D := D) (ci := 4) (v := .ref a_f) (C := RX4) (T := TX4) (N := 7) hx hb hts inX4 hown hK hP 0 rfl rfl 0 (by decide) (hts _ tw_123) (fun _ h9 => h9) rfl dX4_bay_108 ?_
      refine lv_aload hx hb dX4_bay_111 (lv_at hl 4 rfl) ?_
      refine lv_iload_n hx hb dX4_bay_113 rfl (lv_at hl 2 rfl) ?_
      obtain ⟨q114_1, hq11, hf⟩ := Option.bind_eq_some_iff.mp hf
      refine cV (ws' := (W_D cI cS a_d a_f a_t a_r a_z a_f_kind a_f_wet a_g a_g_kind a_g_wet a_r_cells a_r_hours a_r_cracked a_s0 a_s0_row a_s1 a_s1_row a_s2 a_s2_row a_s3 a_s3_row d_hour d_traced d_latestFault q114_1.1 q114_1.2.1 q114_1.2.2.1 q114_1.2.2.2.1 q114_1.2.2.2.2.1 q114_1.2.2.2.2.2.1 q114_1.2.2.2.2.2.2.1 q114_1.2.2.2.2.2.2.2.1 q114_1.2.2.2.2.2.2.2.2 t_hours t_opened t_firstWrong g_kind g_wet g_wide g_rows g_cells g_sun g_all g_firstColumn g_lastColumn r_cells r_hours r_cracked r_count S_row S_lane S_length)) (rest := []) (st1 := []) Cc hK hA hP hD hS hl.1 (ctX0_becomeText l D cI cS a_f a_f_kind a_f_wet a_s0 a_s0_row f_kind f_wet f_wide f_rows f_cells f_sun f_all f_firstColumn f_lastColumn (S_row 0) (S_lane 0) (S_length 0) x3 n q114_1.1 q114_1.2.1 q114_1.2.2.1 q114_1.2.2.2.1 q114_1.2.2.2.2.1 q114_1.2.2.2.2.2.1 q114_1.2.2.2.2.2.2.1 q114_1.2.2.2.2.2.2.2.1 q114_1.2.2.2.2.2.2.2.2 hq11) ⟨tw_200, tw_197, tw_198, tw_199, tw_2⟩ mdX0_becomeText ⟨rfl, rfl, Nat.le_of_ble_eq_true rfl, Nat.le_of_ble_eq_true rfl⟩ rfl dX4_bay_114 rfl (Nat.le_of_ble_eq_true rfl) ⟨Nat.zero_le _, Nat.zero_le _⟩ rfl rfl rfl [1, 2, 3, 13, 14] [0, 4, 5, 6, 7, 8, 9, 10, 11, 12, 15, 16, 17, 18, 19, 20] [0, 16, 17, 18, 1, 2, 3, 4, 5, 6, 7, 8, 9, 19, 20, 10, 11, 12, 13, 14, 15] rfl rfl (by decide) rfl (fun H locs hP hD hS => ?_)
      refine lv_aload_n hx hb dX4_bay_117 rfl (lv_at hl 1 rfl) ?_
      refine lv_iconst (v := (0 : Int32)) hx hb dX4_bay_118 (by decide) ?_
      refine va_put (D := D) (ci := 4) (v := .int (0 : Int32)) (ty := .int) (C := RX4) (T := TX4) (N := 7) hx hb hts inX4 tyX4 tyX4_ok nmX4 hown hK hP hD hS 0 rfl rfl 4 (by decide) (hts _ tw_127) (fun _ h9 => h9) rfl (tyX4_ok 4 (by decide)) rfl rfl (Nat.le_of_ble_eq_true rfl) dX4_bay_119 (fun H locs hP hD hS => ?_)
      have hP : va_P D classes (W_D cI cS a_d a_f a_t a_r a_z a_f_kind a_f_wet a_g a_g_kind a_g_wet a_r_cells a_r_hours a_r_cracked a_s0 a_s0_row a_s1 a_s1_row a_s2 a_s2_row a_s3 a_s3_row (0 : Int32) d_traced d_latestFault q114_1.1 q114_1.2.1 q114_1.2.2.1 q114_1.2.2.2.1 q114_1.2.2.2.2.1 q114_1.2.2.2.2.2.1 q114_1.2.2.2.2.2.2.1 q114_1.2.2.2.2.2.2.2.1 q114_1.2.2.2.2.2.2.2.2 t_hours t_opened t_firstWrong g_kind g_wet g_wide g_rows g_cells g_sun g_all g_firstColumn g_lastColumn r_cells r_hours r_cracked r_count S_row S_lane S_length) H := hP
      have hD : va_D A (W_D cI cS a_d a_f a_t a_r a_z a_f_kind a_f_wet a_g a_g_kind a_g_wet a_r_cells a_r_hours a_r_cracked a_s0 a_s0_row a_s1 a_s1_row a_s2 a_s2_row a_s3 a_s3_row (0 : Int32) d_traced d_latestFault q114_1.1 q114_1.2.1 q114_1.2.2.1 q114_1.2.2.2.1 q114_1.2.2.2.2.1 q114_1.2.2.2.2.2.1 q114_1.2.2.2.2.2.2.1 q114_1.2.2.2.2.2.2.2.1 q114_1.2.2.2.2.2.2.2.2 t_hours t_opened t_firstWrong g_kind g_wet g_wide g_rows g_cells g_sun g_all g_firstColumn g_lastColumn r_cells r_hours r_cracked r_count S_row S_lane S_length) := hD
      refine lv_aload_n hx hb dX4_bay_122 rfl (lv_at hl 1 rfl) ?_
      refine va_get (D := D) (ci := 4) (v := .ref a_r) (C := RX4) (T := TX4) (N := 7) hx hb hts inX4 hown hK hP 0 rfl rfl 2 (by decide) (hts _ tw_125) (fun _ h9 => h9) rfl dX4_bay_123 ?_
      refine lv_iconst (v := (0 : Int32)) hx hb dX4_bay_126 (by decide) ?_
      refine va_putN (D := D) (ci := 1) (v := .int (0 : Int32)) (ty := .int) (C := RX1) (T := TX1) (N := 4) hx hb hts inX1 tyX1 tyX1_ok nmX1 hown hK hP hD hS 8 rfl rfl 3 (by decide) (va_Nw.use rfl (hnw _ nn_10)) (fun _ h9 => h9) rfl (tyX1_ok 3 (by decide)) rfl rfl (Nat.le_of_ble_eq_true rfl) dX4_bay_127 (fun H locs hP hD hS => ?_)
      have hP : va_P D classes (W_D cI cS a_d a_f a_t a_r a_z a_f_kind a_f_wet a_g a_g_kind a_g_wet a_r_cells a_r_hours a_r_cracked a_s0 a_s0_row a_s1 a_s1_row a_s2 a_s2_row a_s3 a_s3_row (0 : Int32) d_traced d_latestFault q114_1.1 q114_1.2.1 q114_1.2.2.1 q114_1.2.2.2.1 q114_1.2.2.2.2.1 q114_1.2.2.2.2.2.1 q114_1.2.2.2.2.2.2.1 q114_1.2.2.2.2.2.2.2.1 q114_1.2.2.2.2.2.2.2.2 t_hours t_opened t_firstWrong g_kind g_wet g_wide g_rows g_cells g_sun g_all g_firstColumn g_lastColumn r_cells r_hours r_cracked (0 : Int32) S_row S_lane S_length) H := hP
      have hD : va_D A (W_D cI cS a_d a_f a_t a_r a_z a_f_kind a_f_wet a_g a_g_kind a_g_wet a_r_cells a_r_hours a_r_cracked a_s0 a_s0_row a_s1 a_s1_row a_s2 a_s2_row a_s3 a_s3_row (0 : Int32) d_traced d_latestFault q114_1.1 q114_1.2.1 q114_1.2.2.1 q114_1.2.2.2.1 q114_1.2.2.2.2.1 q114_1.2.2.2.2.2.1 q114_1.2.2.2.2.2.2.1 q114_1.2.2.2.2.2.2.2.1 q114_1.2.2.2.2.2.2.2.2 t_hours t_opened t_firstWrong g_kind g_wet g_wide g_rows g_cells g_sun g_all g_firstColumn g_lastColumn r_cells r_hours r_cracked (0 : Int32) S_row S_lane S_length) := hD
      refine lv_aload_n hx hb dX4_bay_130 rfl (lv_at hl 1 rfl) ?_
      refine va_get (D := D) (ci := 4) (v := .ref a_f) (C := RX4) (T := TX4) (N := 7) hx hb hts inX4 hown hK hP 0 rfl rfl 0 (by decide) (hts _ tw_123) (fun _ h9 => h9) rfl dX4_bay_131 ?_
      refine va_getN (D := D) (ci := 0) (v := .int q114_1.2.2.2.2.1) (C := RX0) (T := TX0) (N := 9) hx hb hts inX0 hown hK hP 1 rfl rfl 4 (by decide) (va_Nw.use rfl (hnw _ nn_5)) (fun _ h9 => h9) rfl dX4_bay_134 ?_
      replace hf := Option.some.inj hf
      obtain ⟨er0, er1⟩ := Prod.mk.inj hf
      obtain ⟨er2, er3⟩ := Prod.mk.inj er1
      obtain ⟨er4, er5⟩ := Prod.mk.inj er3
      obtain ⟨er6, er7⟩ := Prod.mk.inj er5
      obtain ⟨er8, er9⟩ := Prod.mk.inj er7
      obtain ⟨er10, er11⟩ := Prod.mk.inj er9
      obtain ⟨er12, er13⟩ := Prod.mk.inj er11
      obtain ⟨er14, er15⟩ := Prod.mk.inj er13
      obtain ⟨er16, er17⟩ := Prod.mk.inj er15
      obtain ⟨er18, er19⟩ := Prod.mk.inj er17
      obtain ⟨er20, er21⟩ := Prod.mk.inj er19
      obtain ⟨er22, er23⟩ := Prod.mk.inj er21
      clear hf er1 er3 er5 er7 er9 er11 er13 er15 er17 er19 er21
      subst er0
      subst er2
      subst er4
      subst er6
      subst er8
      subst er10
      subst er12
      subst er14
      subst er16
      subst er18
      subst er20
      subst er22
      subst er23
      exact rt_i Cc hK hP hD hS dX4_bay_137
    · replace hf := (if_neg hc10).symm.trans hf
      refine lv_bipush (v := (-100 : Int32)) hx hb dX4_bay_101 (by decide) ?_
      refine lv_iload hx hb dX4_bay_103 (lv_at hl 0 rfl) ?_
      refine lv_isub hx hb dX4_bay_105 ?_
      replace hf := Option.some.inj hf
      obtain ⟨er0, er1⟩ := Prod.mk.inj hf
      obtain ⟨er2, er3⟩ := Prod.mk.inj er1
      obtain ⟨er4, er5⟩ := Prod.mk.inj er3
      obtain ⟨er6, er7⟩ := Prod.mk.inj er5
      obtain ⟨er8, er9⟩ := Prod.mk.inj er7
      obtain ⟨er10, er11⟩ := Prod.mk.inj er9
      obtain ⟨er12, er13⟩ := Prod.mk.inj er11
      obtain ⟨er14, er15⟩ := Prod.mk.inj er13
      obtain ⟨er16, er17⟩ := Prod.mk.inj er15
      obtain ⟨er18, er19⟩ := Prod.mk.inj er17
      obtain ⟨er20, er21⟩ := Prod.mk.inj er19
      obtain ⟨er22, er23⟩ := Prod.mk.inj er21
      clear hf er1 er3 er5 er7 er9 er11 er13 er15 er17 er19 er21
      subst er0
      subst er2
      subst er4
      subst er6
      subst er8
      subst er10
      subst er12
      subst er14
      subst er16
      subst er18
      subst er20
      subst er22
      subst er23
      exact rt_i Cc hK hP hD hS dX4_bay_106
  · replace hf := (if_neg hc8).symm.trans hf
    refine lv_aload_n hx hb dX4_bay_77 rfl (lv_at hl 0 rfl) ?_
    refine lv_iload hx hb dX4_bay_78 (lv_at hl 4 rfl) ?_
    obtain ⟨q80_1, hq12, hf⟩ := Option.bind_eq_some_iff.mp hf
    refine cV (ws' := (W_D cI cS a_d a_f a_t a_r a_z a_f_kind a_f_wet a_g a_g_kind a_g_wet a_r_cells a_r_hours a_r_cracked a_s0 a_s0_row a_s1 a_s1_row a_s2 a_s2_row a_s3 a_s3_row d_hour d_traced q80_1.2 f_kind f_wet f_wide f_rows f_cells f_sun f_all f_firstColumn f_lastColumn t_hours t_opened t_firstWrong g_kind g_wet g_wide g_rows g_cells g_sun g_all g_firstColumn g_lastColumn r_cells r_hours r_cracked r_count S_row S_lane S_length)) (rest := []) (st1 := [.int q80_1.1]) Cc hK hA hP hD hS hl.1 (ctX4_faulted l D cI cS a_d a_f a_t a_r a_z d_hour d_traced d_latestFault x6 n q80_1.1 q80_1.2 hq12) ⟨tw_173, tw_170, tw_172, tp_0, tw_1⟩ mdX4_faulted ⟨rfl, rfl, Nat.le_of_ble_eq_true rfl, Nat.le_of_ble_eq_true rfl⟩ rfl dX4_bay_80 rfl (Nat.le_of_ble_eq_true rfl) ⟨Nat.zero_le _, Nat.zero_le _⟩ rfl rfl rfl [0] [1, 2, 3, 4, 5, 6, 7, 8, 9, 10, 11, 12, 13, 14, 15, 16, 17, 18, 19, 20] [20, 0, 1, 2, 3, 4, 5, 6, 7, 8, 9, 10, 11, 12, 13, 14, 15, 16, 17, 18, 19] rfl rfl (by decide) rfl (fun H locs hP hD hS => ?_)
    replace hf := Option.some.inj hf
    obtain ⟨er0, er1⟩ := Prod.mk.inj hf
    obtain ⟨er2, er3⟩ := Prod.mk.inj er1
    obtain ⟨er4, er5⟩ := Prod.mk.inj er3
    obtain ⟨er6, er7⟩ := Prod.mk.inj er5
    obtain ⟨er8, er9⟩ := Prod.mk.inj er7
    obtain ⟨er10, er11⟩ := Prod.mk.inj er9
    obtain ⟨er12, er13⟩ := Prod.mk.inj er11
    obtain ⟨er14, er15⟩ := Prod.mk.inj er13
    obtain ⟨er16, er17⟩ := Prod.mk.inj er15
    obtain ⟨er18, er19⟩ := Prod.mk.inj er17
    obtain ⟨er20, er21⟩ := Prod.mk.inj er19
    obtain ⟨er22, er23⟩ := Prod.mk.inj er21
    clear hf er1 er3 er5 er7 er9 er11 er13 er15 er17 er19 er21
    subst er0
    subst er2
    subst er4
    subst er6
    subst er8
    subst er10
    subst er12
    subst er14
    subst er16
    subst er18
    subst er20
    subst er22
    subst er23
    exact rt_i Cc hK hP hD hS dX4_bay_83
set_option maxHeartbeats 4000000 in
set_option maxRecDepth 100000 in
theorem bX4_bay_53_0 {p : Program} {l : Launch} {e : Env} {s : State} {m : MethodId} {args : Array Value} {below : List Frame} {meth : Method} {c : Code} {A : Nat → Prop} {D : va_G} {cI cS : ClassId} (a_d a_f a_t a_r a_z a_f_kind a_f_wet a_g a_g_kind a_g_wet a_r_cells a_r_hours a_r_cracked a_s0 a_s0_row a_s1 a_s1_row a_s2 a_s2_row a_s3 a_s3_row : Nat) (d_traced : Int32) (t_hours : Int32) (t_opened : Int32) (t_firstWrong : Int32) (g_kind : Nat → Int32) (g_wet : Nat → Int32) (g_wide : Int32) (g_rows : Int32) (g_cells : Int32) (g_sun : Int32) (g_all : Int32) (g_firstColumn : Int32) (g_lastColumn : Int32) (r_cells : Nat → Int32) (r_hours : Nat → Int32) (r_cracked : Nat → Int32) (Cc : Cx p s m args meth c RX4 cX4_bay 8 (some .int)) (hK : va_K D classes (tysA cI cS) s) (hA : ∀ q, s.heap.size ≤ q → A q) (n : Nat) : ∀ (d_hour : Int32) (d_latestFault : Int32) (f_kind : Nat → Int32) (f_wet : Nat → Int32) (f_wide : Int32) (f_rows : Int32) (f_cells : Int32) (f_sun : Int32) (f_all : Int32) (f_firstColumn : Int32) (f_lastColumn : Int32) (r_count : Int32) (S_row : Nat → Nat → Int32) (S_lane : Nat → Int32) (S_length : Nat → Int32) (x3 : Int32) (x4 : Int32) (x6 : Int32) (r : Int32) (d_hour' : Int32) (d_latestFault' : Int32) (f_kind' : Nat → Int32) (f_wet' : Nat → Int32) (f_wide' : Int32) (f_rows' : Int32) (f_cells' : Int32) (f_sun' : Int32) (f_all' : Int32) (f_firstColumn' : Int32) (f_lastColumn' : Int32) (r_count' : Int32), fX4_bay_53 n d_hour d_latestFault f_kind f_wet f_wide f_rows f_cells f_sun f_all f_firstColumn f_lastColumn r_count S_row S_lane S_length 0 x3 x4 x6 = some (r, d_hour', d_latestFault', f_kind', f_wet', f_wide', f_rows', f_cells', f_sun', f_all', f_firstColumn', f_lastColumn', r_count') → ∀ (H : Heap) (locs : List Loc) (ls : Array Slot), va_P D classes (W_D cI cS a_d a_f a_t a_r a_z a_f_kind a_f_wet a_g a_g_kind a_g_wet a_r_cells a_r_hours a_r_cracked a_s0 a_s0_row a_s1 a_s1_row a_s2 a_s2_row a_s3 a_s3_row d_hour d_traced d_latestFault f_kind f_wet f_wide f_rows f_cells f_sun f_all f_firstColumn f_lastColumn t_hours t_opened t_firstWrong g_kind g_wet g_wide g_rows g_cells g_sun g_all g_firstColumn g_lastColumn r_cells r_hours r_cracked r_count S_row S_lane S_length) H → va_D A (W_D cI cS a_d a_f a_t a_r a_z a_f_kind a_f_wet a_g a_g_kind a_g_wet a_r_cells a_r_hours a_r_cracked a_s0 a_s0_row a_s1 a_s1_row a_s2 a_s2_row a_s3 a_s3_row d_hour d_traced d_latestFault f_kind f_wet f_wide f_rows f_cells f_sun f_all f_firstColumn f_lastColumn t_hours t_opened t_firstWrong g_kind g_wet g_wide g_rows g_cells g_sun g_all g_firstColumn g_lastColumn r_cells r_hours r_cracked r_count S_row S_lane S_length) → va_S A s.heap H locs → lv_has ls 8 [(0, .ref a_d), (3, .int x3), (4, .int x4), (5, .ref a_s0), (6, .int x6)] → W p l e (Rm 6) s m args below meth c H locs 0 0 (MQ below (QW D (tysA cI cS) (some (.int r)) (W_D cI cS a_d a_f a_t a_r a_z a_f_kind a_f_wet a_g a_g_kind a_g_wet a_r_cells a_r_hours a_r_cracked a_s0 a_s0_row a_s1 a_s1_row a_s2 a_s2_row a_s3 a_s3_row d_hour' d_traced d_latestFault' f_kind' f_wet' f_wide' f_rows' f_cells' f_sun' f_all' f_firstColumn' f_lastColumn' t_hours t_opened t_firstWrong g_kind g_wet g_wide g_rows g_cells g_sun g_all g_firstColumn g_lastColumn r_cells r_hours r_cracked r_count' S_row S_lane S_length) A) args s 0 0 A) (F0 m 53 ls []) := by
  obtain ⟨hx, hb, hr, hml, hown, hts, hlk, hnw⟩ := id Cc
  intro d_hour d_latestFault f_kind f_wet f_wide f_rows f_cells f_sun f_all f_firstColumn f_lastColumn r_count S_row S_lane S_length x3 x4 x6 r d_hour' d_latestFault' f_kind' f_wet' f_wide' f_rows' f_cells' f_sun' f_all' f_firstColumn' f_lastColumn' r_count' hf H locs ls hP hD hS hl
  unfold fX4_bay_53 at hf
  refine lv_iload hx hb dX4_bay_53 (lv_at hl 4 rfl) ?_
  refine lv_if_ne (tgt := 72) hx hb dX4_bay_55 (by decide) (fun hc7 => ?_) (fun hc7 => ?_)
  · replace hf := (if_neg hc7).symm.trans hf
    exact bX4_bay_72_0 a_d a_f a_t a_r a_z a_f_kind a_f_wet a_g a_g_kind a_g_wet a_r_cells a_r_hours a_r_cracked a_s0 a_s0_row a_s1 a_s1_row a_s2 a_s2_row a_s3 a_s3_row d_traced t_hours t_opened t_firstWrong g_kind g_wet g_wide g_rows g_cells g_sun g_all g_firstColumn g_lastColumn r_cells r_hours r_cracked Cc hK hA n _ _ _ _ _ _ _ _ _ _ _ _ _ _ _ _ _ _ _ _ _ _ _ _ _ _ _ _ _ _ _ hf _ _ _ hP hD hS (lv_sub hl [0, 1, 2, 3, 4] rfl)
  · replace hf := (if_pos hc7).symm.trans hf
    refine lv_aload hx hb dX4_bay_58 (lv_at hl 3 rfl) ?_
    refine lv_iload_n hx hb dX4_bay_60 rfl (lv_at hl 1 rfl) ?_
    refine lv_iload hx hb dX4_bay_61 (lv_at hl 2 rfl) ?_
    obtain ⟨q63_1, hq13, hf⟩ := Option.bind_eq_some_iff.mp hf
    refine cV (ws' := (W_D cI cS a_d a_f a_t a_r a_z a_f_kind a_f_wet a_g a_g_kind a_g_wet a_r_cells a_r_hours a_r_cracked a_s0 a_s0_row a_s1 a_s1_row a_s2 a_s2_row a_s3 a_s3_row d_hour d_traced d_latestFault f_kind f_wet f_wide f_rows f_cells f_sun f_all f_firstColumn f_lastColumn t_hours t_opened t_firstWrong g_kind g_wet g_wide g_rows g_cells g_sun g_all g_firstColumn g_lastColumn r_cells r_hours r_cracked r_count S_row S_lane S_length)) (rest := []) (st1 := [.int q63_1]) Cc hK hA hP hD hS hl.1 (ctX2_has l D cI cS a_s0 a_s0_row (S_row 0) (S_lane 0) (S_length 0) x3 x4 n q63_1 hq13) ⟨tw_169, tw_166, tw_167, tw_168, tw_5⟩ mdX2_has ⟨rfl, rfl, Nat.le_of_ble_eq_true rfl, Nat.le_of_ble_eq_true rfl⟩ rfl dX4_bay_63 rfl (Nat.le_of_ble_eq_true rfl) ⟨Nat.zero_le _, Nat.zero_le _⟩ rfl rfl rfl [13, 14] [0, 1, 2, 3, 4, 5, 6, 7, 8, 9, 10, 11, 12, 15, 16, 17, 18, 19, 20] [0, 1, 2, 3, 4, 5, 6, 7, 8, 9, 10, 11, 12, 19, 20, 13, 14, 15, 16, 17, 18] rfl rfl (by decide) rfl (fun H locs hP hD hS => ?_)
    refine lv_if_ne (tgt := 72) hx hb dX4_bay_66 (by decide) (fun hc14 => ?_) (fun hc14 => ?_)
    · replace hf := (if_neg hc14).symm.trans hf
      exact bX4_bay_72_0 a_d a_f a_t a_r a_z a_f_kind a_f_wet a_g a_g_kind a_g_wet a_r_cells a_r_hours a_r_cracked a_s0 a_s0_row a_s1 a_s1_row a_s2 a_s2_row a_s3 a_s3_row d_traced t_hours t_opened t_firstWrong g_kind g_wet g_wide g_rows g_cells g_sun g_all g_firstColumn g_lastColumn r_cells r_hours r_cracked Cc hK hA n _ _ _ _ _ _ _ _ _ _ _ _ _ _ _ _ _ _ _ _ _ _ _ _ _ _ _ _ _ _ _ hf _ _ _ hP hD hS (lv_sub hl [0, 1, 2, 3, 4] rfl)
    · replace hf := (if_pos hc14).symm.trans hf
      refine lv_iconst (v := (3 : Int32)) hx hb dX4_bay_69 (by decide) ?_
      refine lv_istore (lv' := [(6, .int (3 : Int32)), (0, .ref a_d), (3, .int x3), (4, .int x4), (5, .ref a_s0)]) hx hb dX4_bay_70 hl (by decide) rfl (fun ls hl => ?_)
      exact bX4_bay_72_0 a_d a_f a_t a_r a_z a_f_kind a_f_wet a_g a_g_kind a_g_wet a_r_cells a_r_hours a_r_cracked a_s0 a_s0_row a_s1 a_s1_row a_s2 a_s2_row a_s3 a_s3_row d_traced t_hours t_opened t_firstWrong g_kind g_wet g_wide g_rows g_cells g_sun g_all g_firstColumn g_lastColumn r_cells r_hours r_cracked Cc hK hA n _ _ _ _ _ _ _ _ _ _ _ _ _ _ _ _ _ _ _ _ _ _ _ _ _ _ _ _ _ _ _ hf _ _ _ hP hD hS (lv_sub hl [1, 2, 3, 4, 0] rfl)
set_option maxHeartbeats 4000000 in
set_option maxRecDepth 100000 in
theorem bX4_bay_72_1 {p : Program} {l : Launch} {e : Env} {s : State} {m : MethodId} {args : Array Value} {below : List Frame} {meth : Method} {c : Code} {A : Nat → Prop} {D : va_G} {cI cS : ClassId} (a_d a_f a_t a_r a_z a_f_kind a_f_wet a_g a_g_kind a_g_wet a_r_cells a_r_hours a_r_cracked a_s0 a_s0_row a_s1 a_s1_row a_s2 a_s2_row a_s3 a_s3_row : Nat) (d_traced : Int32) (t_hours : Int32) (t_opened : Int32) (t_firstWrong : Int32) (g_kind : Nat → Int32) (g_wet : Nat → Int32) (g_wide : Int32) (g_rows : Int32) (g_cells : Int32) (g_sun : Int32) (g_all : Int32) (g_firstColumn : Int32) (g_lastColumn : Int32) (r_cells : Nat → Int32) (r_hours : Nat → Int32) (r_cracked : Nat → Int32) (Cc : Cx p s m args meth c RX4 cX4_bay 8 (some .int)) (hK : va_K D classes (tysA cI cS) s) (hA : ∀ q, s.heap.size ≤ q → A q) (n : Nat) : ∀ (d_hour : Int32) (d_latestFault : Int32) (f_kind : Nat → Int32) (f_wet : Nat → Int32) (f_wide : Int32) (f_rows : Int32) (f_cells : Int32) (f_sun : Int32) (f_all : Int32) (f_firstColumn : Int32) (f_lastColumn : Int32) (r_count : Int32) (S_row : Nat → Nat → Int32) (S_lane : Nat → Int32) (S_length : Nat → Int32) (x3 : Int32) (x4 : Int32) (x6 : Int32) (r : Int32) (d_hour' : Int32) (d_latestFault' : Int32) (f_kind' : Nat → Int32) (f_wet' : Nat → Int32) (f_wide' : Int32) (f_rows' : Int32) (f_cells' : Int32) (f_sun' : Int32) (f_all' : Int32) (f_firstColumn' : Int32) (f_lastColumn' : Int32) (r_count' : Int32), fX4_bay_72 n d_hour d_latestFault f_kind f_wet f_wide f_rows f_cells f_sun f_all f_firstColumn f_lastColumn r_count S_row S_lane S_length 1 x3 x4 x6 = some (r, d_hour', d_latestFault', f_kind', f_wet', f_wide', f_rows', f_cells', f_sun', f_all', f_firstColumn', f_lastColumn', r_count') → ∀ (H : Heap) (locs : List Loc) (ls : Array Slot), va_P D classes (W_D cI cS a_d a_f a_t a_r a_z a_f_kind a_f_wet a_g a_g_kind a_g_wet a_r_cells a_r_hours a_r_cracked a_s0 a_s0_row a_s1 a_s1_row a_s2 a_s2_row a_s3 a_s3_row d_hour d_traced d_latestFault f_kind f_wet f_wide f_rows f_cells f_sun f_all f_firstColumn f_lastColumn t_hours t_opened t_firstWrong g_kind g_wet g_wide g_rows g_cells g_sun g_all g_firstColumn g_lastColumn r_cells r_hours r_cracked r_count S_row S_lane S_length) H → va_D A (W_D cI cS a_d a_f a_t a_r a_z a_f_kind a_f_wet a_g a_g_kind a_g_wet a_r_cells a_r_hours a_r_cracked a_s0 a_s0_row a_s1 a_s1_row a_s2 a_s2_row a_s3 a_s3_row d_hour d_traced d_latestFault f_kind f_wet f_wide f_rows f_cells f_sun f_all f_firstColumn f_lastColumn t_hours t_opened t_firstWrong g_kind g_wet g_wide g_rows g_cells g_sun g_all g_firstColumn g_lastColumn r_cells r_hours r_cracked r_count S_row S_lane S_length) → va_S A s.heap H locs → lv_has ls 8 [(0, .ref a_d), (3, .int x3), (4, .int x4), (5, .ref a_s1), (6, .int x6)] → W p l e (Rm 6) s m args below meth c H locs 0 0 (MQ below (QW D (tysA cI cS) (some (.int r)) (W_D cI cS a_d a_f a_t a_r a_z a_f_kind a_f_wet a_g a_g_kind a_g_wet a_r_cells a_r_hours a_r_cracked a_s0 a_s0_row a_s1 a_s1_row a_s2 a_s2_row a_s3 a_s3_row d_hour' d_traced d_latestFault' f_kind' f_wet' f_wide' f_rows' f_cells' f_sun' f_all' f_firstColumn' f_lastColumn' t_hours t_opened t_firstWrong g_kind g_wet g_wide g_rows g_cells g_sun g_all g_firstColumn g_lastColumn r_cells r_hours r_cracked r_count' S_row S_lane S_length) A) args s 0 0 A) (F0 m 72 ls []) := by
  obtain ⟨hx, hb, hr, hml, hown, hts, hlk, hnw⟩ := id Cc
  intro d_hour d_latestFault f_kind f_wet f_wide f_rows f_cells f_sun f_all f_firstColumn f_lastColumn r_count S_row S_lane S_length x3 x4 x6 r d_hour' d_latestFault' f_kind' f_wet' f_wide' f_rows' f_cells' f_sun' f_all' f_firstColumn' f_lastColumn' r_count' hf H locs ls hP hD hS hl
  unfold fX4_bay_72 at hf
  refine lv_iload hx hb dX4_bay_72 (lv_at hl 4 rfl) ?_
  refine lv_if_eq (tgt := 84) hx hb dX4_bay_74 (by decide) (fun hc19 => ?_) (fun hc19 => ?_)
  · replace hf := (if_pos hc19).symm.trans hf
    refine lv_aload hx hb dX4_bay_84 (lv_at hl 3 rfl) ?_
    refine lv_iload_n hx hb dX4_bay_86 rfl (lv_at hl 1 rfl) ?_
    refine lv_iload hx hb dX4_bay_87 (lv_at hl 2 rfl) ?_
    obtain ⟨q89_1, hq20, hf⟩ := Option.bind_eq_some_iff.mp hf
    refine cSt (ws' := (W_D cI cS a_d a_f a_t a_r a_z a_f_kind a_f_wet a_g a_g_kind a_g_wet a_r_cells a_r_hours a_r_cracked a_s0 a_s0_row a_s1 a_s1_row a_s2 a_s2_row a_s3 a_s3_row d_hour d_traced d_latestFault f_kind f_wet f_wide f_rows f_cells f_sun f_all f_firstColumn f_lastColumn t_hours t_opened t_firstWrong g_kind g_wet g_wide g_rows g_cells g_sun g_all g_firstColumn g_lastColumn r_cells r_hours r_cracked r_count S_row S_lane S_length)) (rest := []) (st1 := [.int q89_1]) Cc hK hA hP hD hS hl.1 (ctX4_firstFault l D cI cS a_s1 a_s1_row (S_row 1) (S_lane 1) (S_length 1) x3 x4 n q89_1 hq20) ⟨tw_176, tw_174, tw_175, tw_1⟩ mdX4_firstFault ⟨rfl, rfl, Nat.le_of_ble_eq_true rfl, Nat.le_of_ble_eq_true rfl⟩ rfl dX4_bay_89 rfl (Nat.le_of_ble_eq_true rfl) ⟨Nat.zero_le _, Nat.zero_le _⟩ rfl [15, 16] [0, 1, 2, 3, 4, 5, 6, 7, 8, 9, 10, 11, 12, 13, 14, 17, 18, 19, 20] [0, 1, 2, 3, 4, 5, 6, 7, 8, 9, 10, 11, 12, 13, 14, 19, 20, 15, 16, 17, 18] rfl rfl (by decide) rfl (fun H locs hP hD hS => ?_)
    refine lv_istore (lv' := [(7, .int q89_1), (0, .ref a_d), (3, .int x3), (4, .int x4), (5, .ref a_s1), (6, .int x6)]) hx hb dX4_bay_92 hl (by decide) rfl (fun ls hl => ?_)
    refine lv_iload hx hb dX4_bay_94 (lv_at hl 0 rfl) ?_
    refine lv_bipush (v := (-9 : Int32)) hx hb dX4_bay_96 (by decide) ?_
    refine lv_icmp_eq (tgt := 107) hx hb dX4_bay_98 (by decide) (fun hc21 => ?_) (fun hc21 => ?_)
    · replace hf := (if_pos hc21).symm.trans hf
      refine lv_aload_n hx hb dX4_bay_107 rfl (lv_at hl 1 rfl) ?_
      refine va_get (D := D) (ci := 4) (v := .ref a_f) (C := RX4) (T := TX4) (N := 7) hx hb hts inX4 hown hK hP 0 rfl rfl 0 (by decide) (hts _ tw_123) (fun _ h9 => h9) rfl dX4_bay_108 ?_
      refine lv_aload hx hb dX4_bay_111 (lv_at hl 4 rfl) ?_
      refine lv_iload_n hx hb dX4_bay_113 rfl (lv_at hl 2 rfl) ?_
      obtain ⟨q114_1, hq22, hf⟩ := Option.bind_eq_some_iff.mp hf
      refine cV (ws' := (W_D cI cS a_d a_f a_t a_r a_z a_f_kind a_f_wet a_g a_g_kind a_g_wet a_r_cells a_r_hours a_r_cracked a_s0 a_s0_row a_s1 a_s1_row a_s2 a_s2_row a_s3 a_s3_row d_hour d_traced d_latestFault q114_1.1 q114_1.2.1 q114_1.2.2.1 q114_1.2.2.2.1 q114_1.2.2.2.2.1 q114_1.2.2.2.2.2.1 q114_1.2.2.2.2.2.2.1 q114_1.2.2.2.2.2.2.2.1 q114_1.2.2.2.2.2.2.2.2 t_hours t_opened t_firstWrong g_kind g_wet g_wide g_rows g_cells g_sun g_all g_firstColumn g_lastColumn r_cells r_hours r_cracked r_count S_row S_lane S_length)) (rest := []) (st1 := []) Cc hK hA hP hD hS hl.1 (ctX0_becomeText l D cI cS a_f a_f_kind a_f_wet a_s1 a_s1_row f_kind f_wet f_wide f_rows f_cells f_sun f_all f_firstColumn f_lastColumn (S_row 1) (S_lane 1) (S_length 1) x3 n q114_1.1 q114_1.2.1 q114_1.2.2.1 q114_1.2.2.2.1 q114_1.2.2.2.2.1 q114_1.2.2.2.2.2.1 q114_1.2.2.2.2.2.2.1 q114_1.2.2.2.2.2.2.2.1 q114_1.2.2.2.2.2.2.2.2 hq22) ⟨tw_200, tw_197, tw_198, tw_199, tw_2⟩ mdX0_becomeText ⟨rfl, rfl, Nat.le_of_ble_eq_true rfl, Nat.le_of_ble_eq_true rfl⟩ rfl dX4_bay_114 rfl (Nat.le_of_ble_eq_true rfl) ⟨Nat.zero_le _, Nat.zero_le _⟩ rfl rfl rfl [1, 2, 3, 15, 16] [0, 4, 5, 6, 7, 8, 9, 10, 11, 12, 13, 14, 17, 18, 19, 20] [0, 16, 17, 18, 1, 2, 3, 4, 5, 6, 7, 8, 9, 10, 11, 19, 20, 12, 13, 14, 15] rfl rfl (by decide) rfl (fun H locs hP hD hS => ?_)
      refine lv_aload_n hx hb dX4_bay_117 rfl (lv_at hl 1 rfl) ?_
      refine lv_iconst (v := (0 : Int32)) hx hb dX4_bay_118 (by decide) ?_
      refine va_put (D := D) (ci := 4) (v := .int (0 : Int32)) (ty := .int) (C := RX4) (T := TX4) (N := 7) hx hb hts inX4 tyX4 tyX4_ok nmX4 hown hK hP hD hS 0 rfl rfl 4 (by decide) (hts _ tw_127) (fun _ h9 => h9) rfl (tyX4_ok 4 (by decide)) rfl rfl (Nat.le_of_ble_eq_true rfl) dX4_bay_119 (fun H locs hP hD hS => ?_)
      have hP : va_P D classes (W_D cI cS a_d a_f a_t a_r a_z a_f_kind a_f_wet a_g a_g_kind a_g_wet a_r_cells a_r_hours a_r_cracked a_s0 a_s0_row a_s1 a_s1_row a_s2 a_s2_row a_s3 a_s3_row (0 : Int32) d_traced d_latestFault q114_1.1 q114_1.2.1 q114_1.2.2.1 q114_1.2.2.2.1 q114_1.2.2.2.2.1 q114_1.2.2.2.2.2.1 q114_1.2.2.2.2.2.2.1 q114_1.2.2.2.2.2.2.2.1 q114_1.2.2.2.2.2.2.2.2 t_hours t_opened t_firstWrong g_kind g_wet g_wide g_rows g_cells g_sun g_all g_firstColumn g_lastColumn r_cells r_hours r_cracked r_count S_row S_lane S_length) H := hP
      have hD : va_D A (W_D cI cS a_d a_f a_t a_r a_z a_f_kind a_f_wet a_g a_g_kind a_g_wet a_r_cells a_r_hours a_r_cracked a_s0 a_s0_row a_s1 a_s1_row a_s2 a_s2_row a_s3 a_s3_row (0 : Int32) d_traced d_latestFault q114_1.1 q114_1.2.1 q114_1.2.2.1 q114_1.2.2.2.1 q114_1.2.2.2.2.1 q114_1.2.2.2.2.2.1 q114_1.2.2.2.2.2.2.1 q114_1.2.2.2.2.2.2.2.1 q114_1.2.2.2.2.2.2.2.2 t_hours t_opened t_firstWrong g_kind g_wet g_wide g_rows g_cells g_sun g_all g_firstColumn g_lastColumn r_cells r_hours r_cracked r_count S_row S_lane S_length) := hD
      refine lv_aload_n hx hb dX4_bay_122 rfl (lv_at hl 1 rfl) ?_
      refine va_get (D := D) (ci := 4) (v := .ref a_r) (C := RX4) (T := TX4) (N := 7) hx hb hts inX4 hown hK hP 0 rfl rfl 2 (by decide) (hts _ tw_125) (fun _ h9 => h9) rfl dX4_bay_123 ?_
      refine lv_iconst (v := (0 : Int32)) hx hb dX4_bay_126 (by decide) ?_
      refine va_putN (D := D) (ci := 1) (v := .int (0 : Int32)) (ty := .int) (C := RX1) (T := TX1) (N := 4) hx hb hts inX1 tyX1 tyX1_ok nmX1 hown hK hP hD hS 8 rfl rfl 3 (by decide) (va_Nw.use rfl (hnw _ nn_10)) (fun _ h9 => h9) rfl (tyX1_ok 3 (by decide)) rfl rfl (Nat.le_of_ble_eq_true rfl) dX4_bay_127 (fun H locs hP hD hS => ?_)
      have hP : va_P D classes (W_D cI cS a_d a_f a_t a_r a_z a_f_kind a_f_wet a_g a_g_kind a_g_wet a_r_cells a_r_hours a_r_cracked a_s0 a_s0_row a_s1 a_s1_row a_s2 a_s2_row a_s3 a_s3_row (0 : Int32) d_traced d_latestFault q114_1.1 q114_1.2.1 q114_1.2.2.1 q114_1.2.2.2.1 q114_1.2.2.2.2.1 q114_1.2.2.2.2.2.1 q114_1.2.2.2.2.2.2.1 q114_1.2.2.2.2.2.2.2.1 q114_1.2.2.2.2.2.2.2.2 t_hours t_opened t_firstWrong g_kind g_wet g_wide g_rows g_cells g_sun g_all g_firstColumn g_lastColumn r_cells r_hours r_cracked (0 : Int32) S_row S_lane S_length) H := hP
      have hD : va_D A (W_D cI cS a_d a_f a_t a_r a_z a_f_kind a_f_wet a_g a_g_kind a_g_wet a_r_cells a_r_hours a_r_cracked a_s0 a_s0_row a_s1 a_s1_row a_s2 a_s2_row a_s3 a_s3_row (0 : Int32) d_traced d_latestFault q114_1.1 q114_1.2.1 q114_1.2.2.1 q114_1.2.2.2.1 q114_1.2.2.2.2.1 q114_1.2.2.2.2.2.1 q114_1.2.2.2.2.2.2.1 q114_1.2.2.2.2.2.2.2.1 q114_1.2.2.2.2.2.2.2.2 t_hours t_opened t_firstWrong g_kind g_wet g_wide g_rows g_cells g_sun g_all g_firstColumn g_lastColumn r_cells r_hours r_cracked (0 : Int32) S_row S_lane S_length) := hD
      refine lv_aload_n hx hb dX4_bay_130 rfl (lv_at hl 1 rfl) ?_
      refine va_get (D := D) (ci := 4) (v := .ref a_f) (C := RX4) (T := TX4) (N := 7) hx hb hts inX4 hown hK hP 0 rfl rfl 0 (by decide) (hts _ tw_123) (fun _ h9 => h9) rfl dX4_bay_131 ?_
      refine va_getN (D := D) (ci := 0) (v := .int q114_1.2.2.2.2.1) (C := RX0) (T := TX0) (N := 9) hx hb hts inX0 hown hK hP 1 rfl rfl 4 (by decide) (va_Nw.use rfl (hnw _ nn_5)) (fun _ h9 => h9) rfl dX4_bay_134 ?_
      replace hf := Option.some.inj hf
      obtain ⟨er0, er1⟩ := Prod.mk.inj hf
      obtain ⟨er2, er3⟩ := Prod.mk.inj er1
      obtain ⟨er4, er5⟩ := Prod.mk.inj er3
      obtain ⟨er6, er7⟩ := Prod.mk.inj er5
      obtain ⟨er8, er9⟩ := Prod.mk.inj er7
      obtain ⟨er10, er11⟩ := Prod.mk.inj er9
      obtain ⟨er12, er13⟩ := Prod.mk.inj er11
      obtain ⟨er14, er15⟩ := Prod.mk.inj er13
      obtain ⟨er16, er17⟩ := Prod.mk.inj er15
      obtain ⟨er18, er19⟩ := Prod.mk.inj er17
      obtain ⟨er20, er21⟩ := Prod.mk.inj er19
      obtain ⟨er22, er23⟩ := Prod.mk.inj er21
      clear hf er1 er3 er5 er7 er9 er11 er13 er15 er17 er19 er21
      subst er0
      subst er2
      subst er4
      subst er6
      subst er8
      subst er10
      subst er12
      subst er14
      subst er16
      subst er18
      subst er20
      subst er22
      subst er23
      exact rt_i Cc hK hP hD hS dX4_bay_137
    · replace hf := (if_neg hc21).symm.trans hf
      refine lv_bipush (v := (-100 : Int32)) hx hb dX4_bay_101 (by decide) ?_
      refine lv_iload hx hb dX4_bay_103 (lv_at hl 0 rfl) ?_
      refine lv_isub hx hb dX4_bay_105 ?_
      replace hf := Option.some.inj hf
      obtain ⟨er0, er1⟩ := Prod.mk.inj hf
      obtain ⟨er2, er3⟩ := Prod.mk.inj er1
      obtain ⟨er4, er5⟩ := Prod.mk.inj er3
      obtain ⟨er6, er7⟩ := Prod.mk.inj er5
      obtain ⟨er8, er9⟩ := Prod.mk.inj er7
      obtain ⟨er10, er11⟩ := Prod.mk.inj er9
      obtain ⟨er12, er13⟩ := Prod.mk.inj er11
      obtain ⟨er14, er15⟩ := Prod.mk.inj er13
      obtain ⟨er16, er17⟩ := Prod.mk.inj er15
      obtain ⟨er18, er19⟩ := Prod.mk.inj er17
      obtain ⟨er20, er21⟩ := Prod.mk.inj er19
      obtain ⟨er22, er23⟩ := Prod.mk.inj er21
      clear hf er1 er3 er5 er7 er9 er11 er13 er15 er17 er19 er21
      subst er0
      subst er2
      subst er4
      subst er6
      subst er8
      subst er10
      subst er12
      subst er14
      subst er16
      subst er18
      subst er20
      subst er22
      subst er23
      exact rt_i Cc hK hP hD hS dX4_bay_106
  · replace hf := (if_neg hc19).symm.trans hf
    refine lv_aload_n hx hb dX4_bay_77 rfl (lv_at hl 0 rfl) ?_
    refine lv_iload hx hb dX4_bay_78 (lv_at hl 4 rfl) ?_
    obtain ⟨q80_1, hq23, hf⟩ := Option.bind_eq_some_iff.mp hf
    refine cV (ws' := (W_D cI cS a_d a_f a_t a_r a_z a_f_kind a_f_wet a_g a_g_kind a_g_wet a_r_cells a_r_hours a_r_cracked a_s0 a_s0_row a_s1 a_s1_row a_s2 a_s2_row a_s3 a_s3_row d_hour d_traced q80_1.2 f_kind f_wet f_wide f_rows f_cells f_sun f_all f_firstColumn f_lastColumn t_hours t_opened t_firstWrong g_kind g_wet g_wide g_rows g_cells g_sun g_all g_firstColumn g_lastColumn r_cells r_hours r_cracked r_count S_row S_lane S_length)) (rest := []) (st1 := [.int q80_1.1]) Cc hK hA hP hD hS hl.1 (ctX4_faulted l D cI cS a_d a_f a_t a_r a_z d_hour d_traced d_latestFault x6 n q80_1.1 q80_1.2 hq23) ⟨tw_173, tw_170, tw_172, tp_0, tw_1⟩ mdX4_faulted ⟨rfl, rfl, Nat.le_of_ble_eq_true rfl, Nat.le_of_ble_eq_true rfl⟩ rfl dX4_bay_80 rfl (Nat.le_of_ble_eq_true rfl) ⟨Nat.zero_le _, Nat.zero_le _⟩ rfl rfl rfl [0] [1, 2, 3, 4, 5, 6, 7, 8, 9, 10, 11, 12, 13, 14, 15, 16, 17, 18, 19, 20] [20, 0, 1, 2, 3, 4, 5, 6, 7, 8, 9, 10, 11, 12, 13, 14, 15, 16, 17, 18, 19] rfl rfl (by decide) rfl (fun H locs hP hD hS => ?_)
    replace hf := Option.some.inj hf
    obtain ⟨er0, er1⟩ := Prod.mk.inj hf
    obtain ⟨er2, er3⟩ := Prod.mk.inj er1
    obtain ⟨er4, er5⟩ := Prod.mk.inj er3
    obtain ⟨er6, er7⟩ := Prod.mk.inj er5
    obtain ⟨er8, er9⟩ := Prod.mk.inj er7
    obtain ⟨er10, er11⟩ := Prod.mk.inj er9
    obtain ⟨er12, er13⟩ := Prod.mk.inj er11
    obtain ⟨er14, er15⟩ := Prod.mk.inj er13
    obtain ⟨er16, er17⟩ := Prod.mk.inj er15
    obtain ⟨er18, er19⟩ := Prod.mk.inj er17
    obtain ⟨er20, er21⟩ := Prod.mk.inj er19
    obtain ⟨er22, er23⟩ := Prod.mk.inj er21
    clear hf er1 er3 er5 er7 er9 er11 er13 er15 er17 er19 er21
    subst er0
    subst er2
    subst er4
    subst er6
    subst er8
    subst er10
    subst er12
    subst er14
    subst er16
    subst er18
    subst er20
    subst er22
    subst er23
    exact rt_i Cc hK hP hD hS dX4_bay_83
set_option maxHeartbeats 4000000 in
set_option maxRecDepth 100000 in
theorem bX4_bay_53_1 {p : Program} {l : Launch} {e : Env} {s : State} {m : MethodId} {args : Array Value} {below : List Frame} {meth : Method} {c : Code} {A : Nat → Prop} {D : va_G} {cI cS : ClassId} (a_d a_f a_t a_r a_z a_f_kind a_f_wet a_g a_g_kind a_g_wet a_r_cells a_r_hours a_r_cracked a_s0 a_s0_row a_s1 a_s1_row a_s2 a_s2_row a_s3 a_s3_row : Nat) (d_traced : Int32) (t_hours : Int32) (t_opened : Int32) (t_firstWrong : Int32) (g_kind : Nat → Int32) (g_wet : Nat → Int32) (g_wide : Int32) (g_rows : Int32) (g_cells : Int32) (g_sun : Int32) (g_all : Int32) (g_firstColumn : Int32) (g_lastColumn : Int32) (r_cells : Nat → Int32) (r_hours : Nat → Int32) (r_cracked : Nat → Int32) (Cc : Cx p s m args meth c RX4 cX4_bay 8 (some .int)) (hK : va_K D classes (tysA cI cS) s) (hA : ∀ q, s.heap.size ≤ q → A q) (n : Nat) : ∀ (d_hour : Int32) (d_latestFault : Int32) (f_kind : Nat → Int32) (f_wet : Nat → Int32) (f_wide : Int32) (f_rows : Int32) (f_cells : Int32) (f_sun : Int32) (f_all : Int32) (f_firstColumn : Int32) (f_lastColumn : Int32) (r_count : Int32) (S_row : Nat → Nat → Int32) (S_lane : Nat → Int32) (S_length : Nat → Int32) (x3 : Int32) (x4 : Int32) (x6 : Int32) (r : Int32) (d_hour' : Int32) (d_latestFault' : Int32) (f_kind' : Nat → Int32) (f_wet' : Nat → Int32) (f_wide' : Int32) (f_rows' : Int32) (f_cells' : Int32) (f_sun' : Int32) (f_all' : Int32) (f_firstColumn' : Int32) (f_lastColumn' : Int32) (r_count' : Int32), fX4_bay_53 n d_hour d_latestFault f_kind f_wet f_wide f_rows f_cells f_sun f_all f_firstColumn f_lastColumn r_count S_row S_lane S_length 1 x3 x4 x6 = some (r, d_hour', d_latestFault', f_kind', f_wet', f_wide', f_rows', f_cells', f_sun', f_all', f_firstColumn', f_lastColumn', r_count') → ∀ (H : Heap) (locs : List Loc) (ls : Array Slot), va_P D classes (W_D cI cS a_d a_f a_t a_r a_z a_f_kind a_f_wet a_g a_g_kind a_g_wet a_r_cells a_r_hours a_r_cracked a_s0 a_s0_row a_s1 a_s1_row a_s2 a_s2_row a_s3 a_s3_row d_hour d_traced d_latestFault f_kind f_wet f_wide f_rows f_cells f_sun f_all f_firstColumn f_lastColumn t_hours t_opened t_firstWrong g_kind g_wet g_wide g_rows g_cells g_sun g_all g_firstColumn g_lastColumn r_cells r_hours r_cracked r_count S_row S_lane S_length) H → va_D A (W_D cI cS a_d a_f a_t a_r a_z a_f_kind a_f_wet a_g a_g_kind a_g_wet a_r_cells a_r_hours a_r_cracked a_s0 a_s0_row a_s1 a_s1_row a_s2 a_s2_row a_s3 a_s3_row d_hour d_traced d_latestFault f_kind f_wet f_wide f_rows f_cells f_sun f_all f_firstColumn f_lastColumn t_hours t_opened t_firstWrong g_kind g_wet g_wide g_rows g_cells g_sun g_all g_firstColumn g_lastColumn r_cells r_hours r_cracked r_count S_row S_lane S_length) → va_S A s.heap H locs → lv_has ls 8 [(0, .ref a_d), (3, .int x3), (4, .int x4), (5, .ref a_s1), (6, .int x6)] → W p l e (Rm 6) s m args below meth c H locs 0 0 (MQ below (QW D (tysA cI cS) (some (.int r)) (W_D cI cS a_d a_f a_t a_r a_z a_f_kind a_f_wet a_g a_g_kind a_g_wet a_r_cells a_r_hours a_r_cracked a_s0 a_s0_row a_s1 a_s1_row a_s2 a_s2_row a_s3 a_s3_row d_hour' d_traced d_latestFault' f_kind' f_wet' f_wide' f_rows' f_cells' f_sun' f_all' f_firstColumn' f_lastColumn' t_hours t_opened t_firstWrong g_kind g_wet g_wide g_rows g_cells g_sun g_all g_firstColumn g_lastColumn r_cells r_hours r_cracked r_count' S_row S_lane S_length) A) args s 0 0 A) (F0 m 53 ls []) := by
  obtain ⟨hx, hb, hr, hml, hown, hts, hlk, hnw⟩ := id Cc
  intro d_hour d_latestFault f_kind f_wet f_wide f_rows f_cells f_sun f_all f_firstColumn f_lastColumn r_count S_row S_lane S_length x3 x4 x6 r d_hour' d_latestFault' f_kind' f_wet' f_wide' f_rows' f_cells' f_sun' f_all' f_firstColumn' f_lastColumn' r_count' hf H locs ls hP hD hS hl
  unfold fX4_bay_53 at hf
  refine lv_iload hx hb dX4_bay_53 (lv_at hl 4 rfl) ?_
  refine lv_if_ne (tgt := 72) hx hb dX4_bay_55 (by decide) (fun hc18 => ?_) (fun hc18 => ?_)
  · replace hf := (if_neg hc18).symm.trans hf
    exact bX4_bay_72_1 a_d a_f a_t a_r a_z a_f_kind a_f_wet a_g a_g_kind a_g_wet a_r_cells a_r_hours a_r_cracked a_s0 a_s0_row a_s1 a_s1_row a_s2 a_s2_row a_s3 a_s3_row d_traced t_hours t_opened t_firstWrong g_kind g_wet g_wide g_rows g_cells g_sun g_all g_firstColumn g_lastColumn r_cells r_hours r_cracked Cc hK hA n _ _ _ _ _ _ _ _ _ _ _ _ _ _ _ _ _ _ _ _ _ _ _ _ _ _ _ _ _ _ _ hf _ _ _ hP hD hS (lv_sub hl [0, 1, 2, 3, 4] rfl)
  · replace hf := (if_pos hc18).symm.trans hf
    refine lv_aload hx hb dX4_bay_58 (lv_at hl 3 rfl) ?_
    refine lv_iload_n hx hb dX4_bay_60 rfl (lv_at hl 1 rfl) ?_
    refine lv_iload hx hb dX4_bay_61 (lv_at hl 2 rfl) ?_
    obtain ⟨q63_1, hq24, hf⟩ := Option.bind_eq_some_iff.mp hf
    refine cV (ws' := (W_D cI cS a_d a_f a_t a_r a_z a_f_kind a_f_wet a_g a_g_kind a_g_wet a_r_cells a_r_hours a_r_cracked a_s0 a_s0_row a_s1 a_s1_row a_s2 a_s2_row a_s3 a_s3_row d_hour d_traced d_latestFault f_kind f_wet f_wide f_rows f_cells f_sun f_all f_firstColumn f_lastColumn t_hours t_opened t_firstWrong g_kind g_wet g_wide g_rows g_cells g_sun g_all g_firstColumn g_lastColumn r_cells r_hours r_cracked r_count S_row S_lane S_length)) (rest := []) (st1 := [.int q63_1]) Cc hK hA hP hD hS hl.1 (ctX2_has l D cI cS a_s1 a_s1_row (S_row 1) (S_lane 1) (S_length 1) x3 x4 n q63_1 hq24) ⟨tw_169, tw_166, tw_167, tw_168, tw_5⟩ mdX2_has ⟨rfl, rfl, Nat.le_of_ble_eq_true rfl, Nat.le_of_ble_eq_true rfl⟩ rfl dX4_bay_63 rfl (Nat.le_of_ble_eq_true rfl) ⟨Nat.zero_le _, Nat.zero_le _⟩ rfl rfl rfl [15, 16] [0, 1, 2, 3, 4, 5, 6, 7, 8, 9, 10, 11, 12, 13, 14, 17, 18, 19, 20] [0, 1, 2, 3, 4, 5, 6, 7, 8, 9, 10, 11, 12, 13, 14, 19, 20, 15, 16, 17, 18] rfl rfl (by decide) rfl (fun H locs hP hD hS => ?_)
    refine lv_if_ne (tgt := 72) hx hb dX4_bay_66 (by decide) (fun hc25 => ?_) (fun hc25 => ?_)
    · replace hf := (if_neg hc25).symm.trans hf
      exact bX4_bay_72_1 a_d a_f a_t a_r a_z a_f_kind a_f_wet a_g a_g_kind a_g_wet a_r_cells a_r_hours a_r_cracked a_s0 a_s0_row a_s1 a_s1_row a_s2 a_s2_row a_s3 a_s3_row d_traced t_hours t_opened t_firstWrong g_kind g_wet g_wide g_rows g_cells g_sun g_all g_firstColumn g_lastColumn r_cells r_hours r_cracked Cc hK hA n _ _ _ _ _ _ _ _ _ _ _ _ _ _ _ _ _ _ _ _ _ _ _ _ _ _ _ _ _ _ _ hf _ _ _ hP hD hS (lv_sub hl [0, 1, 2, 3, 4] rfl)
    · replace hf := (if_pos hc25).symm.trans hf
      refine lv_iconst (v := (3 : Int32)) hx hb dX4_bay_69 (by decide) ?_
      refine lv_istore (lv' := [(6, .int (3 : Int32)), (0, .ref a_d), (3, .int x3), (4, .int x4), (5, .ref a_s1)]) hx hb dX4_bay_70 hl (by decide) rfl (fun ls hl => ?_)
      exact bX4_bay_72_1 a_d a_f a_t a_r a_z a_f_kind a_f_wet a_g a_g_kind a_g_wet a_r_cells a_r_hours a_r_cracked a_s0 a_s0_row a_s1 a_s1_row a_s2 a_s2_row a_s3 a_s3_row d_traced t_hours t_opened t_firstWrong g_kind g_wet g_wide g_rows g_cells g_sun g_all g_firstColumn g_lastColumn r_cells r_hours r_cracked Cc hK hA n _ _ _ _ _ _ _ _ _ _ _ _ _ _ _ _ _ _ _ _ _ _ _ _ _ _ _ _ _ _ _ hf _ _ _ hP hD hS (lv_sub hl [1, 2, 3, 4, 0] rfl)
set_option maxHeartbeats 4000000 in
set_option maxRecDepth 100000 in
theorem bX4_bay_72_2 {p : Program} {l : Launch} {e : Env} {s : State} {m : MethodId} {args : Array Value} {below : List Frame} {meth : Method} {c : Code} {A : Nat → Prop} {D : va_G} {cI cS : ClassId} (a_d a_f a_t a_r a_z a_f_kind a_f_wet a_g a_g_kind a_g_wet a_r_cells a_r_hours a_r_cracked a_s0 a_s0_row a_s1 a_s1_row a_s2 a_s2_row a_s3 a_s3_row : Nat) (d_traced : Int32) (t_hours : Int32) (t_opened : Int32) (t_firstWrong : Int32) (g_kind : Nat → Int32) (g_wet : Nat → Int32) (g_wide : Int32) (g_rows : Int32) (g_cells : Int32) (g_sun : Int32) (g_all : Int32) (g_firstColumn : Int32) (g_lastColumn : Int32) (r_cells : Nat → Int32) (r_hours : Nat → Int32) (r_cracked : Nat → Int32) (Cc : Cx p s m args meth c RX4 cX4_bay 8 (some .int)) (hK : va_K D classes (tysA cI cS) s) (hA : ∀ q, s.heap.size ≤ q → A q) (n : Nat) : ∀ (d_hour : Int32) (d_latestFault : Int32) (f_kind : Nat → Int32) (f_wet : Nat → Int32) (f_wide : Int32) (f_rows : Int32) (f_cells : Int32) (f_sun : Int32) (f_all : Int32) (f_firstColumn : Int32) (f_lastColumn : Int32) (r_count : Int32) (S_row : Nat → Nat → Int32) (S_lane : Nat → Int32) (S_length : Nat → Int32) (x3 : Int32) (x4 : Int32) (x6 : Int32) (r : Int32) (d_hour' : Int32) (d_latestFault' : Int32) (f_kind' : Nat → Int32) (f_wet' : Nat → Int32) (f_wide' : Int32) (f_rows' : Int32) (f_cells' : Int32) (f_sun' : Int32) (f_all' : Int32) (f_firstColumn' : Int32) (f_lastColumn' : Int32) (r_count' : Int32), fX4_bay_72 n d_hour d_latestFault f_kind f_wet f_wide f_rows f_cells f_sun f_all f_firstColumn f_lastColumn r_count S_row S_lane S_length 2 x3 x4 x6 = some (r, d_hour', d_latestFault', f_kind', f_wet', f_wide', f_rows', f_cells', f_sun', f_all', f_firstColumn', f_lastColumn', r_count') → ∀ (H : Heap) (locs : List Loc) (ls : Array Slot), va_P D classes (W_D cI cS a_d a_f a_t a_r a_z a_f_kind a_f_wet a_g a_g_kind a_g_wet a_r_cells a_r_hours a_r_cracked a_s0 a_s0_row a_s1 a_s1_row a_s2 a_s2_row a_s3 a_s3_row d_hour d_traced d_latestFault f_kind f_wet f_wide f_rows f_cells f_sun f_all f_firstColumn f_lastColumn t_hours t_opened t_firstWrong g_kind g_wet g_wide g_rows g_cells g_sun g_all g_firstColumn g_lastColumn r_cells r_hours r_cracked r_count S_row S_lane S_length) H → va_D A (W_D cI cS a_d a_f a_t a_r a_z a_f_kind a_f_wet a_g a_g_kind a_g_wet a_r_cells a_r_hours a_r_cracked a_s0 a_s0_row a_s1 a_s1_row a_s2 a_s2_row a_s3 a_s3_row d_hour d_traced d_latestFault f_kind f_wet f_wide f_rows f_cells f_sun f_all f_firstColumn f_lastColumn t_hours t_opened t_firstWrong g_kind g_wet g_wide g_rows g_cells g_sun g_all g_firstColumn g_lastColumn r_cells r_hours r_cracked r_count S_row S_lane S_length) → va_S A s.heap H locs → lv_has ls 8 [(0, .ref a_d), (3, .int x3), (4, .int x4), (5, .ref a_s2), (6, .int x6)] → W p l e (Rm 6) s m args below meth c H locs 0 0 (MQ below (QW D (tysA cI cS) (some (.int r)) (W_D cI cS a_d a_f a_t a_r a_z a_f_kind a_f_wet a_g a_g_kind a_g_wet a_r_cells a_r_hours a_r_cracked a_s0 a_s0_row a_s1 a_s1_row a_s2 a_s2_row a_s3 a_s3_row d_hour' d_traced d_latestFault' f_kind' f_wet' f_wide' f_rows' f_cells' f_sun' f_all' f_firstColumn' f_lastColumn' t_hours t_opened t_firstWrong g_kind g_wet g_wide g_rows g_cells g_sun g_all g_firstColumn g_lastColumn r_cells r_hours r_cracked r_count' S_row S_lane S_length) A) args s 0 0 A) (F0 m 72 ls []) := by
  obtain ⟨hx, hb, hr, hml, hown, hts, hlk, hnw⟩ := id Cc
  intro d_hour d_latestFault f_kind f_wet f_wide f_rows f_cells f_sun f_all f_firstColumn f_lastColumn r_count S_row S_lane S_length x3 x4 x6 r d_hour' d_latestFault' f_kind' f_wet' f_wide' f_rows' f_cells' f_sun' f_all' f_firstColumn' f_lastColumn' r_count' hf H locs ls hP hD hS hl
  unfold fX4_bay_72 at hf
  refine lv_iload hx hb dX4_bay_72 (lv_at hl 4 rfl) ?_
  refine lv_if_eq (tgt := 84) hx hb dX4_bay_74 (by decide) (fun hc30 => ?_) (fun hc30 => ?_)
  · replace hf := (if_pos hc30).symm.trans hf
    refine lv_aload hx hb dX4_bay_84 (lv_at hl 3 rfl) ?_
    refine lv_iload_n hx hb dX4_bay_86 rfl (lv_at hl 1 rfl) ?_
    refine lv_iload hx hb dX4_bay_87 (lv_at hl 2 rfl) ?_
    obtain ⟨q89_1, hq31, hf⟩ := Option.bind_eq_some_iff.mp hf
    refine cSt (ws' := (W_D cI cS a_d a_f a_t a_r a_z a_f_kind a_f_wet a_g a_g_kind a_g_wet a_r_cells a_r_hours a_r_cracked a_s0 a_s0_row a_s1 a_s1_row a_s2 a_s2_row a_s3 a_s3_row d_hour d_traced d_latestFault f_kind f_wet f_wide f_rows f_cells f_sun f_all f_firstColumn f_lastColumn t_hours t_opened t_firstWrong g_kind g_wet g_wide g_rows g_cells g_sun g_all g_firstColumn g_lastColumn r_cells r_hours r_cracked r_count S_row S_lane S_length)) (rest := []) (st1 := [.int q89_1]) Cc hK hA hP hD hS hl.1 (ctX4_firstFault l D cI cS a_s2 a_s2_row (S_row 2) (S_lane 2) (S_length 2) x3 x4 n q89_1 hq31) ⟨tw_176, tw_174, tw_175, tw_1⟩ mdX4_firstFault ⟨rfl, rfl, Nat.le_of_ble_eq_true rfl, Nat.le_of_ble_eq_true rfl⟩ rfl dX4_bay_89 rfl (Nat.le_of_ble_eq_true rfl) ⟨Nat.zero_le _, Nat.zero_le _⟩ rfl [17, 18] [0, 1, 2, 3, 4, 5, 6, 7, 8, 9, 10, 11, 12, 13, 14, 15, 16, 19, 20] [0, 1, 2, 3, 4, 5, 6, 7, 8, 9, 10, 11, 12, 13, 14, 15, 16, 19, 20, 17, 18] rfl rfl (by decide) rfl (fun H locs hP hD hS => ?_)
    refine lv_istore (lv' := [(7, .int q89_1), (0, .ref a_d), (3, .int x3), (4, .int x4), (5, .ref a_s2), (6, .int x6)]) hx hb dX4_bay_92 hl (by decide) rfl (fun ls hl => ?_)
    refine lv_iload hx hb dX4_bay_94 (lv_at hl 0 rfl) ?_
    refine lv_bipush (v := (-9 : Int32)) hx hb dX4_bay_96 (by decide) ?_
    refine lv_icmp_eq (tgt := 107) hx hb dX4_bay_98 (by decide) (fun hc32 => ?_) (fun hc32 => ?_)
    · replace hf := (if_pos hc32).symm.trans hf
      refine lv_aload_n hx hb dX4_bay_107 rfl (lv_at hl 1 rfl) ?_
      refine va_get (D := D) (ci := 4) (v := .ref a_f) (C := RX4) (T := TX4) (N := 7) hx hb hts inX4 hown hK hP 0 rfl rfl 0 (by decide) (hts _ tw_123) (fun _ h9 => h9) rfl dX4_bay_108 ?_
      refine lv_aload hx hb dX4_bay_111 (lv_at hl 4 rfl) ?_
      refine lv_iload_n hx hb dX4_bay_113 rfl (lv_at hl 2 rfl) ?_
      obtain ⟨q114_1, hq33, hf⟩ := Option.bind_eq_some_iff.mp hf
      refine cV (ws' := (W_D cI cS a_d a_f a_t a_r a_z a_f_kind a_f_wet a_g a_g_kind a_g_wet a_r_cells a_r_hours a_r_cracked a_s0 a_s0_row a_s1 a_s1_row a_s2 a_s2_row a_s3 a_s3_row d_hour d_traced d_latestFault q114_1.1 q114_1.2.1 q114_1.2.2.1 q114_1.2.2.2.1 q114_1.2.2.2.2.1 q114_1.2.2.2.2.2.1 q114_1.2.2.2.2.2.2.1 q114_1.2.2.2.2.2.2.2.1 q114_1.2.2.2.2.2.2.2.2 t_hours t_opened t_firstWrong g_kind g_wet g_wide g_rows g_cells g_sun g_all g_firstColumn g_lastColumn r_cells r_hours r_cracked r_count S_row S_lane S_length)) (rest := []) (st1 := []) Cc hK hA hP hD hS hl.1 (ctX0_becomeText l D cI cS a_f a_f_kind a_f_wet a_s2 a_s2_row f_kind f_wet f_wide f_rows f_cells f_sun f_all f_firstColumn f_lastColumn (S_row 2) (S_lane 2) (S_length 2) x3 n q114_1.1 q114_1.2.1 q114_1.2.2.1 q114_1.2.2.2.1 q114_1.2.2.2.2.1 q114_1.2.2.2.2.2.1 q114_1.2.2.2.2.2.2.1 q114_1.2.2.2.2.2.2.2.1 q114_1.2.2.2.2.2.2.2.2 hq33) ⟨tw_200, tw_197, tw_198, tw_199, tw_2⟩ mdX0_becomeText ⟨rfl, rfl, Nat.le_of_ble_eq_true rfl, Nat.le_of_ble_eq_true rfl⟩ rfl dX4_bay_114 rfl (Nat.le_of_ble_eq_true rfl) ⟨Nat.zero_le _, Nat.zero_le _⟩ rfl rfl rfl [1, 2, 3, 17, 18] [0, 4, 5, 6, 7, 8, 9, 10, 11, 12, 13, 14, 15, 16, 19, 20] [0, 16, 17, 18, 1, 2, 3, 4, 5, 6, 7, 8, 9, 10, 11, 12, 13, 19, 20, 14, 15] rfl rfl (by decide) rfl (fun H locs hP hD hS => ?_)
      refine lv_aload_n hx hb dX4_bay_117 rfl (lv_at hl 1 rfl) ?_
      refine lv_iconst (v := (0 : Int32)) hx hb dX4_bay_118 (by decide) ?_
      refine va_put (D := D) (ci := 4) (v := .int (0 : Int32)) (ty := .int) (C := RX4) (T := TX4) (N := 7) hx hb hts inX4 tyX4 tyX4_ok nmX4 hown hK hP hD hS 0 rfl rfl 4 (by decide) (hts _ tw_127) (fun _ h9 => h9) rfl (tyX4_ok 4 (by decide)) rfl rfl (Nat.le_of_ble_eq_true rfl) dX4_bay_119 (fun H locs hP hD hS => ?_)
      have hP : va_P D classes (W_D cI cS a_d a_f a_t a_r a_z a_f_kind a_f_wet a_g a_g_kind a_g_wet a_r_cells a_r_hours a_r_cracked a_s0 a_s0_row a_s1 a_s1_row a_s2 a_s2_row a_s3 a_s3_row (0 : Int32) d_traced d_latestFault q114_1.1 q114_1.2.1 q114_1.2.2.1 q114_1.2.2.2.1 q114_1.2.2.2.2.1 q114_1.2.2.2.2.2.1 q114_1.2.2.2.2.2.2.1 q114_1.2.2.2.2.2.2.2.1 q114_1.2.2.2.2.2.2.2.2 t_hours t_opened t_firstWrong g_kind g_wet g_wide g_rows g_cells g_sun g_all g_firstColumn g_lastColumn r_cells r_hours r_cracked r_count S_row S_lane S_length) H := hP
      have hD : va_D A (W_D cI cS a_d a_f a_t a_r a_z a_f_kind a_f_wet a_g a_g_kind a_g_wet a_r_cells a_r_hours a_r_cracked a_s0 a_s0_row a_s1 a_s1_row a_s2 a_s2_row a_s3 a_s3_row (0 : Int32) d_traced d_latestFault q114_1.1 q114_1.2.1 q114_1.2.2.1 q114_1.2.2.2.1 q114_1.2.2.2.2.1 q114_1.2.2.2.2.2.1 q114_1.2.2.2.2.2.2.1 q114_1.2.2.2.2.2.2.2.1 q114_1.2.2.2.2.2.2.2.2 t_hours t_opened t_firstWrong g_kind g_wet g_wide g_rows g_cells g_sun g_all g_firstColumn g_lastColumn r_cells r_hours r_cracked r_count S_row S_lane S_length) := hD
      refine lv_aload_n hx hb dX4_bay_122 rfl (lv_at hl 1 rfl) ?_
      refine va_get (D := D) (ci := 4) (v := .ref a_r) (C := RX4) (T := TX4) (N := 7) hx hb hts inX4 hown hK hP 0 rfl rfl 2 (by decide) (hts _ tw_125) (fun _ h9 => h9) rfl dX4_bay_123 ?_
      refine lv_iconst (v := (0 : Int32)) hx hb dX4_bay_126 (by decide) ?_
      refine va_putN (D := D) (ci := 1) (v := .int (0 : Int32)) (ty := .int) (C := RX1) (T := TX1) (N := 4) hx hb hts inX1 tyX1 tyX1_ok nmX1 hown hK hP hD hS 8 rfl rfl 3 (by decide) (va_Nw.use rfl (hnw _ nn_10)) (fun _ h9 => h9) rfl (tyX1_ok 3 (by decide)) rfl rfl (Nat.le_of_ble_eq_true rfl) dX4_bay_127 (fun H locs hP hD hS => ?_)
      have hP : va_P D classes (W_D cI cS a_d a_f a_t a_r a_z a_f_kind a_f_wet a_g a_g_kind a_g_wet a_r_cells a_r_hours a_r_cracked a_s0 a_s0_row a_s1 a_s1_row a_s2 a_s2_row a_s3 a_s3_row (0 : Int32) d_traced d_latestFault q114_1.1 q114_1.2.1 q114_1.2.2.1 q114_1.2.2.2.1 q114_1.2.2.2.2.1 q114_1.2.2.2.2.2.1 q114_1.2.2.2.2.2.2.1 q114_1.2.2.2.2.2.2.2.1 q114_1.2.2.2.2.2.2.2.2 t_hours t_opened t_firstWrong g_kind g_wet g_wide g_rows g_cells g_sun g_all g_firstColumn g_lastColumn r_cells r_hours r_cracked (0 : Int32) S_row S_lane S_length) H := hP
      have hD : va_D A (W_D cI cS a_d a_f a_t a_r a_z a_f_kind a_f_wet a_g a_g_kind a_g_wet a_r_cells a_r_hours a_r_cracked a_s0 a_s0_row a_s1 a_s1_row a_s2 a_s2_row a_s3 a_s3_row (0 : Int32) d_traced d_latestFault q114_1.1 q114_1.2.1 q114_1.2.2.1 q114_1.2.2.2.1 q114_1.2.2.2.2.1 q114_1.2.2.2.2.2.1 q114_1.2.2.2.2.2.2.1 q114_1.2.2.2.2.2.2.2.1 q114_1.2.2.2.2.2.2.2.2 t_hours t_opened t_firstWrong g_kind g_wet g_wide g_rows g_cells g_sun g_all g_firstColumn g_lastColumn r_cells r_hours r_cracked (0 : Int32) S_row S_lane S_length) := hD
      refine lv_aload_n hx hb dX4_bay_130 rfl (lv_at hl 1 rfl) ?_
      refine va_get (D := D) (ci := 4) (v := .ref a_f) (C := RX4) (T := TX4) (N := 7) hx hb hts inX4 hown hK hP 0 rfl rfl 0 (by decide) (hts _ tw_123) (fun _ h9 => h9) rfl dX4_bay_131 ?_
      refine va_getN (D := D) (ci := 0) (v := .int q114_1.2.2.2.2.1) (C := RX0) (T := TX0) (N := 9) hx hb hts inX0 hown hK hP 1 rfl rfl 4 (by decide) (va_Nw.use rfl (hnw _ nn_5)) (fun _ h9 => h9) rfl dX4_bay_134 ?_
      replace hf := Option.some.inj hf
      obtain ⟨er0, er1⟩ := Prod.mk.inj hf
      obtain ⟨er2, er3⟩ := Prod.mk.inj er1
      obtain ⟨er4, er5⟩ := Prod.mk.inj er3
      obtain ⟨er6, er7⟩ := Prod.mk.inj er5
      obtain ⟨er8, er9⟩ := Prod.mk.inj er7
      obtain ⟨er10, er11⟩ := Prod.mk.inj er9
      obtain ⟨er12, er13⟩ := Prod.mk.inj er11
      obtain ⟨er14, er15⟩ := Prod.mk.inj er13
      obtain ⟨er16, er17⟩ := Prod.mk.inj er15
      obtain ⟨er18, er19⟩ := Prod.mk.inj er17
      obtain ⟨er20, er21⟩ := Prod.mk.inj er19
      obtain ⟨er22, er23⟩ := Prod.mk.inj er21
      clear hf er1 er3 er5 er7 er9 er11 er13 er15 er17 er19 er21
      subst er0
      subst er2
      subst er4
      subst er6
      subst er8
      subst er10
      subst er12
      subst er14
      subst er16
      subst er18
      subst er20
      subst er22
      subst er23
      exact rt_i Cc hK hP hD hS dX4_bay_137
    · replace hf := (if_neg hc32).symm.trans hf
      refine lv_bipush (v := (-100 : Int32)) hx hb dX4_bay_101 (by decide) ?_
      refine lv_iload hx hb dX4_bay_103 (lv_at hl 0 rfl) ?_
      refine lv_isub hx hb dX4_bay_105 ?_
      replace hf := Option.some.inj hf
      obtain ⟨er0, er1⟩ := Prod.mk.inj hf
      obtain ⟨er2, er3⟩ := Prod.mk.inj er1
      obtain ⟨er4, er5⟩ := Prod.mk.inj er3
      obtain ⟨er6, er7⟩ := Prod.mk.inj er5
      obtain ⟨er8, er9⟩ := Prod.mk.inj er7
      obtain ⟨er10, er11⟩ := Prod.mk.inj er9
      obtain ⟨er12, er13⟩ := Prod.mk.inj er11
      obtain ⟨er14, er15⟩ := Prod.mk.inj er13
      obtain ⟨er16, er17⟩ := Prod.mk.inj er15
      obtain ⟨er18, er19⟩ := Prod.mk.inj er17
      obtain ⟨er20, er21⟩ := Prod.mk.inj er19
      obtain ⟨er22, er23⟩ := Prod.mk.inj er21
      clear hf er1 er3 er5 er7 er9 er11 er13 er15 er17 er19 er21
      subst er0
      subst er2
      subst er4
      subst er6
      subst er8
      subst er10
      subst er12
      subst er14
      subst er16
      subst er18
      subst er20
      subst er22
      subst er23
      exact rt_i Cc hK hP hD hS dX4_bay_106
  · replace hf := (if_neg hc30).symm.trans hf
    refine lv_aload_n hx hb dX4_bay_77 rfl (lv_at hl 0 rfl) ?_
    refine lv_iload hx hb dX4_bay_78 (lv_at hl 4 rfl) ?_
    obtain ⟨q80_1, hq34, hf⟩ := Option.bind_eq_some_iff.mp hf
    refine cV (ws' := (W_D cI cS a_d a_f a_t a_r a_z a_f_kind a_f_wet a_g a_g_kind a_g_wet a_r_cells a_r_hours a_r_cracked a_s0 a_s0_row a_s1 a_s1_row a_s2 a_s2_row a_s3 a_s3_row d_hour d_traced q80_1.2 f_kind f_wet f_wide f_rows f_cells f_sun f_all f_firstColumn f_lastColumn t_hours t_opened t_firstWrong g_kind g_wet g_wide g_rows g_cells g_sun g_all g_firstColumn g_lastColumn r_cells r_hours r_cracked r_count S_row S_lane S_length)) (rest := []) (st1 := [.int q80_1.1]) Cc hK hA hP hD hS hl.1 (ctX4_faulted l D cI cS a_d a_f a_t a_r a_z d_hour d_traced d_latestFault x6 n q80_1.1 q80_1.2 hq34) ⟨tw_173, tw_170, tw_172, tp_0, tw_1⟩ mdX4_faulted ⟨rfl, rfl, Nat.le_of_ble_eq_true rfl, Nat.le_of_ble_eq_true rfl⟩ rfl dX4_bay_80 rfl (Nat.le_of_ble_eq_true rfl) ⟨Nat.zero_le _, Nat.zero_le _⟩ rfl rfl rfl [0] [1, 2, 3, 4, 5, 6, 7, 8, 9, 10, 11, 12, 13, 14, 15, 16, 17, 18, 19, 20] [20, 0, 1, 2, 3, 4, 5, 6, 7, 8, 9, 10, 11, 12, 13, 14, 15, 16, 17, 18, 19] rfl rfl (by decide) rfl (fun H locs hP hD hS => ?_)
    replace hf := Option.some.inj hf
    obtain ⟨er0, er1⟩ := Prod.mk.inj hf
    obtain ⟨er2, er3⟩ := Prod.mk.inj er1
    obtain ⟨er4, er5⟩ := Prod.mk.inj er3
    obtain ⟨er6, er7⟩ := Prod.mk.inj er5
    obtain ⟨er8, er9⟩ := Prod.mk.inj er7
    obtain ⟨er10, er11⟩ := Prod.mk.inj er9
    obtain ⟨er12, er13⟩ := Prod.mk.inj er11
    obtain ⟨er14, er15⟩ := Prod.mk.inj er13
    obtain ⟨er16, er17⟩ := Prod.mk.inj er15
    obtain ⟨er18, er19⟩ := Prod.mk.inj er17
    obtain ⟨er20, er21⟩ := Prod.mk.inj er19
    obtain ⟨er22, er23⟩ := Prod.mk.inj er21
    clear hf er1 er3 er5 er7 er9 er11 er13 er15 er17 er19 er21
    subst er0
    subst er2
    subst er4
    subst er6
    subst er8
    subst er10
    subst er12
    subst er14
    subst er16
    subst er18
    subst er20
    subst er22
    subst er23
    exact rt_i Cc hK hP hD hS dX4_bay_83
set_option maxHeartbeats 4000000 in
set_option maxRecDepth 100000 in
theorem bX4_bay_53_2 {p : Program} {l : Launch} {e : Env} {s : State} {m : MethodId} {args : Array Value} {below : List Frame} {meth : Method} {c : Code} {A : Nat → Prop} {D : va_G} {cI cS : ClassId} (a_d a_f a_t a_r a_z a_f_kind a_f_wet a_g a_g_kind a_g_wet a_r_cells a_r_hours a_r_cracked a_s0 a_s0_row a_s1 a_s1_row a_s2 a_s2_row a_s3 a_s3_row : Nat) (d_traced : Int32) (t_hours : Int32) (t_opened : Int32) (t_firstWrong : Int32) (g_kind : Nat → Int32) (g_wet : Nat → Int32) (g_wide : Int32) (g_rows : Int32) (g_cells : Int32) (g_sun : Int32) (g_all : Int32) (g_firstColumn : Int32) (g_lastColumn : Int32) (r_cells : Nat → Int32) (r_hours : Nat → Int32) (r_cracked : Nat → Int32) (Cc : Cx p s m args meth c RX4 cX4_bay 8 (some .int)) (hK : va_K D classes (tysA cI cS) s) (hA : ∀ q, s.heap.size ≤ q → A q) (n : Nat) : ∀ (d_hour : Int32) (d_latestFault : Int32) (f_kind : Nat → Int32) (f_wet : Nat → Int32) (f_wide : Int32) (f_rows : Int32) (f_cells : Int32) (f_sun : Int32) (f_all : Int32) (f_firstColumn : Int32) (f_lastColumn : Int32) (r_count : Int32) (S_row : Nat → Nat → Int32) (S_lane : Nat → Int32) (S_length : Nat → Int32) (x3 : Int32) (x4 : Int32) (x6 : Int32) (r : Int32) (d_hour' : Int32) (d_latestFault' : Int32) (f_kind' : Nat → Int32) (f_wet' : Nat → Int32) (f_wide' : Int32) (f_rows' : Int32) (f_cells' : Int32) (f_sun' : Int32) (f_all' : Int32) (f_firstColumn' : Int32) (f_lastColumn' : Int32) (r_count' : Int32), fX4_bay_53 n d_hour d_latestFault f_kind f_wet f_wide f_rows f_cells f_sun f_all f_firstColumn f_lastColumn r_count S_row S_lane S_length 2 x3 x4 x6 = some (r, d_hour', d_latestFault', f_kind', f_wet', f_wide', f_rows', f_cells', f_sun', f_all', f_firstColumn', f_lastColumn', r_count') → ∀ (H : Heap) (locs : List Loc) (ls : Array Slot), va_P D classes (W_D cI cS a_d a_f a_t a_r a_z a_f_kind a_f_wet a_g a_g_kind a_g_wet a_r_cells a_r_hours a_r_cracked a_s0 a_s0_row a_s1 a_s1_row a_s2 a_s2_row a_s3 a_s3_row d_hour d_traced d_latestFault f_kind f_wet f_wide f_rows f_cells f_sun f_all f_firstColumn f_lastColumn t_hours t_opened t_firstWrong g_kind g_wet g_wide g_rows g_cells g_sun g_all g_firstColumn g_lastColumn r_cells r_hours r_cracked r_count S_row S_lane S_length) H → va_D A (W_D cI cS a_d a_f a_t a_r a_z a_f_kind a_f_wet a_g a_g_kind a_g_wet a_r_cells a_r_hours a_r_cracked a_s0 a_s0_row a_s1 a_s1_row a_s2 a_s2_row a_s3 a_s3_row d_hour d_traced d_latestFault f_kind f_wet f_wide f_rows f_cells f_sun f_all f_firstColumn f_lastColumn t_hours t_opened t_firstWrong g_kind g_wet g_wide g_rows g_cells g_sun g_all g_firstColumn g_lastColumn r_cells r_hours r_cracked r_count S_row S_lane S_length) → va_S A s.heap H locs → lv_has ls 8 [(0, .ref a_d), (3, .int x3), (4, .int x4), (5, .ref a_s2), (6, .int x6)] → W p l e (Rm 6) s m args below meth c H locs 0 0 (MQ below (QW D (tysA cI cS) (some (.int r)) (W_D cI cS a_d a_f a_t a_r a_z a_f_kind a_f_wet a_g a_g_kind a_g_wet a_r_cells a_r_hours a_r_cracked a_s0 a_s0_row a_s1 a_s1_row a_s2 a_s2_row a_s3 a_s3_row d_hour' d_traced d_latestFault' f_kind' f_wet' f_wide' f_rows' f_cells' f_sun' f_all' f_firstColumn' f_lastColumn' t_hours t_opened t_firstWrong g_kind g_wet g_wide g_rows g_cells g_sun g_all g_firstColumn g_lastColumn r_cells r_hours r_cracked r_count' S_row S_lane S_length) A) args s 0 0 A) (F0 m 53 ls []) := by
  obtain ⟨hx, hb, hr, hml, hown, hts, hlk, hnw⟩ := id Cc
  intro d_hour d_latestFault f_kind f_wet f_wide f_rows f_cells f_sun f_all f_firstColumn f_lastColumn r_count S_row S_lane S_length x3 x4 x6 r d_hour' d_latestFault' f_kind' f_wet' f_wide' f_rows' f_cells' f_sun' f_all' f_firstColumn' f_lastColumn' r_count' hf H locs ls hP hD hS hl
  unfold fX4_bay_53 at hf
  refine lv_iload hx hb dX4_bay_53 (lv_at hl 4 rfl) ?_
  refine lv_if_ne (tgt := 72) hx hb dX4_bay_55 (by decide) (fun hc29 => ?_) (fun hc29 => ?_)
  · replace hf := (if_neg hc29).symm.trans hf
    exact bX4_bay_72_2 a_d a_f a_t a_r a_z a_f_kind a_f_wet a_g a_g_kind a_g_wet a_r_cells a_r_hours a_r_cracked a_s0 a_s0_row a_s1 a_s1_row a_s2 a_s2_row a_s3 a_s3_row d_traced t_hours t_opened t_firstWrong g_kind g_wet g_wide g_rows g_cells g_sun g_all g_firstColumn g_lastColumn r_cells r_hours r_cracked Cc hK hA n _ _ _ _ _ _ _ _ _ _ _ _ _ _ _ _ _ _ _ _ _ _ _ _ _ _ _ _ _ _ _ hf _ _ _ hP hD hS (lv_sub hl [0, 1, 2, 3, 4] rfl)
  · replace hf := (if_pos hc29).symm.trans hf
    refine lv_aload hx hb dX4_bay_58 (lv_at hl 3 rfl) ?_
    refine lv_iload_n hx hb dX4_bay_60 rfl (lv_at hl 1 rfl) ?_
    refine lv_iload hx hb dX4_bay_61 (lv_at hl 2 rfl) ?_
    obtain ⟨q63_1, hq35, hf⟩ := Option.bind_eq_some_iff.mp hf
    refine cV (ws' := (W_D cI cS a_d a_f a_t a_r a_z a_f_kind a_f_wet a_g a_g_kind a_g_wet a_r_cells a_r_hours a_r_cracked a_s0 a_s0_row a_s1 a_s1_row a_s2 a_s2_row a_s3 a_s3_row d_hour d_traced d_latestFault f_kind f_wet f_wide f_rows f_cells f_sun f_all f_firstColumn f_lastColumn t_hours t_opened t_firstWrong g_kind g_wet g_wide g_rows g_cells g_sun g_all g_firstColumn g_lastColumn r_cells r_hours r_cracked r_count S_row S_lane S_length)) (rest := []) (st1 := [.int q63_1]) Cc hK hA hP hD hS hl.1 (ctX2_has l D cI cS a_s2 a_s2_row (S_row 2) (S_lane 2) (S_length 2) x3 x4 n q63_1 hq35) ⟨tw_169, tw_166, tw_167, tw_168, tw_5⟩ mdX2_has ⟨rfl, rfl, Nat.le_of_ble_eq_true rfl, Nat.le_of_ble_eq_true rfl⟩ rfl dX4_bay_63 rfl (Nat.le_of_ble_eq_true rfl) ⟨Nat.zero_le _, Nat.zero_le _⟩ rfl rfl rfl [17, 18] [0, 1, 2, 3, 4, 5, 6, 7, 8, 9, 10, 11, 12, 13, 14, 15, 16, 19, 20] [0, 1, 2, 3, 4, 5, 6, 7, 8, 9, 10, 11, 12, 13, 14, 15, 16, 19, 20, 17, 18] rfl rfl (by decide) rfl (fun H locs hP hD hS => ?_)
    refine lv_if_ne (tgt := 72) hx hb dX4_bay_66 (by decide) (fun hc36 => ?_) (fun hc36 => ?_)
    · replace hf := (if_neg hc36).symm.trans hf
      exact bX4_bay_72_2 a_d a_f a_t a_r a_z a_f_kind a_f_wet a_g a_g_kind a_g_wet a_r_cells a_r_hours a_r_cracked a_s0 a_s0_row a_s1 a_s1_row a_s2 a_s2_row a_s3 a_s3_row d_traced t_hours t_opened t_firstWrong g_kind g_wet g_wide g_rows g_cells g_sun g_all g_firstColumn g_lastColumn r_cells r_hours r_cracked Cc hK hA n _ _ _ _ _ _ _ _ _ _ _ _ _ _ _ _ _ _ _ _ _ _ _ _ _ _ _ _ _ _ _ hf _ _ _ hP hD hS (lv_sub hl [0, 1, 2, 3, 4] rfl)
    · replace hf := (if_pos hc36).symm.trans hf
      refine lv_iconst (v := (3 : Int32)) hx hb dX4_bay_69 (by decide) ?_
      refine lv_istore (lv' := [(6, .int (3 : Int32)), (0, .ref a_d), (3, .int x3), (4, .int x4), (5, .ref a_s2)]) hx hb dX4_bay_70 hl (by decide) rfl (fun ls hl => ?_)
      exact bX4_bay_72_2 a_d a_f a_t a_r a_z a_f_kind a_f_wet a_g a_g_kind a_g_wet a_r_cells a_r_hours a_r_cracked a_s0 a_s0_row a_s1 a_s1_row a_s2 a_s2_row a_s3 a_s3_row d_traced t_hours t_opened t_firstWrong g_kind g_wet g_wide g_rows g_cells g_sun g_all g_firstColumn g_lastColumn r_cells r_hours r_cracked Cc hK hA n _ _ _ _ _ _ _ _ _ _ _ _ _ _ _ _ _ _ _ _ _ _ _ _ _ _ _ _ _ _ _ hf _ _ _ hP hD hS (lv_sub hl [1, 2, 3, 4, 0] rfl)
set_option maxHeartbeats 4000000 in
set_option maxRecDepth 100000 in
theorem bX4_bay_72_3 {p : Program} {l : Launch} {e : Env} {s : State} {m : MethodId} {args : Array Value} {below : List Frame} {meth : Method} {c : Code} {A : Nat → Prop} {D : va_G} {cI cS : ClassId} (a_d a_f a_t a_r a_z a_f_kind a_f_wet a_g a_g_kind a_g_wet a_r_cells a_r_hours a_r_cracked a_s0 a_s0_row a_s1 a_s1_row a_s2 a_s2_row a_s3 a_s3_row : Nat) (d_traced : Int32) (t_hours : Int32) (t_opened : Int32) (t_firstWrong : Int32) (g_kind : Nat → Int32) (g_wet : Nat → Int32) (g_wide : Int32) (g_rows : Int32) (g_cells : Int32) (g_sun : Int32) (g_all : Int32) (g_firstColumn : Int32) (g_lastColumn : Int32) (r_cells : Nat → Int32) (r_hours : Nat → Int32) (r_cracked : Nat → Int32) (Cc : Cx p s m args meth c RX4 cX4_bay 8 (some .int)) (hK : va_K D classes (tysA cI cS) s) (hA : ∀ q, s.heap.size ≤ q → A q) (n : Nat) : ∀ (d_hour : Int32) (d_latestFault : Int32) (f_kind : Nat → Int32) (f_wet : Nat → Int32) (f_wide : Int32) (f_rows : Int32) (f_cells : Int32) (f_sun : Int32) (f_all : Int32) (f_firstColumn : Int32) (f_lastColumn : Int32) (r_count : Int32) (S_row : Nat → Nat → Int32) (S_lane : Nat → Int32) (S_length : Nat → Int32) (x3 : Int32) (x4 : Int32) (x6 : Int32) (r : Int32) (d_hour' : Int32) (d_latestFault' : Int32) (f_kind' : Nat → Int32) (f_wet' : Nat → Int32) (f_wide' : Int32) (f_rows' : Int32) (f_cells' : Int32) (f_sun' : Int32) (f_all' : Int32) (f_firstColumn' : Int32) (f_lastColumn' : Int32) (r_count' : Int32), fX4_bay_72 n d_hour d_latestFault f_kind f_wet f_wide f_rows f_cells f_sun f_all f_firstColumn f_lastColumn r_count S_row S_lane S_length 3 x3 x4 x6 = some (r, d_hour', d_latestFault', f_kind', f_wet', f_wide', f_rows', f_cells', f_sun', f_all', f_firstColumn', f_lastColumn', r_count') → ∀ (H : Heap) (locs : List Loc) (ls : Array Slot), va_P D classes (W_D cI cS a_d a_f a_t a_r a_z a_f_kind a_f_wet a_g a_g_kind a_g_wet a_r_cells a_r_hours a_r_cracked a_s0 a_s0_row a_s1 a_s1_row a_s2 a_s2_row a_s3 a_s3_row d_hour d_traced d_latestFault f_kind f_wet f_wide f_rows f_cells f_sun f_all f_firstColumn f_lastColumn t_hours t_opened t_firstWrong g_kind g_wet g_wide g_rows g_cells g_sun g_all g_firstColumn g_lastColumn r_cells r_hours r_cracked r_count S_row S_lane S_length) H → va_D A (W_D cI cS a_d a_f a_t a_r a_z a_f_kind a_f_wet a_g a_g_kind a_g_wet a_r_cells a_r_hours a_r_cracked a_s0 a_s0_row a_s1 a_s1_row a_s2 a_s2_row a_s3 a_s3_row d_hour d_traced d_latestFault f_kind f_wet f_wide f_rows f_cells f_sun f_all f_firstColumn f_lastColumn t_hours t_opened t_firstWrong g_kind g_wet g_wide g_rows g_cells g_sun g_all g_firstColumn g_lastColumn r_cells r_hours r_cracked r_count S_row S_lane S_length) → va_S A s.heap H locs → lv_has ls 8 [(0, .ref a_d), (3, .int x3), (4, .int x4), (5, .ref a_s3), (6, .int x6)] → W p l e (Rm 6) s m args below meth c H locs 0 0 (MQ below (QW D (tysA cI cS) (some (.int r)) (W_D cI cS a_d a_f a_t a_r a_z a_f_kind a_f_wet a_g a_g_kind a_g_wet a_r_cells a_r_hours a_r_cracked a_s0 a_s0_row a_s1 a_s1_row a_s2 a_s2_row a_s3 a_s3_row d_hour' d_traced d_latestFault' f_kind' f_wet' f_wide' f_rows' f_cells' f_sun' f_all' f_firstColumn' f_lastColumn' t_hours t_opened t_firstWrong g_kind g_wet g_wide g_rows g_cells g_sun g_all g_firstColumn g_lastColumn r_cells r_hours r_cracked r_count' S_row S_lane S_length) A) args s 0 0 A) (F0 m 72 ls []) := by
  obtain ⟨hx, hb, hr, hml, hown, hts, hlk, hnw⟩ := id Cc
  intro d_hour d_latestFault f_kind f_wet f_wide f_rows f_cells f_sun f_all f_firstColumn f_lastColumn r_count S_row S_lane S_length x3 x4 x6 r d_hour' d_latestFault' f_kind' f_wet' f_wide' f_rows' f_cells' f_sun' f_all' f_firstColumn' f_lastColumn' r_count' hf H locs ls hP hD hS hl
  unfold fX4_bay_72 at hf
  refine lv_iload hx hb dX4_bay_72 (lv_at hl 4 rfl) ?_
  refine lv_if_eq (tgt := 84) hx hb dX4_bay_74 (by decide) (fun hc41 => ?_) (fun hc41 => ?_)
  · replace hf := (if_pos hc41).symm.trans hf
    refine lv_aload hx hb dX4_bay_84 (lv_at hl 3 rfl) ?_
    refine lv_iload_n hx hb dX4_bay_86 rfl (lv_at hl 1 rfl) ?_
    refine lv_iload hx hb dX4_bay_87 (lv_at hl 2 rfl) ?_
    obtain ⟨q89_1, hq42, hf⟩ := Option.bind_eq_some_iff.mp hf
    refine cSt (ws' := (W_D cI cS a_d a_f a_t a_r a_z a_f_kind a_f_wet a_g a_g_kind a_g_wet a_r_cells a_r_hours a_r_cracked a_s0 a_s0_row a_s1 a_s1_row a_s2 a_s2_row a_s3 a_s3_row d_hour d_traced d_latestFault f_kind f_wet f_wide f_rows f_cells f_sun f_all f_firstColumn f_lastColumn t_hours t_opened t_firstWrong g_kind g_wet g_wide g_rows g_cells g_sun g_all g_firstColumn g_lastColumn r_cells r_hours r_cracked r_count S_row S_lane S_length)) (rest := []) (st1 := [.int q89_1]) Cc hK hA hP hD hS hl.1 (ctX4_firstFault l D cI cS a_s3 a_s3_row (S_row 3) (S_lane 3) (S_length 3) x3 x4 n q89_1 hq42) ⟨tw_176, tw_174, tw_175, tw_1⟩ mdX4_firstFault ⟨rfl, rfl, Nat.le_of_ble_eq_true rfl, Nat.le_of_ble_eq_true rfl⟩ rfl dX4_bay_89 rfl (Nat.le_of_ble_eq_true rfl) ⟨Nat.zero_le _, Nat.zero_le _⟩ rfl [19, 20] [0, 1, 2, 3, 4, 5, 6, 7, 8, 9, 10, 11, 12, 13, 14, 15, 16, 17, 18] [0, 1, 2, 3, 4, 5, 6, 7, 8, 9, 10, 11, 12, 13, 14, 15, 16, 17, 18, 19, 20] rfl rfl (by decide) rfl (fun H locs hP hD hS => ?_)
    refine lv_istore (lv' := [(7, .int q89_1), (0, .ref a_d), (3, .int x3), (4, .int x4), (5, .ref a_s3), (6, .int x6)]) hx hb dX4_bay_92 hl (by decide) rfl (fun ls hl => ?_)
    refine lv_iload hx hb dX4_bay_94 (lv_at hl 0 rfl) ?_
    refine lv_bipush (v := (-9 : Int32)) hx hb dX4_bay_96 (by decide) ?_
    refine lv_icmp_eq (tgt := 107) hx hb dX4_bay_98 (by decide) (fun hc43 => ?_) (fun hc43 => ?_)
    · replace hf := (if_pos hc43).symm.trans hf
      refine lv_aload_n hx hb dX4_bay_107 rfl (lv_at hl 1 rfl) ?_
      refine va_get (D := D) (ci := 4) (v := .ref a_f) (C := RX4) (T := TX4) (N := 7) hx hb hts inX4 hown hK hP 0 rfl rfl 0 (by decide) (hts _ tw_123) (fun _ h9 => h9) rfl dX4_bay_108 ?_
      refine lv_aload hx hb dX4_bay_111 (lv_at hl 4 rfl) ?_
      refine lv_iload_n hx hb dX4_bay_113 rfl (lv_at hl 2 rfl) ?_
      obtain ⟨q114_1, hq44, hf⟩ := Option.bind_eq_some_iff.mp hf
      refine cV (ws' := (W_D cI cS a_d a_f a_t a_r a_z a_f_kind a_f_wet a_g a_g_kind a_g_wet a_r_cells a_r_hours a_r_cracked a_s0 a_s0_row a_s1 a_s1_row a_s2 a_s2_row a_s3 a_s3_row d_hour d_traced d_latestFault q114_1.1 q114_1.2.1 q114_1.2.2.1 q114_1.2.2.2.1 q114_1.2.2.2.2.1 q114_1.2.2.2.2.2.1 q114_1.2.2.2.2.2.2.1 q114_1.2.2.2.2.2.2.2.1 q114_1.2.2.2.2.2.2.2.2 t_hours t_opened t_firstWrong g_kind g_wet g_wide g_rows g_cells g_sun g_all g_firstColumn g_lastColumn r_cells r_hours r_cracked r_count S_row S_lane S_length)) (rest := []) (st1 := []) Cc hK hA hP hD hS hl.1 (ctX0_becomeText l D cI cS a_f a_f_kind a_f_wet a_s3 a_s3_row f_kind f_wet f_wide f_rows f_cells f_sun f_all f_firstColumn f_lastColumn (S_row 3) (S_lane 3) (S_length 3) x3 n q114_1.1 q114_1.2.1 q114_1.2.2.1 q114_1.2.2.2.1 q114_1.2.2.2.2.1 q114_1.2.2.2.2.2.1 q114_1.2.2.2.2.2.2.1 q114_1.2.2.2.2.2.2.2.1 q114_1.2.2.2.2.2.2.2.2 hq44) ⟨tw_200, tw_197, tw_198, tw_199, tw_2⟩ mdX0_becomeText ⟨rfl, rfl, Nat.le_of_ble_eq_true rfl, Nat.le_of_ble_eq_true rfl⟩ rfl dX4_bay_114 rfl (Nat.le_of_ble_eq_true rfl) ⟨Nat.zero_le _, Nat.zero_le _⟩ rfl rfl rfl [1, 2, 3, 19, 20] [0, 4, 5, 6, 7, 8, 9, 10, 11, 12, 13, 14, 15, 16, 17, 18] [0, 16, 17, 18, 1, 2, 3, 4, 5, 6, 7, 8, 9, 10, 11, 12, 13, 14, 15, 19, 20] rfl rfl (by decide) rfl (fun H locs hP hD hS => ?_)
      refine lv_aload_n hx hb dX4_bay_117 rfl (lv_at hl 1 rfl) ?_
      refine lv_iconst (v := (0 : Int32)) hx hb dX4_bay_118 (by decide) ?_
      refine va_put (D := D) (ci := 4) (v := .int (0 : Int32)) (ty := .int) (C := RX4) (T := TX4) (N := 7) hx hb hts inX4 tyX4 tyX4_ok nmX4 hown hK hP hD hS 0 rfl rfl 4 (by decide) (hts _ tw_127) (fun _ h9 => h9) rfl (tyX4_ok 4 (by decide)) rfl rfl (Nat.le_of_ble_eq_true rfl) dX4_bay_119 (fun H locs hP hD hS => ?_)
      have hP : va_P D classes (W_D cI cS a_d a_f a_t a_r a_z a_f_kind a_f_wet a_g a_g_kind a_g_wet a_r_cells a_r_hours a_r_cracked a_s0 a_s0_row a_s1 a_s1_row a_s2 a_s2_row a_s3 a_s3_row (0 : Int32) d_traced d_latestFault q114_1.1 q114_1.2.1 q114_1.2.2.1 q114_1.2.2.2.1 q114_1.2.2.2.2.1 q114_1.2.2.2.2.2.1 q114_1.2.2.2.2.2.2.1 q114_1.2.2.2.2.2.2.2.1 q114_1.2.2.2.2.2.2.2.2 t_hours t_opened t_firstWrong g_kind g_wet g_wide g_rows g_cells g_sun g_all g_firstColumn g_lastColumn r_cells r_hours r_cracked r_count S_row S_lane S_length) H := hP
      have hD : va_D A (W_D cI cS a_d a_f a_t a_r a_z a_f_kind a_f_wet a_g a_g_kind a_g_wet a_r_cells a_r_hours a_r_cracked a_s0 a_s0_row a_s1 a_s1_row a_s2 a_s2_row a_s3 a_s3_row (0 : Int32) d_traced d_latestFault q114_1.1 q114_1.2.1 q114_1.2.2.1 q114_1.2.2.2.1 q114_1.2.2.2.2.1 q114_1.2.2.2.2.2.1 q114_1.2.2.2.2.2.2.1 q114_1.2.2.2.2.2.2.2.1 q114_1.2.2.2.2.2.2.2.2 t_hours t_opened t_firstWrong g_kind g_wet g_wide g_rows g_cells g_sun g_all g_firstColumn g_lastColumn r_cells r_hours r_cracked r_count S_row S_lane S_length) := hD
      refine lv_aload_n hx hb dX4_bay_122 rfl (lv_at hl 1 rfl) ?_
      refine va_get (D := D) (ci := 4) (v := .ref a_r) (C := RX4) (T := TX4) (N := 7) hx hb hts inX4 hown hK hP 0 rfl rfl 2 (by decide) (hts _ tw_125) (fun _ h9 => h9) rfl dX4_bay_123 ?_
      refine lv_iconst (v := (0 : Int32)) hx hb dX4_bay_126 (by decide) ?_
      refine va_putN (D := D) (ci := 1) (v := .int (0 : Int32)) (ty := .int) (C := RX1) (T := TX1) (N := 4) hx hb hts inX1 tyX1 tyX1_ok nmX1 hown hK hP hD hS 8 rfl rfl 3 (by decide) (va_Nw.use rfl (hnw _ nn_10)) (fun _ h9 => h9) rfl (tyX1_ok 3 (by decide)) rfl rfl (Nat.le_of_ble_eq_true rfl) dX4_bay_127 (fun H locs hP hD hS => ?_)
      have hP : va_P D classes (W_D cI cS a_d a_f a_t a_r a_z a_f_kind a_f_wet a_g a_g_kind a_g_wet a_r_cells a_r_hours a_r_cracked a_s0 a_s0_row a_s1 a_s1_row a_s2 a_s2_row a_s3 a_s3_row (0 : Int32) d_traced d_latestFault q114_1.1 q114_1.2.1 q114_1.2.2.1 q114_1.2.2.2.1 q114_1.2.2.2.2.1 q114_1.2.2.2.2.2.1 q114_1.2.2.2.2.2.2.1 q114_1.2.2.2.2.2.2.2.1 q114_1.2.2.2.2.2.2.2.2 t_hours t_opened t_firstWrong g_kind g_wet g_wide g_rows g_cells g_sun g_all g_firstColumn g_lastColumn r_cells r_hours r_cracked (0 : Int32) S_row S_lane S_length) H := hP
      have hD : va_D A (W_D cI cS a_d a_f a_t a_r a_z a_f_kind a_f_wet a_g a_g_kind a_g_wet a_r_cells a_r_hours a_r_cracked a_s0 a_s0_row a_s1 a_s1_row a_s2 a_s2_row a_s3 a_s3_row (0 : Int32) d_traced d_latestFault q114_1.1 q114_1.2.1 q114_1.2.2.1 q114_1.2.2.2.1 q114_1.2.2.2.2.1 q114_1.2.2.2.2.2.1 q114_1.2.2.2.2.2.2.1 q114_1.2.2.2.2.2.2.2.1 q114_1.2.2.2.2.2.2.2.2 t_hours t_opened t_firstWrong g_kind g_wet g_wide g_rows g_cells g_sun g_all g_firstColumn g_lastColumn r_cells r_hours r_cracked (0 : Int32) S_row S_lane S_length) := hD
      refine lv_aload_n hx hb dX4_bay_130 rfl (lv_at hl 1 rfl) ?_
      refine va_get (D := D) (ci := 4) (v := .ref a_f) (C := RX4) (T := TX4) (N := 7) hx hb hts inX4 hown hK hP 0 rfl rfl 0 (by decide) (hts _ tw_123) (fun _ h9 => h9) rfl dX4_bay_131 ?_
      refine va_getN (D := D) (ci := 0) (v := .int q114_1.2.2.2.2.1) (C := RX0) (T := TX0) (N := 9) hx hb hts inX0 hown hK hP 1 rfl rfl 4 (by decide) (va_Nw.use rfl (hnw _ nn_5)) (fun _ h9 => h9) rfl dX4_bay_134 ?_
      replace hf := Option.some.inj hf
      obtain ⟨er0, er1⟩ := Prod.mk.inj hf
      obtain ⟨er2, er3⟩ := Prod.mk.inj er1
      obtain ⟨er4, er5⟩ := Prod.mk.inj er3
      obtain ⟨er6, er7⟩ := Prod.mk.inj er5
      obtain ⟨er8, er9⟩ := Prod.mk.inj er7
      obtain ⟨er10, er11⟩ := Prod.mk.inj er9
      obtain ⟨er12, er13⟩ := Prod.mk.inj er11
      obtain ⟨er14, er15⟩ := Prod.mk.inj er13
      obtain ⟨er16, er17⟩ := Prod.mk.inj er15
      obtain ⟨er18, er19⟩ := Prod.mk.inj er17
      obtain ⟨er20, er21⟩ := Prod.mk.inj er19
      obtain ⟨er22, er23⟩ := Prod.mk.inj er21
      clear hf er1 er3 er5 er7 er9 er11 er13 er15 er17 er19 er21
      subst er0
      subst er2
      subst er4
      subst er6
      subst er8
      subst er10
      subst er12
      subst er14
      subst er16
      subst er18
      subst er20
      subst er22
      subst er23
      exact rt_i Cc hK hP hD hS dX4_bay_137
    · replace hf := (if_neg hc43).symm.trans hf
      refine lv_bipush (v := (-100 : Int32)) hx hb dX4_bay_101 (by decide) ?_
      refine lv_iload hx hb dX4_bay_103 (lv_at hl 0 rfl) ?_
      refine lv_isub hx hb dX4_bay_105 ?_
      replace hf := Option.some.inj hf
      obtain ⟨er0, er1⟩ := Prod.mk.inj hf
      obtain ⟨er2, er3⟩ := Prod.mk.inj er1
      obtain ⟨er4, er5⟩ := Prod.mk.inj er3
      obtain ⟨er6, er7⟩ := Prod.mk.inj er5
      obtain ⟨er8, er9⟩ := Prod.mk.inj er7
      obtain ⟨er10, er11⟩ := Prod.mk.inj er9
      obtain ⟨er12, er13⟩ := Prod.mk.inj er11
      obtain ⟨er14, er15⟩ := Prod.mk.inj er13
      obtain ⟨er16, er17⟩ := Prod.mk.inj er15
      obtain ⟨er18, er19⟩ := Prod.mk.inj er17
      obtain ⟨er20, er21⟩ := Prod.mk.inj er19
      obtain ⟨er22, er23⟩ := Prod.mk.inj er21
      clear hf er1 er3 er5 er7 er9 er11 er13 er15 er17 er19 er21
      subst er0
      subst er2
      subst er4
      subst er6
      subst er8
      subst er10
      subst er12
      subst er14
      subst er16
      subst er18
      subst er20
      subst er22
      subst er23
      exact rt_i Cc hK hP hD hS dX4_bay_106
  · replace hf := (if_neg hc41).symm.trans hf
    refine lv_aload_n hx hb dX4_bay_77 rfl (lv_at hl 0 rfl) ?_
    refine lv_iload hx hb dX4_bay_78 (lv_at hl 4 rfl) ?_
    obtain ⟨q80_1, hq45, hf⟩ := Option.bind_eq_some_iff.mp hf
    refine cV (ws' := (W_D cI cS a_d a_f a_t a_r a_z a_f_kind a_f_wet a_g a_g_kind a_g_wet a_r_cells a_r_hours a_r_cracked a_s0 a_s0_row a_s1 a_s1_row a_s2 a_s2_row a_s3 a_s3_row d_hour d_traced q80_1.2 f_kind f_wet f_wide f_rows f_cells f_sun f_all f_firstColumn f_lastColumn t_hours t_opened t_firstWrong g_kind g_wet g_wide g_rows g_cells g_sun g_all g_firstColumn g_lastColumn r_cells r_hours r_cracked r_count S_row S_lane S_length)) (rest := []) (st1 := [.int q80_1.1]) Cc hK hA hP hD hS hl.1 (ctX4_faulted l D cI cS a_d a_f a_t a_r a_z d_hour d_traced d_latestFault x6 n q80_1.1 q80_1.2 hq45) ⟨tw_173, tw_170, tw_172, tp_0, tw_1⟩ mdX4_faulted ⟨rfl, rfl, Nat.le_of_ble_eq_true rfl, Nat.le_of_ble_eq_true rfl⟩ rfl dX4_bay_80 rfl (Nat.le_of_ble_eq_true rfl) ⟨Nat.zero_le _, Nat.zero_le _⟩ rfl rfl rfl [0] [1, 2, 3, 4, 5, 6, 7, 8, 9, 10, 11, 12, 13, 14, 15, 16, 17, 18, 19, 20] [20, 0, 1, 2, 3, 4, 5, 6, 7, 8, 9, 10, 11, 12, 13, 14, 15, 16, 17, 18, 19] rfl rfl (by decide) rfl (fun H locs hP hD hS => ?_)
    replace hf := Option.some.inj hf
    obtain ⟨er0, er1⟩ := Prod.mk.inj hf
    obtain ⟨er2, er3⟩ := Prod.mk.inj er1
    obtain ⟨er4, er5⟩ := Prod.mk.inj er3
    obtain ⟨er6, er7⟩ := Prod.mk.inj er5
    obtain ⟨er8, er9⟩ := Prod.mk.inj er7
    obtain ⟨er10, er11⟩ := Prod.mk.inj er9
    obtain ⟨er12, er13⟩ := Prod.mk.inj er11
    obtain ⟨er14, er15⟩ := Prod.mk.inj er13
    obtain ⟨er16, er17⟩ := Prod.mk.inj er15
    obtain ⟨er18, er19⟩ := Prod.mk.inj er17
    obtain ⟨er20, er21⟩ := Prod.mk.inj er19
    obtain ⟨er22, er23⟩ := Prod.mk.inj er21
    clear hf er1 er3 er5 er7 er9 er11 er13 er15 er17 er19 er21
    subst er0
    subst er2
    subst er4
    subst er6
    subst er8
    subst er10
    subst er12
    subst er14
    subst er16
    subst er18
    subst er20
    subst er22
    subst er23
    exact rt_i Cc hK hP hD hS dX4_bay_83
set_option maxHeartbeats 4000000 in
set_option maxRecDepth 100000 in
theorem bX4_bay_53_3 {p : Program} {l : Launch} {e : Env} {s : State} {m : MethodId} {args : Array Value} {below : List Frame} {meth : Method} {c : Code} {A : Nat → Prop} {D : va_G} {cI cS : ClassId} (a_d a_f a_t a_r a_z a_f_kind a_f_wet a_g a_g_kind a_g_wet a_r_cells a_r_hours a_r_cracked a_s0 a_s0_row a_s1 a_s1_row a_s2 a_s2_row a_s3 a_s3_row : Nat) (d_traced : Int32) (t_hours : Int32) (t_opened : Int32) (t_firstWrong : Int32) (g_kind : Nat → Int32) (g_wet : Nat → Int32) (g_wide : Int32) (g_rows : Int32) (g_cells : Int32) (g_sun : Int32) (g_all : Int32) (g_firstColumn : Int32) (g_lastColumn : Int32) (r_cells : Nat → Int32) (r_hours : Nat → Int32) (r_cracked : Nat → Int32) (Cc : Cx p s m args meth c RX4 cX4_bay 8 (some .int)) (hK : va_K D classes (tysA cI cS) s) (hA : ∀ q, s.heap.size ≤ q → A q) (n : Nat) : ∀ (d_hour : Int32) (d_latestFault : Int32) (f_kind : Nat → Int32) (f_wet : Nat → Int32) (f_wide : Int32) (f_rows : Int32) (f_cells : Int32) (f_sun : Int32) (f_all : Int32) (f_firstColumn : Int32) (f_lastColumn : Int32) (r_count : Int32) (S_row : Nat → Nat → Int32) (S_lane : Nat → Int32) (S_length : Nat → Int32) (x3 : Int32) (x4 : Int32) (x6 : Int32) (r : Int32) (d_hour' : Int32) (d_latestFault' : Int32) (f_kind' : Nat → Int32) (f_wet' : Nat → Int32) (f_wide' : Int32) (f_rows' : Int32) (f_cells' : Int32) (f_sun' : Int32) (f_all' : Int32) (f_firstColumn' : Int32) (f_lastColumn' : Int32) (r_count' : Int32), fX4_bay_53 n d_hour d_latestFault f_kind f_wet f_wide f_rows f_cells f_sun f_all f_firstColumn f_lastColumn r_count S_row S_lane S_length 3 x3 x4 x6 = some (r, d_hour', d_latestFault', f_kind', f_wet', f_wide', f_rows', f_cells', f_sun', f_all', f_firstColumn', f_lastColumn', r_count') → ∀ (H : Heap) (locs : List Loc) (ls : Array Slot), va_P D classes (W_D cI cS a_d a_f a_t a_r a_z a_f_kind a_f_wet a_g a_g_kind a_g_wet a_r_cells a_r_hours a_r_cracked a_s0 a_s0_row a_s1 a_s1_row a_s2 a_s2_row a_s3 a_s3_row d_hour d_traced d_latestFault f_kind f_wet f_wide f_rows f_cells f_sun f_all f_firstColumn f_lastColumn t_hours t_opened t_firstWrong g_kind g_wet g_wide g_rows g_cells g_sun g_all g_firstColumn g_lastColumn r_cells r_hours r_cracked r_count S_row S_lane S_length) H → va_D A (W_D cI cS a_d a_f a_t a_r a_z a_f_kind a_f_wet a_g a_g_kind a_g_wet a_r_cells a_r_hours a_r_cracked a_s0 a_s0_row a_s1 a_s1_row a_s2 a_s2_row a_s3 a_s3_row d_hour d_traced d_latestFault f_kind f_wet f_wide f_rows f_cells f_sun f_all f_firstColumn f_lastColumn t_hours t_opened t_firstWrong g_kind g_wet g_wide g_rows g_cells g_sun g_all g_firstColumn g_lastColumn r_cells r_hours r_cracked r_count S_row S_lane S_length) → va_S A s.heap H locs → lv_has ls 8 [(0, .ref a_d), (3, .int x3), (4, .int x4), (5, .ref a_s3), (6, .int x6)] → W p l e (Rm 6) s m args below meth c H locs 0 0 (MQ below (QW D (tysA cI cS) (some (.int r)) (W_D cI cS a_d a_f a_t a_r a_z a_f_kind a_f_wet a_g a_g_kind a_g_wet a_r_cells a_r_hours a_r_cracked a_s0 a_s0_row a_s1 a_s1_row a_s2 a_s2_row a_s3 a_s3_row d_hour' d_traced d_latestFault' f_kind' f_wet' f_wide' f_rows' f_cells' f_sun' f_all' f_firstColumn' f_lastColumn' t_hours t_opened t_firstWrong g_kind g_wet g_wide g_rows g_cells g_sun g_all g_firstColumn g_lastColumn r_cells r_hours r_cracked r_count' S_row S_lane S_length) A) args s 0 0 A) (F0 m 53 ls []) := by
  obtain ⟨hx, hb, hr, hml, hown, hts, hlk, hnw⟩ := id Cc
  intro d_hour d_latestFault f_kind f_wet f_wide f_rows f_cells f_sun f_all f_firstColumn f_lastColumn r_count S_row S_lane S_length x3 x4 x6 r d_hour' d_latestFault' f_kind' f_wet' f_wide' f_rows' f_cells' f_sun' f_all' f_firstColumn' f_lastColumn' r_count' hf H locs ls hP hD hS hl
  unfold fX4_bay_53 at hf
  refine lv_iload hx hb dX4_bay_53 (lv_at hl 4 rfl) ?_
  refine lv_if_ne (tgt := 72) hx hb dX4_bay_55 (by decide) (fun hc40 => ?_) (fun hc40 => ?_)
  · replace hf := (if_neg hc40).symm.trans hf
    exact bX4_bay_72_3 a_d a_f a_t a_r a_z a_f_kind a_f_wet a_g a_g_kind a_g_wet a_r_cells a_r_hours a_r_cracked a_s0 a_s0_row a_s1 a_s1_row a_s2 a_s2_row a_s3 a_s3_row d_traced t_hours t_opened t_firstWrong g_kind g_wet g_wide g_rows g_cells g_sun g_all g_firstColumn g_lastColumn r_cells r_hours r_cracked Cc hK hA n _ _ _ _ _ _ _ _ _ _ _ _ _ _ _ _ _ _ _ _ _ _ _ _ _ _ _ _ _ _ _ hf _ _ _ hP hD hS (lv_sub hl [0, 1, 2, 3, 4] rfl)
  · replace hf := (if_pos hc40).symm.trans hf
    refine lv_aload hx hb dX4_bay_58 (lv_at hl 3 rfl) ?_
    refine lv_iload_n hx hb dX4_bay_60 rfl (lv_at hl 1 rfl) ?_
    refine lv_iload hx hb dX4_bay_61 (lv_at hl 2 rfl) ?_
    obtain ⟨q63_1, hq46, hf⟩ := Option.bind_eq_some_iff.mp hf
    refine cV (ws' := (W_D cI cS a_d a_f a_t a_r a_z a_f_kind a_f_wet a_g a_g_kind a_g_wet a_r_cells a_r_hours a_r_cracked a_s0 a_s0_row a_s1 a_s1_row a_s2 a_s2_row a_s3 a_s3_row d_hour d_traced d_latestFault f_kind f_wet f_wide f_rows f_cells f_sun f_all f_firstColumn f_lastColumn t_hours t_opened t_firstWrong g_kind g_wet g_wide g_rows g_cells g_sun g_all g_firstColumn g_lastColumn r_cells r_hours r_cracked r_count S_row S_lane S_length)) (rest := []) (st1 := [.int q63_1]) Cc hK hA hP hD hS hl.1 (ctX2_has l D cI cS a_s3 a_s3_row (S_row 3) (S_lane 3) (S_length 3) x3 x4 n q63_1 hq46) ⟨tw_169, tw_166, tw_167, tw_168, tw_5⟩ mdX2_has ⟨rfl, rfl, Nat.le_of_ble_eq_true rfl, Nat.le_of_ble_eq_true rfl⟩ rfl dX4_bay_63 rfl (Nat.le_of_ble_eq_true rfl) ⟨Nat.zero_le _, Nat.zero_le _⟩ rfl rfl rfl [19, 20] [0, 1, 2, 3, 4, 5, 6, 7, 8, 9, 10, 11, 12, 13, 14, 15, 16, 17, 18] [0, 1, 2, 3, 4, 5, 6, 7, 8, 9, 10, 11, 12, 13, 14, 15, 16, 17, 18, 19, 20] rfl rfl (by decide) rfl (fun H locs hP hD hS => ?_)
    refine lv_if_ne (tgt := 72) hx hb dX4_bay_66 (by decide) (fun hc47 => ?_) (fun hc47 => ?_)
    · replace hf := (if_neg hc47).symm.trans hf
      exact bX4_bay_72_3 a_d a_f a_t a_r a_z a_f_kind a_f_wet a_g a_g_kind a_g_wet a_r_cells a_r_hours a_r_cracked a_s0 a_s0_row a_s1 a_s1_row a_s2 a_s2_row a_s3 a_s3_row d_traced t_hours t_opened t_firstWrong g_kind g_wet g_wide g_rows g_cells g_sun g_all g_firstColumn g_lastColumn r_cells r_hours r_cracked Cc hK hA n _ _ _ _ _ _ _ _ _ _ _ _ _ _ _ _ _ _ _ _ _ _ _ _ _ _ _ _ _ _ _ hf _ _ _ hP hD hS (lv_sub hl [0, 1, 2, 3, 4] rfl)
    · replace hf := (if_pos hc47).symm.trans hf
      refine lv_iconst (v := (3 : Int32)) hx hb dX4_bay_69 (by decide) ?_
      refine lv_istore (lv' := [(6, .int (3 : Int32)), (0, .ref a_d), (3, .int x3), (4, .int x4), (5, .ref a_s3)]) hx hb dX4_bay_70 hl (by decide) rfl (fun ls hl => ?_)
      exact bX4_bay_72_3 a_d a_f a_t a_r a_z a_f_kind a_f_wet a_g a_g_kind a_g_wet a_r_cells a_r_hours a_r_cracked a_s0 a_s0_row a_s1 a_s1_row a_s2 a_s2_row a_s3 a_s3_row d_traced t_hours t_opened t_firstWrong g_kind g_wet g_wide g_rows g_cells g_sun g_all g_firstColumn g_lastColumn r_cells r_hours r_cracked Cc hK hA n _ _ _ _ _ _ _ _ _ _ _ _ _ _ _ _ _ _ _ _ _ _ _ _ _ _ _ _ _ _ _ hf _ _ _ hP hD hS (lv_sub hl [1, 2, 3, 4, 0] rfl)
set_option maxHeartbeats 4000000 in
set_option maxRecDepth 100000 in
theorem ctX4_bay (l : Launch) (D : va_G) (cI cS : ClassId) (a_d a_f a_t a_r a_z a_f_kind a_f_wet a_g a_g_kind a_g_wet a_r_cells a_r_hours a_r_cracked a_s0 a_s0_row a_s1 a_s1_row a_s2 a_s2_row a_s3 a_s3_row : Nat) (d_hour : Int32) (d_traced : Int32) (d_latestFault : Int32) (f_kind : Nat → Int32) (f_wet : Nat → Int32) (f_wide : Int32) (f_rows : Int32) (f_cells : Int32) (f_sun : Int32) (f_all : Int32) (f_firstColumn : Int32) (f_lastColumn : Int32) (t_hours : Int32) (t_opened : Int32) (t_firstWrong : Int32) (g_kind : Nat → Int32) (g_wet : Nat → Int32) (g_wide : Int32) (g_rows : Int32) (g_cells : Int32) (g_sun : Int32) (g_all : Int32) (g_firstColumn : Int32) (g_lastColumn : Int32) (r_cells : Nat → Int32) (r_hours : Nat → Int32) (r_cracked : Nat → Int32) (r_count : Int32) (S_row : Nat → Nat → Int32) (S_lane : Nat → Int32) (S_length : Nat → Int32) (p1 : Int32) (p2 : Int32) (p3 : Int32) (p4 : Int32) (n : Nat) (r : Int32) (d_hour' : Int32) (d_latestFault' : Int32) (f_kind' : Nat → Int32) (f_wet' : Nat → Int32) (f_wide' : Int32) (f_rows' : Int32) (f_cells' : Int32) (f_sun' : Int32) (f_all' : Int32) (f_firstColumn' : Int32) (f_lastColumn' : Int32) (r_count' : Int32) (hf : fX4_bay n d_hour d_latestFault f_kind f_wet f_wide f_rows f_cells f_sun f_all f_firstColumn f_lastColumn r_count S_row S_lane S_length p1 p2 p3 p4 = some (r, d_hour', d_latestFault', f_kind', f_wet', f_wide', f_rows', f_cells', f_sun', f_all', f_firstColumn', f_lastColumn', r_count')) : Ct l D (tysA cI cS) yX4_bay cX4_bay 8 (some .int) (Rm 6) [.ref a_d, .int p1, .int p2, .int p3, .int p4] (W_D cI cS a_d a_f a_t a_r a_z a_f_kind a_f_wet a_g a_g_kind a_g_wet a_r_cells a_r_hours a_r_cracked a_s0 a_s0_row a_s1 a_s1_row a_s2 a_s2_row a_s3 a_s3_row d_hour d_traced d_latestFault f_kind f_wet f_wide f_rows f_cells f_sun f_all f_firstColumn f_lastColumn t_hours t_opened t_firstWrong g_kind g_wet g_wide g_rows g_cells g_sun g_all g_firstColumn g_lastColumn r_cells r_hours r_cracked r_count S_row S_lane S_length) (some (.int r)) (W_D cI cS a_d a_f a_t a_r a_z a_f_kind a_f_wet a_g a_g_kind a_g_wet a_r_cells a_r_hours a_r_cracked a_s0 a_s0_row a_s1 a_s1_row a_s2 a_s2_row a_s3 a_s3_row d_hour' d_traced d_latestFault' f_kind' f_wet' f_wide' f_rows' f_cells' f_sun' f_all' f_firstColumn' f_lastColumn' t_hours t_opened t_firstWrong g_kind g_wet g_wide g_rows g_cells g_sun g_all g_firstColumn g_lastColumn r_cells r_hours r_cracked r_count' S_row S_lane S_length) := by
  refine Ct_of (by decide) (Nat.le_of_ble_eq_true rfl) ?_
  intro p e s m args below meth c A ls Cc hK hA hP hD hS hl
  have hl : lv_has ls 8 [(0, .ref a_d), (1, .int p1), (2, .int p2), (3, .int p3), (4, .int p4)] := hl
  obtain ⟨hx, hb, hr, hml, hown, hts, hlk, hnw⟩ := id Cc
  unfold fX4_bay at hf
  refine lv_aload_n hx hb dX4_bay_0 rfl (lv_at hl 0 rfl) ?_
  refine lv_iconst (v := (0 : Int32)) hx hb dX4_bay_1 (by decide) ?_
  refine va_put (D := D) (ci := 4) (v := .int (0 : Int32)) (ty := .int) (C := RX4) (T := TX4) (N := 7) hx hb hts inX4 tyX4 tyX4_ok nmX4 hown hK hP hD hS 0 rfl rfl 6 (by decide) (hts _ tw_129) (fun _ h9 => h9) rfl (tyX4_ok 6 (by decide)) rfl rfl (Nat.le_of_ble_eq_true rfl) dX4_bay_2 (fun H locs hP hD hS => ?_)
  have hP : va_P D classes (W_D cI cS a_d a_f a_t a_r a_z a_f_kind a_f_wet a_g a_g_kind a_g_wet a_r_cells a_r_hours a_r_cracked a_s0 a_s0_row a_s1 a_s1_row a_s2 a_s2_row a_s3 a_s3_row d_hour d_traced (0 : Int32) f_kind f_wet f_wide f_rows f_cells f_sun f_all f_firstColumn f_lastColumn t_hours t_opened t_firstWrong g_kind g_wet g_wide g_rows g_cells g_sun g_all g_firstColumn g_lastColumn r_cells r_hours r_cracked r_count S_row S_lane S_length) H := hP
  have hD : va_D A (W_D cI cS a_d a_f a_t a_r a_z a_f_kind a_f_wet a_g a_g_kind a_g_wet a_r_cells a_r_hours a_r_cracked a_s0 a_s0_row a_s1 a_s1_row a_s2 a_s2_row a_s3 a_s3_row d_hour d_traced (0 : Int32) f_kind f_wet f_wide f_rows f_cells f_sun f_all f_firstColumn f_lastColumn t_hours t_opened t_firstWrong g_kind g_wet g_wide g_rows g_cells g_sun g_all g_firstColumn g_lastColumn r_cells r_hours r_cracked r_count S_row S_lane S_length) := hD
  refine lv_iload_n hx hb dX4_bay_5 rfl (lv_at hl 1 rfl) ?_
  obtain ⟨q6_1, hq1, hf⟩ := Option.bind_eq_some_iff.mp hf
  refine cSt (ws' := (W_D cI cS a_d a_f a_t a_r a_z a_f_kind a_f_wet a_g a_g_kind a_g_wet a_r_cells a_r_hours a_r_cracked a_s0 a_s0_row a_s1 a_s1_row a_s2 a_s2_row a_s3 a_s3_row d_hour d_traced (0 : Int32) f_kind f_wet f_wide f_rows f_cells f_sun f_all f_firstColumn f_lastColumn t_hours t_opened t_firstWrong g_kind g_wet g_wide g_rows g_cells g_sun g_all g_firstColumn g_lastColumn r_cells r_hours r_cracked r_count S_row S_lane S_length)) (rest := []) (st1 := [.int q6_1]) Cc hK hA hP hD hS hl.1 (ctX4_isSheet l D cI cS   p1 n q6_1 hq1) ⟨tw_151, tw_149, tw_150, tw_1⟩ mdX4_isSheet ⟨rfl, rfl, Nat.le_of_ble_eq_true rfl, Nat.le_of_ble_eq_true rfl⟩ rfl dX4_bay_6 rfl (Nat.le_of_ble_eq_true rfl) ⟨Nat.zero_le _, Nat.zero_le _⟩ rfl [] [0, 1, 2, 3, 4, 5, 6, 7, 8, 9, 10, 11, 12, 13, 14, 15, 16, 17, 18, 19, 20] [0, 1, 2, 3, 4, 5, 6, 7, 8, 9, 10, 11, 12, 13, 14, 15, 16, 17, 18, 19, 20] rfl rfl (by decide) rfl (fun H locs hP hD hS => ?_)
  refine lv_if_ne (tgt := 14) hx hb dX4_bay_9 (by decide) (fun hc2 => ?_) (fun hc2 => ?_)
  · replace hf := (if_neg hc2).symm.trans hf
    refine lv_iload_n hx hb dX4_bay_14 rfl (lv_at hl 2 rfl) ?_
    obtain ⟨q15_1, hq3, hf⟩ := Option.bind_eq_some_iff.mp hf
    refine cSt (ws' := (W_D cI cS a_d a_f a_t a_r a_z a_f_kind a_f_wet a_g a_g_kind a_g_wet a_r_cells a_r_hours a_r_cracked a_s0 a_s0_row a_s1 a_s1_row a_s2 a_s2_row a_s3 a_s3_row d_hour d_traced (0 : Int32) f_kind f_wet f_wide f_rows f_cells f_sun f_all f_firstColumn f_lastColumn t_hours t_opened t_firstWrong g_kind g_wet g_wide g_rows g_cells g_sun g_all g_firstColumn g_lastColumn r_cells r_hours r_cracked r_count S_row S_lane S_length)) (rest := []) (st1 := [.int q15_1]) Cc hK hA hP hD hS hl.1 (ctX4_isLane l D cI cS   p2 n q15_1 hq3) ⟨tw_157, tw_155, tw_156, tw_1⟩ mdX4_isLane ⟨rfl, rfl, Nat.le_of_ble_eq_true rfl, Nat.le_of_ble_eq_true rfl⟩ rfl dX4_bay_15 rfl (Nat.le_of_ble_eq_true rfl) ⟨Nat.zero_le _, Nat.zero_le _⟩ rfl [] [0, 1, 2, 3, 4, 5, 6, 7, 8, 9, 10, 11, 12, 13, 14, 15, 16, 17, 18, 19, 20] [0, 1, 2, 3, 4, 5, 6, 7, 8, 9, 10, 11, 12, 13, 14, 15, 16, 17, 18, 19, 20] rfl rfl (by decide) rfl (fun H locs hP hD hS => ?_)
    refine lv_if_ne (tgt := 24) hx hb dX4_bay_18 (by decide) (fun hc4 => ?_) (fun hc4 => ?_)
    · replace hf := (if_neg hc4).symm.trans hf
      refine lv_aload_n hx hb dX4_bay_24 rfl (lv_at hl 0 rfl) ?_
      refine va_get (D := D) (ci := 4) (v := .ref a_z) (C := RX4) (T := TX4) (N := 7) hx hb hts inX4 hown hK hP 0 rfl rfl 3 (by decide) (hts _ tw_126) (fun _ h9 => h9) rfl dX4_bay_25 ?_
      refine lv_iload_n hx hb dX4_bay_28 rfl (lv_at hl 1 rfl) ?_
      obtain ⟨hin, hf⟩ := gd_some hf
      refine va_aldq hx hb hK hP 12 1 rfl rfl hin dX4_bay_29 ?_
      obtain ⟨j, hj, hjx⟩ : ∃ j, j < 4 ∧ p1.toNatClampNeg = j := ⟨_, Nat.not_le.mp fun q => hin (Or.inr q), rfl⟩
      rw [hjx] at hf ⊢
      clear hin hjx
      rcases (show j = 0 ∨ j = 1 ∨ j = 2 ∨ j = 3 by omega) with rfl | rfl | rfl | rfl
      · refine W.eq (g2 := F0 m 30 ls [.ref a_s0]) rfl ?_
        refine lv_astore (lv' := [(5, .ref a_s0), (0, .ref a_d), (1, .int p1), (2, .int p2), (3, .int p3), (4, .int p4)]) hx hb dX4_bay_30 hl (by decide) rfl (fun ls hl => ?_)
        refine lv_aload hx hb dX4_bay_32 (lv_at hl 0 rfl) ?_
        refine lv_iload_n hx hb dX4_bay_34 rfl (lv_at hl 3 rfl) ?_
        obtain ⟨q35_1, hq5, hf⟩ := Option.bind_eq_some_iff.mp hf
        refine cV (ws' := (W_D cI cS a_d a_f a_t a_r a_z a_f_kind a_f_wet a_g a_g_kind a_g_wet a_r_cells a_r_hours a_r_cracked a_s0 a_s0_row a_s1 a_s1_row a_s2 a_s2_row a_s3 a_s3_row d_hour d_traced (0 : Int32) f_kind f_wet f_wide f_rows f_cells f_sun f_all f_firstColumn f_lastColumn t_hours t_opened t_firstWrong g_kind g_wet g_wide g_rows g_cells g_sun g_all g_firstColumn g_lastColumn r_cells r_hours r_cracked r_count S_row S_lane S_length)) (rest := []) (st1 := [.int q35_1]) Cc hK hA hP hD hS hl.1 (ctX2_faultAs l D cI cS a_s0 a_s0_row (S_row 0) (S_lane 0) (S_length 0) p2 n q35_1 hq5) ⟨tw_161, tw_158, tw_159, tw_160, tw_5⟩ mdX2_faultAs ⟨rfl, rfl, Nat.le_of_ble_eq_true rfl, Nat.le_of_ble_eq_true rfl⟩ rfl dX4_bay_35 rfl (Nat.le_of_ble_eq_true rfl) ⟨Nat.zero_le _, Nat.zero_le _⟩ rfl rfl rfl [13, 14] [0, 1, 2, 3, 4, 5, 6, 7, 8, 9, 10, 11, 12, 15, 16, 17, 18, 19, 20] [0, 1, 2, 3, 4, 5, 6, 7, 8, 9, 10, 11, 12, 19, 20, 13, 14, 15, 16, 17, 18] rfl rfl (by decide) rfl (fun H locs hP hD hS => ?_)
        refine lv_istore (lv' := [(6, .int q35_1), (5, .ref a_s0), (0, .ref a_d), (1, .int p1), (2, .int p2), (3, .int p3), (4, .int p4)]) hx hb dX4_bay_38 hl (by decide) rfl (fun ls hl => ?_)
        refine lv_iload hx hb dX4_bay_40 (lv_at hl 0 rfl) ?_
        refine lv_if_ne (tgt := 53) hx hb dX4_bay_42 (by decide) (fun hc6 => ?_) (fun hc6 => ?_)
        · replace hf := (if_neg hc6).symm.trans hf
          exact bX4_bay_53_0 a_d a_f a_t a_r a_z a_f_kind a_f_wet a_g a_g_kind a_g_wet a_r_cells a_r_hours a_r_cracked a_s0 a_s0_row a_s1 a_s1_row a_s2 a_s2_row a_s3 a_s3_row d_traced t_hours t_opened t_firstWrong g_kind g_wet g_wide g_rows g_cells g_sun g_all g_firstColumn g_lastColumn r_cells r_hours r_cracked Cc hK hA n _ _ _ _ _ _ _ _ _ _ _ _ _ _ _ _ _ _ _ _ _ _ _ _ _ _ _ _ _ _ _ hf _ _ _ hP hD hS (lv_sub hl [2, 5, 6, 1, 0] rfl)
        · replace hf := (if_pos hc6).symm.trans hf
          refine lv_iload hx hb dX4_bay_45 (lv_at hl 6 rfl) ?_
          refine lv_if_ge (tgt := 53) hx hb dX4_bay_47 (by decide) (fun hc15 => ?_) (fun hc15 => ?_)
          · replace hf := (if_pos hc15).symm.trans hf
            exact bX4_bay_53_0 a_d a_f a_t a_r a_z a_f_kind a_f_wet a_g a_g_kind a_g_wet a_r_cells a_r_hours a_r_cracked a_s0 a_s0_row a_s1 a_s1_row a_s2 a_s2_row a_s3 a_s3_row d_traced t_hours t_opened t_firstWrong g_kind g_wet g_wide g_rows g_cells g_sun g_all g_firstColumn g_lastColumn r_cells r_hours r_cracked Cc hK hA n _ _ _ _ _ _ _ _ _ _ _ _ _ _ _ _ _ _ _ _ _ _ _ _ _ _ _ _ _ _ _ hf _ _ _ hP hD hS (lv_sub hl [2, 5, 6, 1, 0] rfl)
          · replace hf := (if_neg hc15).symm.trans hf
            refine lv_iconst (v := (4 : Int32)) hx hb dX4_bay_50 (by decide) ?_
            refine lv_istore (lv' := [(6, .int (4 : Int32)), (5, .ref a_s0), (0, .ref a_d), (1, .int p1), (2, .int p2), (3, .int p3), (4, .int p4)]) hx hb dX4_bay_51 hl (by decide) rfl (fun ls hl => ?_)
            exact bX4_bay_53_0 a_d a_f a_t a_r a_z a_f_kind a_f_wet a_g a_g_kind a_g_wet a_r_cells a_r_hours a_r_cracked a_s0 a_s0_row a_s1 a_s1_row a_s2 a_s2_row a_s3 a_s3_row d_traced t_hours t_opened t_firstWrong g_kind g_wet g_wide g_rows g_cells g_sun g_all g_firstColumn g_lastColumn r_cells r_hours r_cracked Cc hK hA n _ _ _ _ _ _ _ _ _ _ _ _ _ _ _ _ _ _ _ _ _ _ _ _ _ _ _ _ _ _ _ hf _ _ _ hP hD hS (lv_sub hl [2, 5, 6, 1, 0] rfl)
      · refine W.eq (g2 := F0 m 30 ls [.ref a_s1]) rfl ?_
        refine lv_astore (lv' := [(5, .ref a_s1), (0, .ref a_d), (1, .int p1), (2, .int p2), (3, .int p3), (4, .int p4)]) hx hb dX4_bay_30 hl (by decide) rfl (fun ls hl => ?_)
        refine lv_aload hx hb dX4_bay_32 (lv_at hl 0 rfl) ?_
        refine lv_iload_n hx hb dX4_bay_34 rfl (lv_at hl 3 rfl) ?_
        obtain ⟨q35_1, hq16, hf⟩ := Option.bind_eq_some_iff.mp hf
        refine cV (ws' := (W_D cI cS a_d a_f a_t a_r a_z a_f_kind a_f_wet a_g a_g_kind a_g_wet a_r_cells a_r_hours a_r_cracked a_s0 a_s0_row a_s1 a_s1_row a_s2 a_s2_row a_s3 a_s3_row d_hour d_traced (0 : Int32) f_kind f_wet f_wide f_rows f_cells f_sun f_all f_firstColumn f_lastColumn t_hours t_opened t_firstWrong g_kind g_wet g_wide g_rows g_cells g_sun g_all g_firstColumn g_lastColumn r_cells r_hours r_cracked r_count S_row S_lane S_length)) (rest := []) (st1 := [.int q35_1]) Cc hK hA hP hD hS hl.1 (ctX2_faultAs l D cI cS a_s1 a_s1_row (S_row 1) (S_lane 1) (S_length 1) p2 n q35_1 hq16) ⟨tw_161, tw_158, tw_159, tw_160, tw_5⟩ mdX2_faultAs ⟨rfl, rfl, Nat.le_of_ble_eq_true rfl, Nat.le_of_ble_eq_true rfl⟩ rfl dX4_bay_35 rfl (Nat.le_of_ble_eq_true rfl) ⟨Nat.zero_le _, Nat.zero_le _⟩ rfl rfl rfl [15, 16] [0, 1, 2, 3, 4, 5, 6, 7, 8, 9, 10, 11, 12, 13, 14, 17, 18, 19, 20] [0, 1, 2, 3, 4, 5, 6, 7, 8, 9, 10, 11, 12, 13, 14, 19, 20, 15, 16, 17, 18] rfl rfl (by decide) rfl (fun H locs hP hD hS => ?_)
        refine lv_istore (lv' := [(6, .int q35_1), (5, .ref a_s1), (0, .ref a_d), (1, .int p1), (2, .int p2), (3, .int p3), (4, .int p4)]) hx hb dX4_bay_38 hl (by decide) rfl (fun ls hl => ?_)
        refine lv_iload hx hb dX4_bay_40 (lv_at hl 0 rfl) ?_
        refine lv_if_ne (tgt := 53) hx hb dX4_bay_42 (by decide) (fun hc17 => ?_) (fun hc17 => ?_)
        · replace hf := (if_neg hc17).symm.trans hf
          exact bX4_bay_53_1 a_d a_f a_t a_r a_z a_f_kind a_f_wet a_g a_g_kind a_g_wet a_r_cells a_r_hours a_r_cracked a_s0 a_s0_row a_s1 a_s1_row a_s2 a_s2_row a_s3 a_s3_row d_traced t_hours t_opened t_firstWrong g_kind g_wet g_wide g_rows g_cells g_sun g_all g_firstColumn g_lastColumn r_cells r_hours r_cracked Cc hK hA n _ _ _ _ _ _ _ _ _ _ _ _ _ _ _ _ _ _ _ _ _ _ _ _ _ _ _ _ _ _ _ hf _ _ _ hP hD hS (lv_sub hl [2, 5, 6, 1, 0] rfl)
        · replace hf := (if_pos hc17).symm.trans hf
          refine lv_iload hx hb dX4_bay_45 (lv_at hl 6 rfl) ?_
          refine lv_if_ge (tgt := 53) hx hb dX4_bay_47 (by decide) (fun hc26 => ?_) (fun hc26 => ?_)
          · replace hf := (if_pos hc26).symm.trans hf
            exact bX4_bay_53_1 a_d a_f a_t a_r a_z a_f_kind a_f_wet a_g a_g_kind a_g_wet a_r_cells a_r_hours a_r_cracked a_s0 a_s0_row a_s1 a_s1_row a_s2 a_s2_row a_s3 a_s3_row d_traced t_hours t_opened t_firstWrong g_kind g_wet g_wide g_rows g_cells g_sun g_all g_firstColumn g_lastColumn r_cells r_hours r_cracked Cc hK hA n _ _ _ _ _ _ _ _ _ _ _ _ _ _ _ _ _ _ _ _ _ _ _ _ _ _ _ _ _ _ _ hf _ _ _ hP hD hS (lv_sub hl [2, 5, 6, 1, 0] rfl)
          · replace hf := (if_neg hc26).symm.trans hf
            refine lv_iconst (v := (4 : Int32)) hx hb dX4_bay_50 (by decide) ?_
            refine lv_istore (lv' := [(6, .int (4 : Int32)), (5, .ref a_s1), (0, .ref a_d), (1, .int p1), (2, .int p2), (3, .int p3), (4, .int p4)]) hx hb dX4_bay_51 hl (by decide) rfl (fun ls hl => ?_)
            exact bX4_bay_53_1 a_d a_f a_t a_r a_z a_f_kind a_f_wet a_g a_g_kind a_g_wet a_r_cells a_r_hours a_r_cracked a_s0 a_s0_row a_s1 a_s1_row a_s2 a_s2_row a_s3 a_s3_row d_traced t_hours t_opened t_firstWrong g_kind g_wet g_wide g_rows g_cells g_sun g_all g_firstColumn g_lastColumn r_cells r_hours r_cracked Cc hK hA n _ _ _ _ _ _ _ _ _ _ _ _ _ _ _ _ _ _ _ _ _ _ _ _ _ _ _ _ _ _ _ hf _ _ _ hP hD hS (lv_sub hl [2, 5, 6, 1, 0] rfl)
      · refine W.eq (g2 := F0 m 30 ls [.ref a_s2]) rfl ?_
        refine lv_astore (lv' := [(5, .ref a_s2), (0, .ref a_d), (1, .int p1), (2, .int p2), (3, .int p3), (4, .int p4)]) hx hb dX4_bay_30 hl (by decide) rfl (fun ls hl => ?_)
        refine lv_aload hx hb dX4_bay_32 (lv_at hl 0 rfl) ?_
        refine lv_iload_n hx hb dX4_bay_34 rfl (lv_at hl 3 rfl) ?_
        obtain ⟨q35_1, hq27, hf⟩ := Option.bind_eq_some_iff.mp hf
        refine cV (ws' := (W_D cI cS a_d a_f a_t a_r a_z a_f_kind a_f_wet a_g a_g_kind a_g_wet a_r_cells a_r_hours a_r_cracked a_s0 a_s0_row a_s1 a_s1_row a_s2 a_s2_row a_s3 a_s3_row d_hour d_traced (0 : Int32) f_kind f_wet f_wide f_rows f_cells f_sun f_all f_firstColumn f_lastColumn t_hours t_opened t_firstWrong g_kind g_wet g_wide g_rows g_cells g_sun g_all g_firstColumn g_lastColumn r_cells r_hours r_cracked r_count S_row S_lane S_length)) (rest := []) (st1 := [.int q35_1]) Cc hK hA hP hD hS hl.1 (ctX2_faultAs l D cI cS a_s2 a_s2_row (S_row 2) (S_lane 2) (S_length 2) p2 n q35_1 hq27) ⟨tw_161, tw_158, tw_159, tw_160, tw_5⟩ mdX2_faultAs ⟨rfl, rfl, Nat.le_of_ble_eq_true rfl, Nat.le_of_ble_eq_true rfl⟩ rfl dX4_bay_35 rfl (Nat.le_of_ble_eq_true rfl) ⟨Nat.zero_le _, Nat.zero_le _⟩ rfl rfl rfl [17, 18] [0, 1, 2, 3, 4, 5, 6, 7, 8, 9, 10, 11, 12, 13, 14, 15, 16, 19, 20] [0, 1, 2, 3, 4, 5, 6, 7, 8, 9, 10, 11, 12, 13, 14, 15, 16, 19, 20, 17, 18] rfl rfl (by decide) rfl (fun H locs hP hD hS => ?_)
        refine lv_istore (lv' := [(6, .int q35_1), (5, .ref a_s2), (0, .ref a_d), (1, .int p1), (2, .int p2), (3, .int p3), (4, .int p4)]) hx hb dX4_bay_38 hl (by decide) rfl (fun ls hl => ?_)
        refine lv_iload hx hb dX4_bay_40 (lv_at hl 0 rfl) ?_
        refine lv_if_ne (tgt := 53) hx hb dX4_bay_42 (by decide) (fun hc28 => ?_) (fun hc28 => ?_)
        · replace hf := (if_neg hc28).symm.trans hf
          exact bX4_bay_53_2 a_d a_f a_t a_r a_z a_f_kind a_f_wet a_g a_g_kind a_g_wet a_r_cells a_r_hours a_r_cracked a_s0 a_s0_row a_s1 a_s1_row a_s2 a_s2_row a_s3 a_s3_row d_traced t_hours t_opened t_firstWrong g_kind g_wet g_wide g_rows g_cells g_sun g_all g_firstColumn g_lastColumn r_cells r_hours r_cracked Cc hK hA n _ _ _ _ _ _ _ _ _ _ _ _ _ _ _ _ _ _ _ _ _ _ _ _ _ _ _ _ _ _ _ hf _ _ _ hP hD hS (lv_sub hl [2, 5, 6, 1, 0] rfl)
        · replace hf := (if_pos hc28).symm.trans hf
          refine lv_iload hx hb dX4_bay_45 (lv_at hl 6 rfl) ?_
          refine lv_if_ge (tgt := 53) hx hb dX4_bay_47 (by decide) (fun hc37 => ?_) (fun hc37 => ?_)
          · replace hf := (if_pos hc37).symm.trans hf
            exact bX4_bay_53_2 a_d a_f a_t a_r a_z a_f_kind a_f_wet a_g a_g_kind a_g_wet a_r_cells a_r_hours a_r_cracked a_s0 a_s0_row a_s1 a_s1_row a_s2 a_s2_row a_s3 a_s3_row d_traced t_hours t_opened t_firstWrong g_kind g_wet g_wide g_rows g_cells g_sun g_all g_firstColumn g_lastColumn r_cells r_hours r_cracked Cc hK hA n _ _ _ _ _ _ _ _ _ _ _ _ _ _ _ _ _ _ _ _ _ _ _ _ _ _ _ _ _ _ _ hf _ _ _ hP hD hS (lv_sub hl [2, 5, 6, 1, 0] rfl)
          · replace hf := (if_neg hc37).symm.trans hf
            refine lv_iconst (v := (4 : Int32)) hx hb dX4_bay_50 (by decide) ?_
            refine lv_istore (lv' := [(6, .int (4 : Int32)), (5, .ref a_s2), (0, .ref a_d), (1, .int p1), (2, .int p2), (3, .int p3), (4, .int p4)]) hx hb dX4_bay_51 hl (by decide) rfl (fun ls hl => ?_)
            exact bX4_bay_53_2 a_d a_f a_t a_r a_z a_f_kind a_f_wet a_g a_g_kind a_g_wet a_r_cells a_r_hours a_r_cracked a_s0 a_s0_row a_s1 a_s1_row a_s2 a_s2_row a_s3 a_s3_row d_traced t_hours t_opened t_firstWrong g_kind g_wet g_wide g_rows g_cells g_sun g_all g_firstColumn g_lastColumn r_cells r_hours r_cracked Cc hK hA n _ _ _ _ _ _ _ _ _ _ _ _ _ _ _ _ _ _ _ _ _ _ _ _ _ _ _ _ _ _ _ hf _ _ _ hP hD hS (lv_sub hl [2, 5, 6, 1, 0] rfl)
      · refine W.eq (g2 := F0 m 30 ls [.ref a_s3]) rfl ?_
        refine lv_astore (lv' := [(5, .ref a_s3), (0, .ref a_d), (1, .int p1), (2, .int p2), (3, .int p3), (4, .int p4)]) hx hb dX4_bay_30 hl (by decide) rfl (fun ls hl => ?_)
        refine lv_aload hx hb dX4_bay_32 (lv_at hl 0 rfl) ?_
        refine lv_iload_n hx hb dX4_bay_34 rfl (lv_at hl 3 rfl) ?_
        obtain ⟨q35_1, hq38, hf⟩ := Option.bind_eq_some_iff.mp hf
        refine cV (ws' := (W_D cI cS a_d a_f a_t a_r a_z a_f_kind a_f_wet a_g a_g_kind a_g_wet a_r_cells a_r_hours a_r_cracked a_s0 a_s0_row a_s1 a_s1_row a_s2 a_s2_row a_s3 a_s3_row d_hour d_traced (0 : Int32) f_kind f_wet f_wide f_rows f_cells f_sun f_all f_firstColumn f_lastColumn t_hours t_opened t_firstWrong g_kind g_wet g_wide g_rows g_cells g_sun g_all g_firstColumn g_lastColumn r_cells r_hours r_cracked r_count S_row S_lane S_length)) (rest := []) (st1 := [.int q35_1]) Cc hK hA hP hD hS hl.1 (ctX2_faultAs l D cI cS a_s3 a_s3_row (S_row 3) (S_lane 3) (S_length 3) p2 n q35_1 hq38) ⟨tw_161, tw_158, tw_159, tw_160, tw_5⟩ mdX2_faultAs ⟨rfl, rfl, Nat.le_of_ble_eq_true rfl, Nat.le_of_ble_eq_true rfl⟩ rfl dX4_bay_35 rfl (Nat.le_of_ble_eq_true rfl) ⟨Nat.zero_le _, Nat.zero_le _⟩ rfl rfl rfl [19, 20] [0, 1, 2, 3, 4, 5, 6, 7, 8, 9, 10, 11, 12, 13, 14, 15, 16, 17, 18] [0, 1, 2, 3, 4, 5, 6, 7, 8, 9, 10, 11, 12, 13, 14, 15, 16, 17, 18, 19, 20] rfl rfl (by decide) rfl (fun H locs hP hD hS => ?_)
        refine lv_istore (lv' := [(6, .int q35_1), (5, .ref a_s3), (0, .ref a_d), (1, .int p1), (2, .int p2), (3, .int p3), (4, .int p4)]) hx hb dX4_bay_38 hl (by decide) rfl (fun ls hl => ?_)
        refine lv_iload hx hb dX4_bay_40 (lv_at hl 0 rfl) ?_
        refine lv_if_ne (tgt := 53) hx hb dX4_bay_42 (by decide) (fun hc39 => ?_) (fun hc39 => ?_)
        · replace hf := (if_neg hc39).symm.trans hf
          exact bX4_bay_53_3 a_d a_f a_t a_r a_z a_f_kind a_f_wet a_g a_g_kind a_g_wet a_r_cells a_r_hours a_r_cracked a_s0 a_s0_row a_s1 a_s1_row a_s2 a_s2_row a_s3 a_s3_row d_traced t_hours t_opened t_firstWrong g_kind g_wet g_wide g_rows g_cells g_sun g_all g_firstColumn g_lastColumn r_cells r_hours r_cracked Cc hK hA n _ _ _ _ _ _ _ _ _ _ _ _ _ _ _ _ _ _ _ _ _ _ _ _ _ _ _ _ _ _ _ hf _ _ _ hP hD hS (lv_sub hl [2, 5, 6, 1, 0] rfl)
        · replace hf := (if_pos hc39).symm.trans hf
          refine lv_iload hx hb dX4_bay_45 (lv_at hl 6 rfl) ?_
          refine lv_if_ge (tgt := 53) hx hb dX4_bay_47 (by decide) (fun hc48 => ?_) (fun hc48 => ?_)
          · replace hf := (if_pos hc48).symm.trans hf
            exact bX4_bay_53_3 a_d a_f a_t a_r a_z a_f_kind a_f_wet a_g a_g_kind a_g_wet a_r_cells a_r_hours a_r_cracked a_s0 a_s0_row a_s1 a_s1_row a_s2 a_s2_row a_s3 a_s3_row d_traced t_hours t_opened t_firstWrong g_kind g_wet g_wide g_rows g_cells g_sun g_all g_firstColumn g_lastColumn r_cells r_hours r_cracked Cc hK hA n _ _ _ _ _ _ _ _ _ _ _ _ _ _ _ _ _ _ _ _ _ _ _ _ _ _ _ _ _ _ _ hf _ _ _ hP hD hS (lv_sub hl [2, 5, 6, 1, 0] rfl)
          · replace hf := (if_neg hc48).symm.trans hf
            refine lv_iconst (v := (4 : Int32)) hx hb dX4_bay_50 (by decide) ?_
            refine lv_istore (lv' := [(6, .int (4 : Int32)), (5, .ref a_s3), (0, .ref a_d), (1, .int p1), (2, .int p2), (3, .int p3), (4, .int p4)]) hx hb dX4_bay_51 hl (by decide) rfl (fun ls hl => ?_)
            exact bX4_bay_53_3 a_d a_f a_t a_r a_z a_f_kind a_f_wet a_g a_g_kind a_g_wet a_r_cells a_r_hours a_r_cracked a_s0 a_s0_row a_s1 a_s1_row a_s2 a_s2_row a_s3 a_s3_row d_traced t_hours t_opened t_firstWrong g_kind g_wet g_wide g_rows g_cells g_sun g_all g_firstColumn g_lastColumn r_cells r_hours r_cracked Cc hK hA n _ _ _ _ _ _ _ _ _ _ _ _ _ _ _ _ _ _ _ _ _ _ _ _ _ _ _ _ _ _ _ hf _ _ _ hP hD hS (lv_sub hl [2, 5, 6, 1, 0] rfl)
    · replace hf := (if_pos hc4).symm.trans hf
      refine lv_bipush (v := (-2 : Int32)) hx hb dX4_bay_21 (by decide) ?_
      replace hf := Option.some.inj hf
      obtain ⟨er0, er1⟩ := Prod.mk.inj hf
      obtain ⟨er2, er3⟩ := Prod.mk.inj er1
      obtain ⟨er4, er5⟩ := Prod.mk.inj er3
      obtain ⟨er6, er7⟩ := Prod.mk.inj er5
      obtain ⟨er8, er9⟩ := Prod.mk.inj er7
      obtain ⟨er10, er11⟩ := Prod.mk.inj er9
      obtain ⟨er12, er13⟩ := Prod.mk.inj er11
      obtain ⟨er14, er15⟩ := Prod.mk.inj er13
      obtain ⟨er16, er17⟩ := Prod.mk.inj er15
      obtain ⟨er18, er19⟩ := Prod.mk.inj er17
      obtain ⟨er20, er21⟩ := Prod.mk.inj er19
      obtain ⟨er22, er23⟩ := Prod.mk.inj er21
      clear hf er1 er3 er5 er7 er9 er11 er13 er15 er17 er19 er21
      subst er0
      subst er2
      subst er4
      subst er6
      subst er8
      subst er10
      subst er12
      subst er14
      subst er16
      subst er18
      subst er20
      subst er22
      subst er23
      exact rt_i Cc hK hP hD hS dX4_bay_23
  · replace hf := (if_pos hc2).symm.trans hf
    refine lv_iconst (v := (-1 : Int32)) hx hb dX4_bay_12 (by decide) ?_
    replace hf := Option.some.inj hf
    obtain ⟨er0, er1⟩ := Prod.mk.inj hf
    obtain ⟨er2, er3⟩ := Prod.mk.inj er1
    obtain ⟨er4, er5⟩ := Prod.mk.inj er3
    obtain ⟨er6, er7⟩ := Prod.mk.inj er5
    obtain ⟨er8, er9⟩ := Prod.mk.inj er7
    obtain ⟨er10, er11⟩ := Prod.mk.inj er9
    obtain ⟨er12, er13⟩ := Prod.mk.inj er11
    obtain ⟨er14, er15⟩ := Prod.mk.inj er13
    obtain ⟨er16, er17⟩ := Prod.mk.inj er15
    obtain ⟨er18, er19⟩ := Prod.mk.inj er17
    obtain ⟨er20, er21⟩ := Prod.mk.inj er19
    obtain ⟨er22, er23⟩ := Prod.mk.inj er21
    clear hf er1 er3 er5 er7 er9 er11 er13 er15 er17 er19 er21
    subst er0
    subst er2
    subst er4
    subst er6
    subst er8
    subst er10
    subst er12
    subst er14
    subst er16
    subst er18
    subst er20
    subst er22
    subst er23
    exact rt_i Cc hK hP hD hS dX4_bay_13
-- X4_plan
def fX4_plan_106 (n : Nat) (d_latestFault : Int32) (f_kind : Nat → Int32) (f_wet : Nat → Int32) (f_wide : Int32) (f_rows : Int32) (f_cells : Int32) (f_sun : Int32) (f_all : Int32) (f_firstColumn : Int32) (f_lastColumn : Int32) (t_hours : Int32) (t_opened : Int32) (t_firstWrong : Int32) (g_kind : Nat → Int32) (g_wet : Nat → Int32) (g_wide : Int32) (g_rows : Int32) (g_cells : Int32) (g_sun : Int32) (g_all : Int32) (g_firstColumn : Int32) (g_lastColumn : Int32) (S_row : Nat → Nat → Int32) (S_lane : Nat → Int32) (S_length : Nat → Int32) (t0 : Nat) (x3 : Int32) (x4 : Int32) (x5 : Int32) (x8 : Int32) : Option (Int32 × Int32 × Int32 × Int32 × Int32 × (Nat → Int32) × (Nat → Int32) × Int32 × Int32 × Int32 × Int32 × Int32 × Int32 × Int32) := if x8 = 0 then (fX0_isThere n f_cells).bind fun q122_1 => if q122_1 = 0 then some ((-3 : Int32), d_latestFault, t_hours, t_opened, t_firstWrong, g_kind, g_wet, g_wide, g_rows, g_cells, g_sun, g_all, g_firstColumn, g_lastColumn) else (fX4_refusalOfPairs n f_cells (S_row t0) (S_length t0) x3 x4).bind fun q137_1 => if q137_1 = 0 then (fX3_follow n t_hours t_opened t_firstWrong g_kind g_wet g_wide g_rows g_cells g_sun g_all g_firstColumn g_lastColumn f_kind f_wet f_wide f_rows f_cells f_sun f_all f_firstColumn f_lastColumn (S_row t0) (S_length t0) x3 x4).bind fun q163_1 => (fX3_answerTo n q163_1.2.1 q163_1.2.2.1 q163_1.2.2.2.2.1 q163_1.2.2.2.2.2.1 q163_1.2.2.2.2.2.2.2.1 q163_1.2.2.2.2.2.2.2.2.2.1 q163_1.2.2.2.2.2.2.2.2.2.2.1 q163_1.2.2.2.2.2.2.2.2.2.2.2 x5).bind fun q172_2 => some (q172_2, d_latestFault, q163_1.1, q163_1.2.1, q163_1.2.2.1, q163_1.2.2.2.1, q163_1.2.2.2.2.1, q163_1.2.2.2.2.2.1, q163_1.2.2.2.2.2.2.1, q163_1.2.2.2.2.2.2.2.1, q163_1.2.2.2.2.2.2.2.2.1, q163_1.2.2.2.2.2.2.2.2.2.1, q163_1.2.2.2.2.2.2.2.2.2.2.1, q163_1.2.2.2.2.2.2.2.2.2.2.2) else some (q137_1, d_latestFault, t_hours, t_opened, t_firstWrong, g_kind, g_wet, g_wide, g_rows, g_cells, g_sun, g_all, g_firstColumn, g_lastColumn) else (fX4_faulted n d_latestFault x8).bind fun q114_1 => some (q114_1.1, q114_1.2, t_hours, t_opened, t_firstWrong, g_kind, g_wet, g_wide, g_rows, g_cells, g_sun, g_all, g_firstColumn, g_lastColumn)
def fX4_plan_41 (n : Nat) (d_latestFault : Int32) (f_kind : Nat → Int32) (f_wet : Nat → Int32) (f_wide : Int32) (f_rows : Int32) (f_cells : Int32) (f_sun : Int32) (f_all : Int32) (f_firstColumn : Int32) (f_lastColumn : Int32) (t_hours : Int32) (t_opened : Int32) (t_firstWrong : Int32) (g_kind : Nat → Int32) (g_wet : Nat → Int32) (g_wide : Int32) (g_rows : Int32) (g_cells : Int32) (g_sun : Int32) (g_all : Int32) (g_firstColumn : Int32) (g_lastColumn : Int32) (S_row : Nat → Nat → Int32) (S_lane : Nat → Int32) (S_length : Nat → Int32) (x1 : Int32) (x2 : Int32) (x3 : Int32) (x4 : Int32) (x5 : Int32) (y0 : Int32) : Option (Int32 × Int32 × Int32 × Int32 × Int32 × (Nat → Int32) × (Nat → Int32) × Int32 × Int32 × Int32 × Int32 × Int32 × Int32 × Int32) := (fX4_isLane n x2).bind fun q44_1 => if q44_1 = 0 then some ((-2 : Int32), d_latestFault, t_hours, t_opened, t_firstWrong, g_kind, g_wet, g_wide, g_rows, g_cells, g_sun, g_all, g_firstColumn, g_lastColumn) else (fX4_within n x4 (0 : Int32) (20 : Int32)).bind fun q55_1 => if q55_1 = 0 then some ((-2 : Int32), d_latestFault, t_hours, t_opened, t_firstWrong, g_kind, g_wet, g_wide, g_rows, g_cells, g_sun, g_all, g_firstColumn, g_lastColumn) else if y0 = 0 then some ((-2 : Int32), d_latestFault, t_hours, t_opened, t_firstWrong, g_kind, g_wet, g_wide, g_rows, g_cells, g_sun, g_all, g_firstColumn, g_lastColumn) else gd x1 4 ((fX2_faultAs n (S_lane x1.toNatClampNeg) x2).bind fun q80_1 => if q80_1 = 0 then (fX2_has n (S_length x1.toNatClampNeg) x3 ((2 : Int32) * x4)).bind fun q97_1 => if q97_1 = 0 then fX4_plan_106 n d_latestFault f_kind f_wet f_wide f_rows f_cells f_sun f_all f_firstColumn f_lastColumn t_hours t_opened t_firstWrong g_kind g_wet g_wide g_rows g_cells g_sun g_all g_firstColumn g_lastColumn S_row S_lane S_length x1.toNatClampNeg x3 x4 x5 (3 : Int32) else fX4_plan_106 n d_latestFault f_kind f_wet f_wide f_rows f_cells f_sun f_all f_firstColumn f_lastColumn t_hours t_opened t_firstWrong g_kind g_wet g_wide g_rows g_cells g_sun g_all g_firstColumn g_lastColumn S_row S_lane S_length x1.toNatClampNeg x3 x4 x5 q80_1 else fX4_plan_106 n d_latestFault f_kind f_wet f_wide f_rows f_cells f_sun f_all f_firstColumn f_lastColumn t_hours t_opened t_firstWrong g_kind g_wet g_wide g_rows g_cells g_sun g_all g_firstColumn g_lastColumn S_row S_lane S_length x1.toNatClampNeg x3 x4 x5 q80_1)
def fX4_plan_36 (n : Nat) (d_latestFault : Int32) (f_kind : Nat → Int32) (f_wet : Nat → Int32) (f_wide : Int32) (f_rows : Int32) (f_cells : Int32) (f_sun : Int32) (f_all : Int32) (f_firstColumn : Int32) (f_lastColumn : Int32) (t_hours : Int32) (t_opened : Int32) (t_firstWrong : Int32) (g_kind : Nat → Int32) (g_wet : Nat → Int32) (g_wide : Int32) (g_rows : Int32) (g_cells : Int32) (g_sun : Int32) (g_all : Int32) (g_firstColumn : Int32) (g_lastColumn : Int32) (S_row : Nat → Nat → Int32) (S_lane : Nat → Int32) (S_length : Nat → Int32) (x1 : Int32) (x2 : Int32) (x3 : Int32) (x4 : Int32) (x5 : Int32) : Option (Int32 × Int32 × Int32 × Int32 × Int32 × (Nat → Int32) × (Nat → Int32) × Int32 × Int32 × Int32 × Int32 × Int32 × Int32 × Int32) := fX4_plan_41 n d_latestFault f_kind f_wet f_wide f_rows f_cells f_sun f_all f_firstColumn f_lastColumn t_hours t_opened t_firstWrong g_kind g_wet g_wide g_rows g_cells g_sun g_all g_firstColumn g_lastColumn S_row S_lane S_length x1 x2 x3 x4 x5 (1 : Int32)
def fX4_plan (n : Nat) (d_latestFault : Int32) (f_kind : Nat → Int32) (f_wet : Nat → Int32) (f_wide : Int32) (f_rows : Int32) (f_cells : Int32) (f_sun : Int32) (f_all : Int32) (f_firstColumn : Int32) (f_lastColumn : Int32) (t_hours : Int32) (t_opened : Int32) (t_firstWrong : Int32) (g_kind : Nat → Int32) (g_wet : Nat → Int32) (g_wide : Int32) (g_rows : Int32) (g_cells : Int32) (g_sun : Int32) (g_all : Int32) (g_firstColumn : Int32) (g_lastColumn : Int32) (S_row : Nat → Nat → Int32) (S_lane : Nat → Int32) (S_length : Nat → Int32) (p1 : Int32) (p2 : Int32) (p3 : Int32) (p4 : Int32) (p5 : Int32) : Option (Int32 × Int32 × Int32 × Int32 × Int32 × (Nat → Int32) × (Nat → Int32) × Int32 × Int32 × Int32 × Int32 × Int32 × Int32 × Int32) := (fX4_isSheet n p1).bind fun q6_1 => if q6_1 = 0 then some ((-1 : Int32), (0 : Int32), t_hours, t_opened, t_firstWrong, g_kind, g_wet, g_wide, g_rows, g_cells, g_sun, g_all, g_firstColumn, g_lastColumn) else (fX4_within n p5 (0 : Int32) (4 : Int32)).bind fun q18_1 => if q18_1 = 0 then (fX4_within n p5 (10 : Int32) (21 : Int32)).bind fun q30_1 => if q30_1 = 0 then fX4_plan_41 n (0 : Int32) f_kind f_wet f_wide f_rows f_cells f_sun f_all f_firstColumn f_lastColumn t_hours t_opened t_firstWrong g_kind g_wet g_wide g_rows g_cells g_sun g_all g_firstColumn g_lastColumn S_row S_lane S_length p1 p2 p3 p4 p5 (0 : Int32) else fX4_plan_36 n (0 : Int32) f_kind f_wet f_wide f_rows f_cells f_sun f_all f_firstColumn f_lastColumn t_hours t_opened t_firstWrong g_kind g_wet g_wide g_rows g_cells g_sun g_all g_firstColumn g_lastColumn S_row S_lane S_length p1 p2 p3 p4 p5 else fX4_plan_36 n (0 : Int32) f_kind f_wet f_wide f_rows f_cells f_sun f_all f_firstColumn f_lastColumn t_hours t_opened t_firstWrong g_kind g_wet g_wide g_rows g_cells g_sun g_all g_firstColumn g_lastColumn S_row S_lane S_length p1 p2 p3 p4 p5
theorem mdX4_plan : yX4_plan.cls = RX4 ∧ yX4_plan.cls ≠ "java/lang/invoke/MethodHandle" ∧ yX4_plan.cls ≠ "java/lang/invoke/VarHandle" ∧ (parseMethodDescriptor yX4_plan.desc).map (fun d => d.parameters.length) = some 5 := by decide +kernel
set_option maxHeartbeats 4000000 in
set_option maxRecDepth 100000 in
theorem bX4_plan_106_0 {p : Program} {l : Launch} {e : Env} {s : State} {m : MethodId} {args : Array Value} {below : List Frame} {meth : Method} {c : Code} {A : Nat → Prop} {D : va_G} {cI cS : ClassId} (a_d a_f a_t a_r a_z a_f_kind a_f_wet a_g a_g_kind a_g_wet a_r_cells a_r_hours a_r_cracked a_s0 a_s0_row a_s1 a_s1_row a_s2 a_s2_row a_s3 a_s3_row : Nat) (d_hour : Int32) (d_traced : Int32) (r_cells : Nat → Int32) (r_hours : Nat → Int32) (r_cracked : Nat → Int32) (r_count : Int32) (Cc : Cx p s m args meth c RX4 cX4_plan 10 (some .int)) (hK : va_K D classes (tysA cI cS) s) (hA : ∀ q, s.heap.size ≤ q → A q) (n : Nat) : ∀ (d_latestFault : Int32) (f_kind : Nat → Int32) (f_wet : Nat → Int32) (f_wide : Int32) (f_rows : Int32) (f_cells : Int32) (f_sun : Int32) (f_all : Int32) (f_firstColumn : Int32) (f_lastColumn : Int32) (t_hours : Int32) (t_opened : Int32) (t_firstWrong : Int32) (g_kind : Nat → Int32) (g_wet : Nat → Int32) (g_wide : Int32) (g_rows : Int32) (g_cells : Int32) (g_sun : Int32) (g_all : Int32) (g_firstColumn : Int32) (g_lastColumn : Int32) (S_row : Nat → Nat → Int32) (S_lane : Nat → Int32) (S_length : Nat → Int32) (x3 : Int32) (x4 : Int32) (x5 : Int32) (x8 : Int32) (r : Int32) (d_latestFault' : Int32) (t_hours' : Int32) (t_opened' : Int32) (t_firstWrong' : Int32) (g_kind' : Nat → Int32) (g_wet' : Nat → Int32) (g_wide' : Int32) (g_rows' : Int32) (g_cells' : Int32) (g_sun' : Int32) (g_all' : Int32) (g_firstColumn' : Int32) (g_lastColumn' : Int32), fX4_plan_106 n d_latestFault f_kind f_wet f_wide f_rows f_cells f_sun f_all f_firstColumn f_lastColumn t_hours t_opened t_firstWrong g_kind g_wet g_wide g_rows g_cells g_sun g_all g_firstColumn g_lastColumn S_row S_lane S_length 0 x3 x4 x5 x8 = some (r, d_latestFault', t_hours', t_opened', t_firstWrong', g_kind', g_wet', g_wide', g_rows', g_cells', g_sun', g_all', g_firstColumn', g_lastColumn') → ∀ (H : Heap) (locs : List Loc) (ls : Array Slot), va_P D classes (W_D cI cS a_d a_f a_t a_r a_z a_f_kind a_f_wet a_g a_g_kind a_g_wet a_r_cells a_r_hours a_r_cracked a_s0 a_s0_row a_s1 a_s1_row a_s2 a_s2_row a_s3 a_s3_row d_hour d_traced d_latestFault f_kind f_wet f_wide f_rows f_cells f_sun f_all f_firstColumn f_lastColumn t_hours t_opened t_firstWrong g_kind g_wet g_wide g_rows g_cells g_sun g_all g_firstColumn g_lastColumn r_cells r_hours r_cracked r_count S_row S_lane S_length) H → va_D A (W_D cI cS a_d a_f a_t a_r a_z a_f_kind a_f_wet a_g a_g_kind a_g_wet a_r_cells a_r_hours a_r_cracked a_s0 a_s0_row a_s1 a_s1_row a_s2 a_s2_row a_s3 a_s3_row d_hour d_traced d_latestFault f_kind f_wet f_wide f_rows f_cells f_sun f_all f_firstColumn f_lastColumn t_hours t_opened t_firstWrong g_kind g_wet g_wide g_rows g_cells g_sun g_all g_firstColumn g_lastColumn r_cells r_hours r_cracked r_count S_row S_lane S_length) → va_S A s.heap H locs → lv_has ls 10 [(0, .ref a_d), (3, .int x3), (4, .int x4), (5, .int x5), (7, .ref a_s0), (8, .int x8)] → W p l e (Rm 6) s m args below meth c H locs 0 0 (MQ below (QW D (tysA cI cS) (some (.int r)) (W_D cI cS a_d a_f a_t a_r a_z a_f_kind a_f_wet a_g a_g_kind a_g_wet a_r_cells a_r_hours a_r_cracked a_s0 a_s0_row a_s1 a_s1_row a_s2 a_s2_row a_s3 a_s3_row d_hour d_traced d_latestFault' f_kind f_wet f_wide f_rows f_cells f_sun f_all f_firstColumn f_lastColumn t_hours' t_opened' t_firstWrong' g_kind' g_wet' g_wide' g_rows' g_cells' g_sun' g_all' g_firstColumn' g_lastColumn' r_cells r_hours r_cracked r_count S_row S_lane S_length) A) args s 0 0 A) (F0 m 106 ls []) := by
  obtain ⟨hx, hb, hr, hml, hown, hts, hlk, hnw⟩ := id Cc
  intro d_latestFault f_kind f_wet f_wide f_rows f_cells f_sun f_all f_firstColumn f_lastColumn t_hours t_opened t_firstWrong g_kind g_wet g_wide g_rows g_cells g_sun g_all g_firstColumn g_lastColumn S_row S_lane S_length x3 x4 x5 x8 r d_latestFault' t_hours' t_opened' t_firstWrong' g_kind' g_wet' g_wide' g_rows' g_cells' g_sun' g_all' g_firstColumn' g_lastColumn' hf H locs ls hP hD hS hl
  unfold fX4_plan_106 at hf
  refine lv_iload hx hb dX4_plan_106 (lv_at hl 5 rfl) ?_
  refine lv_if_eq (tgt := 118) hx hb dX4_plan_108 (by decide) (fun hc12 => ?_) (fun hc12 => ?_)
  · replace hf := (if_pos hc12).symm.trans hf
    refine lv_aload_n hx hb dX4_plan_118 rfl (lv_at hl 0 rfl) ?_
    refine va_get (D := D) (ci := 4) (v := .ref a_f) (C := RX4) (T := TX4) (N := 7) hx hb hts inX4 hown hK hP 0 rfl rfl 0 (by decide) (hts _ tw_123) (fun _ h9 => h9) rfl dX4_plan_119 ?_
    obtain ⟨q122_1, hq13, hf⟩ := Option.bind_eq_some_iff.mp hf
    refine cV (ws' := (W_D cI cS a_d a_f a_t a_r a_z a_f_kind a_f_wet a_g a_g_kind a_g_wet a_r_cells a_r_hours a_r_cracked a_s0 a_s0_row a_s1 a_s1_row a_s2 a_s2_row a_s3 a_s3_row d_hour d_traced d_latestFault f_kind f_wet f_wide f_rows f_cells f_sun f_all f_firstColumn f_lastColumn t_hours t_opened t_firstWrong g_kind g_wet g_wide g_rows g_cells g_sun g_all g_firstColumn g_lastColumn r_cells r_hours r_cracked r_count S_row S_lane S_length)) (rest := []) (st1 := [.int q122_1]) Cc hK hA hP hD hS hl.1 (ctX0_isThere l D cI cS a_f a_f_kind a_f_wet f_kind f_wet f_wide f_rows f_cells f_sun f_all f_firstColumn f_lastColumn  n q122_1 hq13) ⟨tw_252, tw_249, tw_250, tw_251, tw_2⟩ mdX0_isThere ⟨rfl, rfl, Nat.le_of_ble_eq_true rfl, Nat.le_of_ble_eq_true rfl⟩ rfl dX4_plan_122 rfl (Nat.le_of_ble_eq_true rfl) ⟨Nat.zero_le _, Nat.zero_le _⟩ rfl rfl rfl [1, 2, 3] [0, 4, 5, 6, 7, 8, 9, 10, 11, 12, 13, 14, 15, 16, 17, 18, 19, 20] [0, 18, 19, 20, 1, 2, 3, 4, 5, 6, 7, 8, 9, 10, 11, 12, 13, 14, 15, 16, 17] rfl rfl (by decide) rfl (fun H locs hP hD hS => ?_)
    refine lv_if_ne (tgt := 131) hx hb dX4_plan_125 (by decide) (fun hc14 => ?_) (fun hc14 => ?_)
    · replace hf := (if_neg hc14).symm.trans hf
      refine lv_aload_n hx hb dX4_plan_131 rfl (lv_at hl 0 rfl) ?_
      refine lv_aload hx hb dX4_plan_132 (lv_at hl 4 rfl) ?_
      refine lv_iload_n hx hb dX4_plan_134 rfl (lv_at hl 1 rfl) ?_
      refine lv_iload hx hb dX4_plan_135 (lv_at hl 2 rfl) ?_
      obtain ⟨q137_1, hq15, hf⟩ := Option.bind_eq_some_iff.mp hf
      refine cV (ws' := (W_D cI cS a_d a_f a_t a_r a_z a_f_kind a_f_wet a_g a_g_kind a_g_wet a_r_cells a_r_hours a_r_cracked a_s0 a_s0_row a_s1 a_s1_row a_s2 a_s2_row a_s3 a_s3_row d_hour d_traced d_latestFault f_kind f_wet f_wide f_rows f_cells f_sun f_all f_firstColumn f_lastColumn t_hours t_opened t_firstWrong g_kind g_wet g_wide g_rows g_cells g_sun g_all g_firstColumn g_lastColumn r_cells r_hours r_cracked r_count S_row S_lane S_length)) (rest := []) (st1 := [.int q137_1]) Cc hK hA hP hD hS hl.1 (ctX4_refusalOfPairs l D cI cS a_d a_f a_t a_r a_z a_f_kind a_f_wet a_s0 a_s0_row d_hour d_traced d_latestFault f_kind f_wet f_wide f_rows f_cells f_sun f_all f_firstColumn f_lastColumn (S_row 0) (S_lane 0) (S_length 0) x3 x4 n q137_1 hq15) ⟨tw_316, tw_313, tw_315, tp_3, tw_1⟩ mdX4_refusalOfPairs ⟨rfl, rfl, Nat.le_of_ble_eq_true rfl, Nat.le_of_ble_eq_true rfl⟩ rfl dX4_plan_137 rfl (Nat.le_of_ble_eq_true rfl) ⟨Nat.zero_le _, Nat.zero_le _⟩ rfl rfl rfl [0, 1, 2, 3, 13, 14] [4, 5, 6, 7, 8, 9, 10, 11, 12, 15, 16, 17, 18, 19, 20] [15, 16, 17, 18, 0, 1, 2, 3, 4, 5, 6, 7, 8, 19, 20, 9, 10, 11, 12, 13, 14] rfl rfl (by decide) rfl (fun H locs hP hD hS => ?_)
      refine lv_istore (lv' := [(9, .int q137_1), (0, .ref a_d), (3, .int x3), (4, .int x4), (5, .int x5), (7, .ref a_s0), (8, .int x8)]) hx hb dX4_plan_140 hl (by decide) rfl (fun ls hl => ?_)
      refine lv_iload hx hb dX4_plan_142 (lv_at hl 0 rfl) ?_
      refine lv_if_eq (tgt := 150) hx hb dX4_plan_144 (by decide) (fun hc16 => ?_) (fun hc16 => ?_)
      · replace hf := (if_pos hc16).symm.trans hf
        refine lv_aload_n hx hb dX4_plan_150 rfl (lv_at hl 1 rfl) ?_
        refine va_get (D := D) (ci := 4) (v := .ref a_t) (C := RX4) (T := TX4) (N := 7) hx hb hts inX4 hown hK hP 0 rfl rfl 1 (by decide) (hts _ tw_124) (fun _ h9 => h9) rfl dX4_plan_151 ?_
        refine lv_aload_n hx hb dX4_plan_154 rfl (lv_at hl 1 rfl) ?_
        refine va_get (D := D) (ci := 4) (v := .ref a_f) (C := RX4) (T := TX4) (N := 7) hx hb hts inX4 hown hK hP 0 rfl rfl 0 (by decide) (hts _ tw_123) (fun _ h9 => h9) rfl dX4_plan_155 ?_
        refine lv_aload hx hb dX4_plan_158 (lv_at hl 5 rfl) ?_
        refine lv_iload_n hx hb dX4_plan_160 rfl (lv_at hl 2 rfl) ?_
        refine lv_iload hx hb dX4_plan_161 (lv_at hl 3 rfl) ?_
        obtain ⟨q163_1, hq17, hf⟩ := Option.bind_eq_some_iff.mp hf
        refine cV (ws' := (W_D cI cS a_d a_f a_t a_r a_z a_f_kind a_f_wet a_g a_g_kind a_g_wet a_r_cells a_r_hours a_r_cracked a_s0 a_s0_row a_s1 a_s1_row a_s2 a_s2_row a_s3 a_s3_row d_hour d_traced d_latestFault f_kind f_wet f_wide f_rows f_cells f_sun f_all f_firstColumn f_lastColumn q163_1.1 q163_1.2.1 q163_1.2.2.1 q163_1.2.2.2.1 q163_1.2.2.2.2.1 q163_1.2.2.2.2.2.1 q163_1.2.2.2.2.2.2.1 q163_1.2.2.2.2.2.2.2.1 q163_1.2.2.2.2.2.2.2.2.1 q163_1.2.2.2.2.2.2.2.2.2.1 q163_1.2.2.2.2.2.2.2.2.2.2.1 q163_1.2.2.2.2.2.2.2.2.2.2.2 r_cells r_hours r_cracked r_count S_row S_lane S_length)) (rest := []) (st1 := []) Cc hK hA hP hD hS hl.1 (ctX3_follow l D cI cS a_t a_g a_g_kind a_g_wet a_f a_f_kind a_f_wet a_s0 a_s0_row t_hours t_opened t_firstWrong g_kind g_wet g_wide g_rows g_cells g_sun g_all g_firstColumn g_lastColumn f_kind f_wet f_wide f_rows f_cells f_sun f_all f_firstColumn f_lastColumn (S_row 0) (S_lane 0) (S_length 0) x3 x4 n q163_1.1 q163_1.2.1 q163_1.2.2.1 q163_1.2.2.2.1 q163_1.2.2.2.2.1 q163_1.2.2.2.2.2.1 q163_1.2.2.2.2.2.2.1 q163_1.2.2.2.2.2.2.2.1 q163_1.2.2.2.2.2.2.2.2.1 q163_1.2.2.2.2.2.2.2.2.2.1 q163_1.2.2.2.2.2.2.2.2.2.2.1 q163_1.2.2.2.2.2.2.2.2.2.2.2 hq17) ⟨tw_320, tw_317, tw_318, tw_319, tw_3⟩ mdX3_follow ⟨rfl, rfl, Nat.le_of_ble_eq_true rfl, Nat.le_of_ble_eq_true rfl⟩ rfl dX4_plan_163 rfl (Nat.le_of_ble_eq_true rfl) ⟨Nat.zero_le _, Nat.zero_le _⟩ rfl rfl rfl [4, 5, 6, 7, 1, 2, 3, 13, 14] [0, 8, 9, 10, 11, 12, 15, 16, 17, 18, 19, 20] [0, 16, 17, 18, 12, 13, 14, 15, 1, 2, 3, 4, 5, 19, 20, 6, 7, 8, 9, 10, 11] rfl rfl (by decide) rfl (fun H locs hP hD hS => ?_)
        refine lv_aload_n hx hb dX4_plan_166 rfl (lv_at hl 1 rfl) ?_
        refine va_get (D := D) (ci := 4) (v := .ref a_t) (C := RX4) (T := TX4) (N := 7) hx hb hts inX4 hown hK hP 0 rfl rfl 1 (by decide) (hts _ tw_124) (fun _ h9 => h9) rfl dX4_plan_167 ?_
        refine lv_iload hx hb dX4_plan_170 (lv_at hl 4 rfl) ?_
        obtain ⟨q172_2, hq18, hf⟩ := Option.bind_eq_some_iff.mp hf
        refine cV (ws' := (W_D cI cS a_d a_f a_t a_r a_z a_f_kind a_f_wet a_g a_g_kind a_g_wet a_r_cells a_r_hours a_r_cracked a_s0 a_s0_row a_s1 a_s1_row a_s2 a_s2_row a_s3 a_s3_row d_hour d_traced d_latestFault f_kind f_wet f_wide f_rows f_cells f_sun f_all f_firstColumn f_lastColumn q163_1.1 q163_1.2.1 q163_1.2.2.1 q163_1.2.2.2.1 q163_1.2.2.2.2.1 q163_1.2.2.2.2.2.1 q163_1.2.2.2.2.2.2.1 q163_1.2.2.2.2.2.2.2.1 q163_1.2.2.2.2.2.2.2.2.1 q163_1.2.2.2.2.2.2.2.2.2.1 q163_1.2.2.2.2.2.2.2.2.2.2.1 q163_1.2.2.2.2.2.2.2.2.2.2.2 r_cells r_hours r_cracked r_count S_row S_lane S_length)) (rest := []) (st1 := [.int q172_2]) Cc hK hA hP hD hS hl.1 (ctX3_answerTo l D cI cS a_t a_g a_g_kind a_g_wet q163_1.1 q163_1.2.1 q163_1.2.2.1 q163_1.2.2.2.1 q163_1.2.2.2.2.1 q163_1.2.2.2.2.2.1 q163_1.2.2.2.2.2.2.1 q163_1.2.2.2.2.2.2.2.1 q163_1.2.2.2.2.2.2.2.2.1 q163_1.2.2.2.2.2.2.2.2.2.1 q163_1.2.2.2.2.2.2.2.2.2.2.1 q163_1.2.2.2.2.2.2.2.2.2.2.2 x5 n q172_2 hq18) ⟨tw_341, tw_338, tw_339, tw_340, tw_3⟩ mdX3_answerTo ⟨rfl, rfl, Nat.le_of_ble_eq_true rfl, Nat.le_of_ble_eq_true rfl⟩ rfl dX4_plan_172 rfl (Nat.le_of_ble_eq_true rfl) ⟨Nat.zero_le _, Nat.zero_le _⟩ rfl rfl rfl [4, 5, 6, 7] [0, 1, 2, 3, 8, 9, 10, 11, 12, 13, 14, 15, 16, 17, 18, 19, 20] [0, 1, 2, 3, 17, 18, 19, 20, 4, 5, 6, 7, 8, 9, 10, 11, 12, 13, 14, 15, 16] rfl rfl (by decide) rfl (fun H locs hP hD hS => ?_)
        replace hf := Option.some.inj hf
        obtain ⟨er0, er1⟩ := Prod.mk.inj hf
        obtain ⟨er2, er3⟩ := Prod.mk.inj er1
        obtain ⟨er4, er5⟩ := Prod.mk.inj er3
        obtain ⟨er6, er7⟩ := Prod.mk.inj er5
        obtain ⟨er8, er9⟩ := Prod.mk.inj er7
        obtain ⟨er10, er11⟩ := Prod.mk.inj er9
        obtain ⟨er12, er13⟩ := Prod.mk.inj er11
        obtain ⟨er14, er15⟩ := Prod.mk.inj er13
        obtain ⟨er16, er17⟩ := Prod.mk.inj er15
        obtain ⟨er18, er19⟩ := Prod.mk.inj er17
        obtain ⟨er20, er21⟩ := Prod.mk.inj er19
        obtain ⟨er22, er23⟩ := Prod.mk.inj er21
        obtain ⟨er24, er25⟩ := Prod.mk.inj er23
        clear hf er1 er3 er5 er7 er9 er11 er13 er15 er17 er19 er21 er23
        subst er0
        subst er2
        subst er4
        subst er6
        subst er8
        subst er10
        subst er12
        subst er14
        subst er16
        subst er18
        subst er20
        subst er22
        subst er24
        subst er25
        exact rt_i Cc hK hP hD hS dX4_plan_175
      · replace hf := (if_neg hc16).symm.trans hf
        refine lv_iload hx hb dX4_plan_147 (lv_at hl 0 rfl) ?_
        replace hf := Option.some.inj hf
        obtain ⟨er0, er1⟩ := Prod.mk.inj hf
        obtain ⟨er2, er3⟩ := Prod.mk.inj er1
        obtain ⟨er4, er5⟩ := Prod.mk.inj er3
        obtain ⟨er6, er7⟩ := Prod.mk.inj er5
        obtain ⟨er8, er9⟩ := Prod.mk.inj er7
        obtain ⟨er10, er11⟩ := Prod.mk.inj er9
        obtain ⟨er12, er13⟩ := Prod.mk.inj er11
        obtain ⟨er14, er15⟩ := Prod.mk.inj er13
        obtain ⟨er16, er17⟩ := Prod.mk.inj er15
        obtain ⟨er18, er19⟩ := Prod.mk.inj er17
        obtain ⟨er20, er21⟩ := Prod.mk.inj er19
        obtain ⟨er22, er23⟩ := Prod.mk.inj er21
        obtain ⟨er24, er25⟩ := Prod.mk.inj er23
        clear hf er1 er3 er5 er7 er9 er11 er13 er15 er17 er19 er21 er23
        subst er0
        subst er2
        subst er4
        subst er6
        subst er8
        subst er10
        subst er12
        subst er14
        subst er16
        subst er18
        subst er20
        subst er22
        subst er24
        subst er25
        exact rt_i Cc hK hP hD hS dX4_plan_149
    · replace hf := (if_pos hc14).symm.trans hf
      refine lv_bipush (v := (-3 : Int32)) hx hb dX4_plan_128 (by decide) ?_
      replace hf := Option.some.inj hf
      obtain ⟨er0, er1⟩ := Prod.mk.inj hf
      obtain ⟨er2, er3⟩ := Prod.mk.inj er1
      obtain ⟨er4, er5⟩ := Prod.mk.inj er3
      obtain ⟨er6, er7⟩ := Prod.mk.inj er5
      obtain ⟨er8, er9⟩ := Prod.mk.inj er7
      obtain ⟨er10, er11⟩ := Prod.mk.inj er9
      obtain ⟨er12, er13⟩ := Prod.mk.inj er11
      obtain ⟨er14, er15⟩ := Prod.mk.inj er13
      obtain ⟨er16, er17⟩ := Prod.mk.inj er15
      obtain ⟨er18, er19⟩ := Prod.mk.inj er17
      obtain ⟨er20, er21⟩ := Prod.mk.inj er19
      obtain ⟨er22, er23⟩ := Prod.mk.inj er21
      obtain ⟨er24, er25⟩ := Prod.mk.inj er23
      clear hf er1 er3 er5 er7 er9 er11 er13 er15 er17 er19 er21 er23
      subst er0
      subst er2
      subst er4
      subst er6
      subst er8
      subst er10
      subst er12
      subst er14
      subst er16
      subst er18
      subst er20
      subst er22
      subst er24
      subst er25
      exact rt_i Cc hK hP hD hS dX4_plan_130
  · replace hf := (if_neg hc12).symm.trans hf
    refine lv_aload_n hx hb dX4_plan_111 rfl (lv_at hl 0 rfl) ?_
    refine lv_iload hx hb dX4_plan_112 (lv_at hl 5 rfl) ?_
    obtain ⟨q114_1, hq19, hf⟩ := Option.bind_eq_some_iff.mp hf
    refine cV (ws' := (W_D cI cS a_d a_f a_t a_r a_z a_f_kind a_f_wet a_g a_g_kind a_g_wet a_r_cells a_r_hours a_r_cracked a_s0 a_s0_row a_s1 a_s1_row a_s2 a_s2_row a_s3 a_s3_row d_hour d_traced q114_1.2 f_kind f_wet f_wide f_rows f_cells f_sun f_all f_firstColumn f_lastColumn t_hours t_opened t_firstWrong g_kind g_wet g_wide g_rows g_cells g_sun g_all g_firstColumn g_lastColumn r_cells r_hours r_cracked r_count S_row S_lane S_length)) (rest := []) (st1 := [.int q114_1.1]) Cc hK hA hP hD hS hl.1 (ctX4_faulted l D cI cS a_d a_f a_t a_r a_z d_hour d_traced d_latestFault x8 n q114_1.1 q114_1.2 hq19) ⟨tw_173, tw_170, tw_172, tp_0, tw_1⟩ mdX4_faulted ⟨rfl, rfl, Nat.le_of_ble_eq_true rfl, Nat.le_of_ble_eq_true rfl⟩ rfl dX4_plan_114 rfl (Nat.le_of_ble_eq_true rfl) ⟨Nat.zero_le _, Nat.zero_le _⟩ rfl rfl rfl [0] [1, 2, 3, 4, 5, 6, 7, 8, 9, 10, 11, 12, 13, 14, 15, 16, 17, 18, 19, 20] [20, 0, 1, 2, 3, 4, 5, 6, 7, 8, 9, 10, 11, 12, 13, 14, 15, 16, 17, 18, 19] rfl rfl (by decide) rfl (fun H locs hP hD hS => ?_)
    replace hf := Option.some.inj hf
    obtain ⟨er0, er1⟩ := Prod.mk.inj hf
    obtain ⟨er2, er3⟩ := Prod.mk.inj er1
    obtain ⟨er4, er5⟩ := Prod.mk.inj er3
    obtain ⟨er6, er7⟩ := Prod.mk.inj er5
    obtain ⟨er8, er9⟩ := Prod.mk.inj er7
    obtain ⟨er10, er11⟩ := Prod.mk.inj er9
    obtain ⟨er12, er13⟩ := Prod.mk.inj er11
    obtain ⟨er14, er15⟩ := Prod.mk.inj er13
    obtain ⟨er16, er17⟩ := Prod.mk.inj er15
    obtain ⟨er18, er19⟩ := Prod.mk.inj er17
    obtain ⟨er20, er21⟩ := Prod.mk.inj er19
    obtain ⟨er22, er23⟩ := Prod.mk.inj er21
    obtain ⟨er24, er25⟩ := Prod.mk.inj er23
    clear hf er1 er3 er5 er7 er9 er11 er13 er15 er17 er19 er21 er23
    subst er0
    subst er2
    subst er4
    subst er6
    subst er8
    subst er10
    subst er12
    subst er14
    subst er16
    subst er18
    subst er20
    subst er22
    subst er24
    subst er25
    exact rt_i Cc hK hP hD hS dX4_plan_117
set_option maxHeartbeats 4000000 in
set_option maxRecDepth 100000 in
theorem bX4_plan_106_1 {p : Program} {l : Launch} {e : Env} {s : State} {m : MethodId} {args : Array Value} {below : List Frame} {meth : Method} {c : Code} {A : Nat → Prop} {D : va_G} {cI cS : ClassId} (a_d a_f a_t a_r a_z a_f_kind a_f_wet a_g a_g_kind a_g_wet a_r_cells a_r_hours a_r_cracked a_s0 a_s0_row a_s1 a_s1_row a_s2 a_s2_row a_s3 a_s3_row : Nat) (d_hour : Int32) (d_traced : Int32) (r_cells : Nat → Int32) (r_hours : Nat → Int32) (r_cracked : Nat → Int32) (r_count : Int32) (Cc : Cx p s m args meth c RX4 cX4_plan 10 (some .int)) (hK : va_K D classes (tysA cI cS) s) (hA : ∀ q, s.heap.size ≤ q → A q) (n : Nat) : ∀ (d_latestFault : Int32) (f_kind : Nat → Int32) (f_wet : Nat → Int32) (f_wide : Int32) (f_rows : Int32) (f_cells : Int32) (f_sun : Int32) (f_all : Int32) (f_firstColumn : Int32) (f_lastColumn : Int32) (t_hours : Int32) (t_opened : Int32) (t_firstWrong : Int32) (g_kind : Nat → Int32) (g_wet : Nat → Int32) (g_wide : Int32) (g_rows : Int32) (g_cells : Int32) (g_sun : Int32) (g_all : Int32) (g_firstColumn : Int32) (g_lastColumn : Int32) (S_row : Nat → Nat → Int32) (S_lane : Nat → Int32) (S_length : Nat → Int32) (x3 : Int32) (x4 : Int32) (x5 : Int32) (x8 : Int32) (r : Int32) (d_latestFault' : Int32) (t_hours' : Int32) (t_opened' : Int32) (t_firstWrong' : Int32) (g_kind' : Nat → Int32) (g_wet' : Nat → Int32) (g_wide' : Int32) (g_rows' : Int32) (g_cells' : Int32) (g_sun' : Int32) (g_all' : Int32) (g_firstColumn' : Int32) (g_lastColumn' : Int32), fX4_plan_106 n d_latestFault f_kind f_wet f_wide f_rows f_cells f_sun f_all f_firstColumn f_lastColumn t_hours t_opened t_firstWrong g_kind g_wet g_wide g_rows g_cells g_sun g_all g_firstColumn g_lastColumn S_row S_lane S_length 1 x3 x4 x5 x8 = some (r, d_latestFault', t_hours', t_opened', t_firstWrong', g_kind', g_wet', g_wide', g_rows', g_cells', g_sun', g_all', g_firstColumn', g_lastColumn') → ∀ (H : Heap) (locs : List Loc) (ls : Array Slot), va_P D classes (W_D cI cS a_d a_f a_t a_r a_z a_f_kind a_f_wet a_g a_g_kind a_g_wet a_r_cells a_r_hours a_r_cracked a_s0 a_s0_row a_s1 a_s1_row a_s2 a_s2_row a_s3 a_s3_row d_hour d_traced d_latestFault f_kind f_wet f_wide f_rows f_cells f_sun f_all f_firstColumn f_lastColumn t_hours t_opened t_firstWrong g_kind g_wet g_wide g_rows g_cells g_sun g_all g_firstColumn g_lastColumn r_cells r_hours r_cracked r_count S_row S_lane S_length) H → va_D A (W_D cI cS a_d a_f a_t a_r a_z a_f_kind a_f_wet a_g a_g_kind a_g_wet a_r_cells a_r_hours a_r_cracked a_s0 a_s0_row a_s1 a_s1_row a_s2 a_s2_row a_s3 a_s3_row d_hour d_traced d_latestFault f_kind f_wet f_wide f_rows f_cells f_sun f_all f_firstColumn f_lastColumn t_hours t_opened t_firstWrong g_kind g_wet g_wide g_rows g_cells g_sun g_all g_firstColumn g_lastColumn r_cells r_hours r_cracked r_count S_row S_lane S_length) → va_S A s.heap H locs → lv_has ls 10 [(0, .ref a_d), (3, .int x3), (4, .int x4), (5, .int x5), (7, .ref a_s1), (8, .int x8)] → W p l e (Rm 6) s m args below meth c H locs 0 0 (MQ below (QW D (tysA cI cS) (some (.int r)) (W_D cI cS a_d a_f a_t a_r a_z a_f_kind a_f_wet a_g a_g_kind a_g_wet a_r_cells a_r_hours a_r_cracked a_s0 a_s0_row a_s1 a_s1_row a_s2 a_s2_row a_s3 a_s3_row d_hour d_traced d_latestFault' f_kind f_wet f_wide f_rows f_cells f_sun f_all f_firstColumn f_lastColumn t_hours' t_opened' t_firstWrong' g_kind' g_wet' g_wide' g_rows' g_cells' g_sun' g_all' g_firstColumn' g_lastColumn' r_cells r_hours r_cracked r_count S_row S_lane S_length) A) args s 0 0 A) (F0 m 106 ls []) := by
  obtain ⟨hx, hb, hr, hml, hown, hts, hlk, hnw⟩ := id Cc
  intro d_latestFault f_kind f_wet f_wide f_rows f_cells f_sun f_all f_firstColumn f_lastColumn t_hours t_opened t_firstWrong g_kind g_wet g_wide g_rows g_cells g_sun g_all g_firstColumn g_lastColumn S_row S_lane S_length x3 x4 x5 x8 r d_latestFault' t_hours' t_opened' t_firstWrong' g_kind' g_wet' g_wide' g_rows' g_cells' g_sun' g_all' g_firstColumn' g_lastColumn' hf H locs ls hP hD hS hl
  unfold fX4_plan_106 at hf
  refine lv_iload hx hb dX4_plan_106 (lv_at hl 5 rfl) ?_
  refine lv_if_eq (tgt := 118) hx hb dX4_plan_108 (by decide) (fun hc24 => ?_) (fun hc24 => ?_)
  · replace hf := (if_pos hc24).symm.trans hf
    refine lv_aload_n hx hb dX4_plan_118 rfl (lv_at hl 0 rfl) ?_
    refine va_get (D := D) (ci := 4) (v := .ref a_f) (C := RX4) (T := TX4) (N := 7) hx hb hts inX4 hown hK hP 0 rfl rfl 0 (by decide) (hts _ tw_123) (fun _ h9 => h9) rfl dX4_plan_119 ?_
    obtain ⟨q122_1, hq25, hf⟩ := Option.bind_eq_some_iff.mp hf
    refine cV (ws' := (W_D cI cS a_d a_f a_t a_r a_z a_f_kind a_f_wet a_g a_g_kind a_g_wet a_r_cells a_r_hours a_r_cracked a_s0 a_s0_row a_s1 a_s1_row a_s2 a_s2_row a_s3 a_s3_row d_hour d_traced d_latestFault f_kind f_wet f_wide f_rows f_cells f_sun f_all f_firstColumn f_lastColumn t_hours t_opened t_firstWrong g_kind g_wet g_wide g_rows g_cells g_sun g_all g_firstColumn g_lastColumn r_cells r_hours r_cracked r_count S_row S_lane S_length)) (rest := []) (st1 := [.int q122_1]) Cc hK hA hP hD hS hl.1 (ctX0_isThere l D cI cS a_f a_f_kind a_f_wet f_kind f_wet f_wide f_rows f_cells f_sun f_all f_firstColumn f_lastColumn  n q122_1 hq25) ⟨tw_252, tw_249, tw_250, tw_251, tw_2⟩ mdX0_isThere ⟨rfl, rfl, Nat.le_of_ble_eq_true rfl, Nat.le_of_ble_eq_true rfl⟩ rfl dX4_plan_122 rfl (Nat.le_of_ble_eq_true rfl) ⟨Nat.zero_le _, Nat.zero_le _⟩ rfl rfl rfl [1, 2, 3] [0, 4, 5, 6, 7, 8, 9, 10, 11, 12, 13, 14, 15, 16, 17, 18, 19, 20] [0, 18, 19, 20, 1, 2, 3, 4, 5, 6, 7, 8, 9, 10, 11, 12, 13, 14, 15, 16, 17] rfl rfl (by decide) rfl (fun H locs hP hD hS => ?_)
    refine lv_if_ne (tgt := 131) hx hb dX4_plan_125 (by decide) (fun hc26 => ?_) (fun hc26 => ?_)
    · replace hf := (if_neg hc26).symm.trans hf
      refine lv_aload_n hx hb dX4_plan_131 rfl (lv_at hl 0 rfl) ?_
      refine lv_aload hx hb dX4_plan_132 (lv_at hl 4 rfl) ?_
      refine lv_iload_n hx hb dX4_plan_134 rfl (lv_at hl 1 rfl) ?_
      refine lv_iload hx hb dX4_plan_135 (lv_at hl 2 rfl) ?_
      obtain ⟨q137_1, hq27, hf⟩ := Option.bind_eq_some_iff.mp hf
      refine cV (ws' := (W_D cI cS a_d a_f a_t a_r a_z a_f_kind a_f_wet a_g a_g_kind a_g_wet a_r_cells a_r_hours a_r_cracked a_s0 a_s0_row a_s1 a_s1_row a_s2 a_s2_row a_s3 a_s3_row d_hour d_traced d_latestFault f_kind f_wet f_wide f_rows f_cells f_sun f_all f_firstColumn f_lastColumn t_hours t_opened t_firstWrong g_kind g_wet g_wide g_rows g_cells g_sun g_all g_firstColumn g_lastColumn r_cells r_hours r_cracked r_count S_row S_lane S_length)) (rest := []) (st1 := [.int q137_1]) Cc hK hA hP hD hS hl.1 (ctX4_refusalOfPairs l D cI cS a_d a_f a_t a_r a_z a_f_kind a_f_wet a_s1 a_s1_row d_hour d_traced d_latestFault f_kind f_wet f_wide f_rows f_cells f_sun f_all f_firstColumn f_lastColumn (S_row 1) (S_lane 1) (S_length 1) x3 x4 n q137_1 hq27) ⟨tw_316, tw_313, tw_315, tp_3, tw_1⟩ mdX4_refusalOfPairs ⟨rfl, rfl, Nat.le_of_ble_eq_true rfl, Nat.le_of_ble_eq_true rfl⟩ rfl dX4_plan_137 rfl (Nat.le_of_ble_eq_true rfl) ⟨Nat.zero_le _, Nat.zero_le _⟩ rfl rfl rfl [0, 1, 2, 3, 15, 16] [4, 5, 6, 7, 8, 9, 10, 11, 12, 13, 14, 17, 18, 19, 20] [15, 16, 17, 18, 0, 1, 2, 3, 4, 5, 6, 7, 8, 9, 10, 19, 20, 11, 12, 13, 14] rfl rfl (by decide) rfl (fun H locs hP hD hS => ?_)
      refine lv_istore (lv' := [(9, .int q137_1), (0, .ref a_d), (3, .int x3), (4, .int x4), (5, .int x5), (7, .ref a_s1), (8, .int x8)]) hx hb dX4_plan_140 hl (by decide) rfl (fun ls hl => ?_)
      refine lv_iload hx hb dX4_plan_142 (lv_at hl 0 rfl) ?_
      refine lv_if_eq (tgt := 150) hx hb dX4_plan_144 (by decide) (fun hc28 => ?_) (fun hc28 => ?_)
      · replace hf := (if_pos hc28).symm.trans hf
        refine lv_aload_n hx hb dX4_plan_150 rfl (lv_at hl 1 rfl) ?_
        refine va_get (D := D) (ci := 4) (v := .ref a_t) (C := RX4) (T := TX4) (N := 7) hx hb hts inX4 hown hK hP 0 rfl rfl 1 (by decide) (hts _ tw_124) (fun _ h9 => h9) rfl dX4_plan_151 ?_
        refine lv_aload_n hx hb dX4_plan_154 rfl (lv_at hl 1 rfl) ?_
        refine va_get (D := D) (ci := 4) (v := .ref a_f) (C := RX4) (T := TX4) (N := 7) hx hb hts inX4 hown hK hP 0 rfl rfl 0 (by decide) (hts _ tw_123) (fun _ h9 => h9) rfl dX4_plan_155 ?_
        refine lv_aload hx hb dX4_plan_158 (lv_at hl 5 rfl) ?_
        refine lv_iload_n hx hb dX4_plan_160 rfl (lv_at hl 2 rfl) ?_
        refine lv_iload hx hb dX4_plan_161 (lv_at hl 3 rfl) ?_
        obtain ⟨q163_1, hq29, hf⟩ := Option.bind_eq_some_iff.mp hf
        refine cV (ws' := (W_D cI cS a_d a_f a_t a_r a_z a_f_kind a_f_wet a_g a_g_kind a_g_wet a_r_cells a_r_hours a_r_cracked a_s0 a_s0_row a_s1 a_s1_row a_s2 a_s2_row a_s3 a_s3_row d_hour d_traced d_latestFault f_kind f_wet f_wide f_rows f_cells f_sun f_all f_firstColumn f_lastColumn q163_1.1 q163_1.2.1 q163_1.2.2.1 q163_1.2.2.2.1 q163_1.2.2.2.2.1 q163_1.2.2.2.2.2.1 q163_1.2.2.2.2.2.2.1 q163_1.2.2.2.2.2.2.2.1 q163_1.2.2.2.2.2.2.2.2.1 q163_1.2.2.2.2.2.2.2.2.2.1 q163_1.2.2.2.2.2.2.2.2.2.2.1 q163_1.2.2.2.2.2.2.2.2.2.2.2 r_cells r_hours r_cracked r_count S_row S_lane S_length)) (rest := []) (st1 := []) Cc hK hA hP hD hS hl.1 (ctX3_follow l D cI cS a_t a_g a_g_kind a_g_wet a_f a_f_kind a_f_wet a_s1 a_s1_row t_hours t_opened t_firstWrong g_kind g_wet g_wide g_rows g_cells g_sun g_all g_firstColumn g_lastColumn f_kind f_wet f_wide f_rows f_cells f_sun f_all f_firstColumn f_lastColumn (S_row 1) (S_lane 1) (S_length 1) x3 x4 n q163_1.1 q163_1.2.1 q163_1.2.2.1 q163_1.2.2.2.1 q163_1.2.2.2.2.1 q163_1.2.2.2.2.2.1 q163_1.2.2.2.2.2.2.1 q163_1.2.2.2.2.2.2.2.1 q163_1.2.2.2.2.2.2.2.2.1 q163_1.2.2.2.2.2.2.2.2.2.1 q163_1.2.2.2.2.2.2.2.2.2.2.1 q163_1.2.2.2.2.2.2.2.2.2.2.2 hq29) ⟨tw_320, tw_317, tw_318, tw_319, tw_3⟩ mdX3_follow ⟨rfl, rfl, Nat.le_of_ble_eq_true rfl, Nat.le_of_ble_eq_true rfl⟩ rfl dX4_plan_163 rfl (Nat.le_of_ble_eq_true rfl) ⟨Nat.zero_le _, Nat.zero_le _⟩ rfl rfl rfl [4, 5, 6, 7, 1, 2, 3, 15, 16] [0, 8, 9, 10, 11, 12, 13, 14, 17, 18, 19, 20] [0, 16, 17, 18, 12, 13, 14, 15, 1, 2, 3, 4, 5, 6, 7, 19, 20, 8, 9, 10, 11] rfl rfl (by decide) rfl (fun H locs hP hD hS => ?_)
        refine lv_aload_n hx hb dX4_plan_166 rfl (lv_at hl 1 rfl) ?_
        refine va_get (D := D) (ci := 4) (v := .ref a_t) (C := RX4) (T := TX4) (N := 7) hx hb hts inX4 hown hK hP 0 rfl rfl 1 (by decide) (hts _ tw_124) (fun _ h9 => h9) rfl dX4_plan_167 ?_
        refine lv_iload hx hb dX4_plan_170 (lv_at hl 4 rfl) ?_
        obtain ⟨q172_2, hq30, hf⟩ := Option.bind_eq_some_iff.mp hf
        refine cV (ws' := (W_D cI cS a_d a_f a_t a_r a_z a_f_kind a_f_wet a_g a_g_kind a_g_wet a_r_cells a_r_hours a_r_cracked a_s0 a_s0_row a_s1 a_s1_row a_s2 a_s2_row a_s3 a_s3_row d_hour d_traced d_latestFault f_kind f_wet f_wide f_rows f_cells f_sun f_all f_firstColumn f_lastColumn q163_1.1 q163_1.2.1 q163_1.2.2.1 q163_1.2.2.2.1 q163_1.2.2.2.2.1 q163_1.2.2.2.2.2.1 q163_1.2.2.2.2.2.2.1 q163_1.2.2.2.2.2.2.2.1 q163_1.2.2.2.2.2.2.2.2.1 q163_1.2.2.2.2.2.2.2.2.2.1 q163_1.2.2.2.2.2.2.2.2.2.2.1 q163_1.2.2.2.2.2.2.2.2.2.2.2 r_cells r_hours r_cracked r_count S_row S_lane S_length)) (rest := []) (st1 := [.int q172_2]) Cc hK hA hP hD hS hl.1 (ctX3_answerTo l D cI cS a_t a_g a_g_kind a_g_wet q163_1.1 q163_1.2.1 q163_1.2.2.1 q163_1.2.2.2.1 q163_1.2.2.2.2.1 q163_1.2.2.2.2.2.1 q163_1.2.2.2.2.2.2.1 q163_1.2.2.2.2.2.2.2.1 q163_1.2.2.2.2.2.2.2.2.1 q163_1.2.2.2.2.2.2.2.2.2.1 q163_1.2.2.2.2.2.2.2.2.2.2.1 q163_1.2.2.2.2.2.2.2.2.2.2.2 x5 n q172_2 hq30) ⟨tw_341, tw_338, tw_339, tw_340, tw_3⟩ mdX3_answerTo ⟨rfl, rfl, Nat.le_of_ble_eq_true rfl, Nat.le_of_ble_eq_true rfl⟩ rfl dX4_plan_172 rfl (Nat.le_of_ble_eq_true rfl) ⟨Nat.zero_le _, Nat.zero_le _⟩ rfl rfl rfl [4, 5, 6, 7] [0, 1, 2, 3, 8, 9, 10, 11, 12, 13, 14, 15, 16, 17, 18, 19, 20] [0, 1, 2, 3, 17, 18, 19, 20, 4, 5, 6, 7, 8, 9, 10, 11, 12, 13, 14, 15, 16] rfl rfl (by decide) rfl (fun H locs hP hD hS => ?_)
        replace hf := Option.some.inj hf
        obtain ⟨er0, er1⟩ := Prod.mk.inj hf
        obtain ⟨er2, er3⟩ := Prod.mk.inj er1
        obtain ⟨er4, er5⟩ := Prod.mk.inj er3
        obtain ⟨er6, er7⟩ := Prod.mk.inj er5
        obtain ⟨er8, er9⟩ := Prod.mk.inj er7
        obtain ⟨er10, er11⟩ := Prod.mk.inj er9
        obtain ⟨er12, er13⟩ := Prod.mk.inj er11
        obtain ⟨er14, er15⟩ := Prod.mk.inj er13
        obtain ⟨er16, er17⟩ := Prod.mk.inj er15
        obtain ⟨er18, er19⟩ := Prod.mk.inj er17
        obtain ⟨er20, er21⟩ := Prod.mk.inj er19
        obtain ⟨er22, er23⟩ := Prod.mk.inj er21
        obtain ⟨er24, er25⟩ := Prod.mk.inj er23
        clear hf er1 er3 er5 er7 er9 er11 er13 er15 er17 er19 er21 er23
        subst er0
        subst er2
        subst er4
        subst er6
        subst er8
        subst er10
        subst er12
        subst er14
        subst er16
        subst er18
        subst er20
        subst er22
        subst er24
        subst er25
        exact rt_i Cc hK hP hD hS dX4_plan_175
      · replace hf := (if_neg hc28).symm.trans hf
        refine lv_iload hx hb dX4_plan_147 (lv_at hl 0 rfl) ?_
        replace hf := Option.some.inj hf
        obtain ⟨er0, er1⟩ := Prod.mk.inj hf
        obtain ⟨er2, er3⟩ := Prod.mk.inj er1
        obtain ⟨er4, er5⟩ := Prod.mk.inj er3
        obtain ⟨er6, er7⟩ := Prod.mk.inj er5
        obtain ⟨er8, er9⟩ := Prod.mk.inj er7
        obtain ⟨er10, er11⟩ := Prod.mk.inj er9
        obtain ⟨er12, er13⟩ := Prod.mk.inj er11
        obtain ⟨er14, er15⟩ := Prod.mk.inj er13
        obtain ⟨er16, er17⟩ := Prod.mk.inj er15
        obtain ⟨er18, er19⟩ := Prod.mk.inj er17
        obtain ⟨er20, er21⟩ := Prod.mk.inj er19
        obtain ⟨er22, er23⟩ := Prod.mk.inj er21
        obtain ⟨er24, er25⟩ := Prod.mk.inj er23
        clear hf er1 er3 er5 er7 er9 er11 er13 er15 er17 er19 er21 er23
        subst er0
        subst er2
        subst er4
        subst er6
        subst er8
        subst er10
        subst er12
        subst er14
        subst er16
        subst er18
        subst er20
        subst er22
        subst er24
        subst er25
        exact rt_i Cc hK hP hD hS dX4_plan_149
    · replace hf := (if_pos hc26).symm.trans hf
      refine lv_bipush (v := (-3 : Int32)) hx hb dX4_plan_128 (by decide) ?_
      replace hf := Option.some.inj hf
      obtain ⟨er0, er1⟩ := Prod.mk.inj hf
      obtain ⟨er2, er3⟩ := Prod.mk.inj er1
      obtain ⟨er4, er5⟩ := Prod.mk.inj er3
      obtain ⟨er6, er7⟩ := Prod.mk.inj er5
      obtain ⟨er8, er9⟩ := Prod.mk.inj er7
      obtain ⟨er10, er11⟩ := Prod.mk.inj er9
      obtain ⟨er12, er13⟩ := Prod.mk.inj er11
      obtain ⟨er14, er15⟩ := Prod.mk.inj er13
      obtain ⟨er16, er17⟩ := Prod.mk.inj er15
      obtain ⟨er18, er19⟩ := Prod.mk.inj er17
      obtain ⟨er20, er21⟩ := Prod.mk.inj er19
      obtain ⟨er22, er23⟩ := Prod.mk.inj er21
      obtain ⟨er24, er25⟩ := Prod.mk.inj er23
      clear hf er1 er3 er5 er7 er9 er11 er13 er15 er17 er19 er21 er23
      subst er0
      subst er2
      subst er4
      subst er6
      subst er8
      subst er10
      subst er12
      subst er14
      subst er16
      subst er18
      subst er20
      subst er22
      subst er24
      subst er25
      exact rt_i Cc hK hP hD hS dX4_plan_130
  · replace hf := (if_neg hc24).symm.trans hf
    refine lv_aload_n hx hb dX4_plan_111 rfl (lv_at hl 0 rfl) ?_
    refine lv_iload hx hb dX4_plan_112 (lv_at hl 5 rfl) ?_
    obtain ⟨q114_1, hq31, hf⟩ := Option.bind_eq_some_iff.mp hf
    refine cV (ws' := (W_D cI cS a_d a_f a_t a_r a_z a_f_kind a_f_wet a_g a_g_kind a_g_wet a_r_cells a_r_hours a_r_cracked a_s0 a_s0_row a_s1 a_s1_row a_s2 a_s2_row a_s3 a_s3_row d_hour d_traced q114_1.2 f_kind f_wet f_wide f_rows f_cells f_sun f_all f_firstColumn f_lastColumn t_hours t_opened t_firstWrong g_kind g_wet g_wide g_rows g_cells g_sun g_all g_firstColumn g_lastColumn r_cells r_hours r_cracked r_count S_row S_lane S_length)) (rest := []) (st1 := [.int q114_1.1]) Cc hK hA hP hD hS hl.1 (ctX4_faulted l D cI cS a_d a_f a_t a_r a_z d_hour d_traced d_latestFault x8 n q114_1.1 q114_1.2 hq31) ⟨tw_173, tw_170, tw_172, tp_0, tw_1⟩ mdX4_faulted ⟨rfl, rfl, Nat.le_of_ble_eq_true rfl, Nat.le_of_ble_eq_true rfl⟩ rfl dX4_plan_114 rfl (Nat.le_of_ble_eq_true rfl) ⟨Nat.zero_le _, Nat.zero_le _⟩ rfl rfl rfl [0] [1, 2, 3, 4, 5, 6, 7, 8, 9, 10, 11, 12, 13, 14, 15, 16, 17, 18, 19, 20] [20, 0, 1, 2, 3, 4, 5, 6, 7, 8, 9, 10, 11, 12, 13, 14, 15, 16, 17, 18, 19] rfl rfl (by decide) rfl (fun H locs hP hD hS => ?_)
    replace hf := Option.some.inj hf
    obtain ⟨er0, er1⟩ := Prod.mk.inj hf
    obtain ⟨er2, er3⟩ := Prod.mk.inj er1
    obtain ⟨er4, er5⟩ := Prod.mk.inj er3
    obtain ⟨er6, er7⟩ := Prod.mk.inj er5
    obtain ⟨er8, er9⟩ := Prod.mk.inj er7
    obtain ⟨er10, er11⟩ := Prod.mk.inj er9
    obtain ⟨er12, er13⟩ := Prod.mk.inj er11
    obtain ⟨er14, er15⟩ := Prod.mk.inj er13
    obtain ⟨er16, er17⟩ := Prod.mk.inj er15
    obtain ⟨er18, er19⟩ := Prod.mk.inj er17
    obtain ⟨er20, er21⟩ := Prod.mk.inj er19
    obtain ⟨er22, er23⟩ := Prod.mk.inj er21
    obtain ⟨er24, er25⟩ := Prod.mk.inj er23
    clear hf er1 er3 er5 er7 er9 er11 er13 er15 er17 er19 er21 er23
    subst er0
    subst er2
    subst er4
    subst er6
    subst er8
    subst er10
    subst er12
    subst er14
    subst er16
    subst er18
    subst er20
    subst er22
    subst er24
    subst er25
    exact rt_i Cc hK hP hD hS dX4_plan_117
set_option maxHeartbeats 4000000 in
set_option maxRecDepth 100000 in
theorem bX4_plan_106_2 {p : Program} {l : Launch} {e : Env} {s : State} {m : MethodId} {args : Array Value} {below : List Frame} {meth : Method} {c : Code} {A : Nat → Prop} {D : va_G} {cI cS : ClassId} (a_d a_f a_t a_r a_z a_f_kind a_f_wet a_g a_g_kind a_g_wet a_r_cells a_r_hours a_r_cracked a_s0 a_s0_row a_s1 a_s1_row a_s2 a_s2_row a_s3 a_s3_row : Nat) (d_hour : Int32) (d_traced : Int32) (r_cells : Nat → Int32) (r_hours : Nat → Int32) (r_cracked : Nat → Int32) (r_count : Int32) (Cc : Cx p s m args meth c RX4 cX4_plan 10 (some .int)) (hK : va_K D classes (tysA cI cS) s) (hA : ∀ q, s.heap.size ≤ q → A q) (n : Nat) : ∀ (d_latestFault : Int32) (f_kind : Nat → Int32) (f_wet : Nat → Int32) (f_wide : Int32) (f_rows : Int32) (f_cells : Int32) (f_sun : Int32) (f_all : Int32) (f_firstColumn : Int32) (f_lastColumn : Int32) (t_hours : Int32) (t_opened : Int32) (t_firstWrong : Int32) (g_kind : Nat → Int32) (g_wet : Nat → Int32) (g_wide : Int32) (g_rows : Int32) (g_cells : Int32) (g_sun : Int32) (g_all : Int32) (g_firstColumn : Int32) (g_lastColumn : Int32) (S_row : Nat → Nat → Int32) (S_lane : Nat → Int32) (S_length : Nat → Int32) (x3 : Int32) (x4 : Int32) (x5 : Int32) (x8 : Int32) (r : Int32) (d_latestFault' : Int32) (t_hours' : Int32) (t_opened' : Int32) (t_firstWrong' : Int32) (g_kind' : Nat → Int32) (g_wet' : Nat → Int32) (g_wide' : Int32) (g_rows' : Int32) (g_cells' : Int32) (g_sun' : Int32) (g_all' : Int32) (g_firstColumn' : Int32) (g_lastColumn' : Int32), fX4_plan_106 n d_latestFault f_kind f_wet f_wide f_rows f_cells f_sun f_all f_firstColumn f_lastColumn t_hours t_opened t_firstWrong g_kind g_wet g_wide g_rows g_cells g_sun g_all g_firstColumn g_lastColumn S_row S_lane S_length 2 x3 x4 x5 x8 = some (r, d_latestFault', t_hours', t_opened', t_firstWrong', g_kind', g_wet', g_wide', g_rows', g_cells', g_sun', g_all', g_firstColumn', g_lastColumn') → ∀ (H : Heap) (locs : List Loc) (ls : Array Slot), va_P D classes (W_D cI cS a_d a_f a_t a_r a_z a_f_kind a_f_wet a_g a_g_kind a_g_wet a_r_cells a_r_hours a_r_cracked a_s0 a_s0_row a_s1 a_s1_row a_s2 a_s2_row a_s3 a_s3_row d_hour d_traced d_latestFault f_kind f_wet f_wide f_rows f_cells f_sun f_all f_firstColumn f_lastColumn t_hours t_opened t_firstWrong g_kind g_wet g_wide g_rows g_cells g_sun g_all g_firstColumn g_lastColumn r_cells r_hours r_cracked r_count S_row S_lane S_length) H → va_D A (W_D cI cS a_d a_f a_t a_r a_z a_f_kind a_f_wet a_g a_g_kind a_g_wet a_r_cells a_r_hours a_r_cracked a_s0 a_s0_row a_s1 a_s1_row a_s2 a_s2_row a_s3 a_s3_row d_hour d_traced d_latestFault f_kind f_wet f_wide f_rows f_cells f_sun f_all f_firstColumn f_lastColumn t_hours t_opened t_firstWrong g_kind g_wet g_wide g_rows g_cells g_sun g_all g_firstColumn g_lastColumn r_cells r_hours r_cracked r_count S_row S_lane S_length) → va_S A s.heap H locs → lv_has ls 10 [(0, .ref a_d), (3, .int x3), (4, .int x4), (5, .int x5), (7, .ref a_s2), (8, .int x8)] → W p l e (Rm 6) s m args below meth c H locs 0 0 (MQ below (QW D (tysA cI cS) (some (.int r)) (W_D cI cS a_d a_f a_t a_r a_z a_f_kind a_f_wet a_g a_g_kind a_g_wet a_r_cells a_r_hours a_r_cracked a_s0 a_s0_row a_s1 a_s1_row a_s2 a_s2_row a_s3 a_s3_row d_hour d_traced d_latestFault' f_kind f_wet f_wide f_rows f_cells f_sun f_all f_firstColumn f_lastColumn t_hours' t_opened' t_firstWrong' g_kind' g_wet' g_wide' g_rows' g_cells' g_sun' g_all' g_firstColumn' g_lastColumn' r_cells r_hours r_cracked r_count S_row S_lane S_length) A) args s 0 0 A) (F0 m 106 ls []) := by
  obtain ⟨hx, hb, hr, hml, hown, hts, hlk, hnw⟩ := id Cc
  intro d_latestFault f_kind f_wet f_wide f_rows f_cells f_sun f_all f_firstColumn f_lastColumn t_hours t_opened t_firstWrong g_kind g_wet g_wide g_rows g_cells g_sun g_all g_firstColumn g_lastColumn S_row S_lane S_length x3 x4 x5 x8 r d_latestFault' t_hours' t_opened' t_firstWrong' g_kind' g_wet' g_wide' g_rows' g_cells' g_sun' g_all' g_firstColumn' g_lastColumn' hf H locs ls hP hD hS hl
  unfold fX4_plan_106 at hf
  refine lv_iload hx hb dX4_plan_106 (lv_at hl 5 rfl) ?_
  refine lv_if_eq (tgt := 118) hx hb dX4_plan_108 (by decide) (fun hc36 => ?_) (fun hc36 => ?_)
  · replace hf := (if_pos hc36).symm.trans hf
    refine lv_aload_n hx hb dX4_plan_118 rfl (lv_at hl 0 rfl) ?_
    refine va_get (D := D) (ci := 4) (v := .ref a_f) (C := RX4) (T := TX4) (N := 7) hx hb hts inX4 hown hK hP 0 rfl rfl 0 (by decide) (hts _ tw_123) (fun _ h9 => h9) rfl dX4_plan_119 ?_
    obtain ⟨q122_1, hq37, hf⟩ := Option.bind_eq_some_iff.mp hf
    refine cV (ws' := (W_D cI cS a_d a_f a_t a_r a_z a_f_kind a_f_wet a_g a_g_kind a_g_wet a_r_cells a_r_hours a_r_cracked a_s0 a_s0_row a_s1 a_s1_row a_s2 a_s2_row a_s3 a_s3_row d_hour d_traced d_latestFault f_kind f_wet f_wide f_rows f_cells f_sun f_all f_firstColumn f_lastColumn t_hours t_opened t_firstWrong g_kind g_wet g_wide g_rows g_cells g_sun g_all g_firstColumn g_lastColumn r_cells r_hours r_cracked r_count S_row S_lane S_length)) (rest := []) (st1 := [.int q122_1]) Cc hK hA hP hD hS hl.1 (ctX0_isThere l D cI cS a_f a_f_kind a_f_wet f_kind f_wet f_wide f_rows f_cells f_sun f_all f_firstColumn f_lastColumn  n q122_1 hq37) ⟨tw_252, tw_249, tw_250, tw_251, tw_2⟩ mdX0_isThere ⟨rfl, rfl, Nat.le_of_ble_eq_true rfl, Nat.le_of_ble_eq_true rfl⟩ rfl dX4_plan_122 rfl (Nat.le_of_ble_eq_true rfl) ⟨Nat.zero_le _, Nat.zero_le _⟩ rfl rfl rfl [1, 2, 3] [0, 4, 5, 6, 7, 8, 9, 10, 11, 12, 13, 14, 15, 16, 17, 18, 19, 20] [0, 18, 19, 20, 1, 2, 3, 4, 5, 6, 7, 8, 9, 10, 11, 12, 13, 14, 15, 16, 17] rfl rfl (by decide) rfl (fun H locs hP hD hS => ?_)
    refine lv_if_ne (tgt := 131) hx hb dX4_plan_125 (by decide) (fun hc38 => ?_) (fun hc38 => ?_)
    · replace hf := (if_neg hc38).symm.trans hf
      refine lv_aload_n hx hb dX4_plan_131 rfl (lv_at hl 0 rfl) ?_
      refine lv_aload hx hb dX4_plan_132 (lv_at hl 4 rfl) ?_
      refine lv_iload_n hx hb dX4_plan_134 rfl (lv_at hl 1 rfl) ?_
      refine lv_iload hx hb dX4_plan_135 (lv_at hl 2 rfl) ?_
      obtain ⟨q137_1, hq39, hf⟩ := Option.bind_eq_some_iff.mp hf
      refine cV (ws' := (W_D cI cS a_d a_f a_t a_r a_z a_f_kind a_f_wet a_g a_g_kind a_g_wet a_r_cells a_r_hours a_r_cracked a_s0 a_s0_row a_s1 a_s1_row a_s2 a_s2_row a_s3 a_s3_row d_hour d_traced d_latestFault f_kind f_wet f_wide f_rows f_cells f_sun f_all f_firstColumn f_lastColumn t_hours t_opened t_firstWrong g_kind g_wet g_wide g_rows g_cells g_sun g_all g_firstColumn g_lastColumn r_cells r_hours r_cracked r_count S_row S_lane S_length)) (rest := []) (st1 := [.int q137_1]) Cc hK hA hP hD hS hl.1 (ctX4_refusalOfPairs l D cI cS a_d a_f a_t a_r a_z a_f_kind a_f_wet a_s2 a_s2_row d_hour d_traced d_latestFault f_kind f_wet f_wide f_rows f_cells f_sun f_all f_firstColumn f_lastColumn (S_row 2) (S_lane 2) (S_length 2) x3 x4 n q137_1 hq39) ⟨tw_316, tw_313, tw_315, tp_3, tw_1⟩ mdX4_refusalOfPairs ⟨rfl, rfl, Nat.le_of_ble_eq_true rfl, Nat.le_of_ble_eq_true rfl⟩ rfl dX4_plan_137 rfl (Nat.le_of_ble_eq_true rfl) ⟨Nat.zero_le _, Nat.zero_le _⟩ rfl rfl rfl [0, 1, 2, 3, 17, 18] [4, 5, 6, 7, 8, 9, 10, 11, 12, 13, 14, 15, 16, 19, 20] [15, 16, 17, 18, 0, 1, 2, 3, 4, 5, 6, 7, 8, 9, 10, 11, 12, 19, 20, 13, 14] rfl rfl (by decide) rfl (fun H locs hP hD hS => ?_)
      refine lv_istore (lv' := [(9, .int q137_1), (0, .ref a_d), (3, .int x3), (4, .int x4), (5, .int x5), (7, .ref a_s2), (8, .int x8)]) hx hb dX4_plan_140 hl (by decide) rfl (fun ls hl => ?_)
      refine lv_iload hx hb dX4_plan_142 (lv_at hl 0 rfl) ?_
      refine lv_if_eq (tgt := 150) hx hb dX4_plan_144 (by decide) (fun hc40 => ?_) (fun hc40 => ?_)
      · replace hf := (if_pos hc40).symm.trans hf
        refine lv_aload_n hx hb dX4_plan_150 rfl (lv_at hl 1 rfl) ?_
        refine va_get (D := D) (ci := 4) (v := .ref a_t) (C := RX4) (T := TX4) (N := 7) hx hb hts inX4 hown hK hP 0 rfl rfl 1 (by decide) (hts _ tw_124) (fun _ h9 => h9) rfl dX4_plan_151 ?_
        refine lv_aload_n hx hb dX4_plan_154 rfl (lv_at hl 1 rfl) ?_
        refine va_get (D := D) (ci := 4) (v := .ref a_f) (C := RX4) (T := TX4) (N := 7) hx hb hts inX4 hown hK hP 0 rfl rfl 0 (by decide) (hts _ tw_123) (fun _ h9 => h9) rfl dX4_plan_155 ?_
        refine lv_aload hx hb dX4_plan_158 (lv_at hl 5 rfl) ?_
        refine lv_iload_n hx hb dX4_plan_160 rfl (lv_at hl 2 rfl) ?_
        refine lv_iload hx hb dX4_plan_161 (lv_at hl 3 rfl) ?_
        obtain ⟨q163_1, hq41, hf⟩ := Option.bind_eq_some_iff.mp hf
        refine cV (ws' := (W_D cI cS a_d a_f a_t a_r a_z a_f_kind a_f_wet a_g a_g_kind a_g_wet a_r_cells a_r_hours a_r_cracked a_s0 a_s0_row a_s1 a_s1_row a_s2 a_s2_row a_s3 a_s3_row d_hour d_traced d_latestFault f_kind f_wet f_wide f_rows f_cells f_sun f_all f_firstColumn f_lastColumn q163_1.1 q163_1.2.1 q163_1.2.2.1 q163_1.2.2.2.1 q163_1.2.2.2.2.1 q163_1.2.2.2.2.2.1 q163_1.2.2.2.2.2.2.1 q163_1.2.2.2.2.2.2.2.1 q163_1.2.2.2.2.2.2.2.2.1 q163_1.2.2.2.2.2.2.2.2.2.1 q163_1.2.2.2.2.2.2.2.2.2.2.1 q163_1.2.2.2.2.2.2.2.2.2.2.2 r_cells r_hours r_cracked r_count S_row S_lane S_length)) (rest := []) (st1 := []) Cc hK hA hP hD hS hl.1 (ctX3_follow l D cI cS a_t a_g a_g_kind a_g_wet a_f a_f_kind a_f_wet a_s2 a_s2_row t_hours t_opened t_firstWrong g_kind g_wet g_wide g_rows g_cells g_sun g_all g_firstColumn g_lastColumn f_kind f_wet f_wide f_rows f_cells f_sun f_all f_firstColumn f_lastColumn (S_row 2) (S_lane 2) (S_length 2) x3 x4 n q163_1.1 q163_1.2.1 q163_1.2.2.1 q163_1.2.2.2.1 q163_1.2.2.2.2.1 q163_1.2.2.2.2.2.1 q163_1.2.2.2.2.2.2.1 q163_1.2.2.2.2.2.2.2.1 q163_1.2.2.2.2.2.2.2.2.1 q163_1.2.2.2.2.2.2.2.2.2.1 q163_1.2.2.2.2.2.2.2.2.2.2.1 q163_1.2.2.2.2.2.2.2.2.2.2.2 hq41) ⟨tw_320, tw_317, tw_318, tw_319, tw_3⟩ mdX3_follow ⟨rfl, rfl, Nat.le_of_ble_eq_true rfl, Nat.le_of_ble_eq_true rfl⟩ rfl dX4_plan_163 rfl (Nat.le_of_ble_eq_true rfl) ⟨Nat.zero_le _, Nat.zero_le _⟩ rfl rfl rfl [4, 5, 6, 7, 1, 2, 3, 17, 18] [0, 8, 9, 10, 11, 12, 13, 14, 15, 16, 19, 20] [0, 16, 17, 18, 12, 13, 14, 15, 1, 2, 3, 4, 5, 6, 7, 8, 9, 19, 20, 10, 11] rfl rfl (by decide) rfl (fun H locs hP hD hS => ?_)
        refine lv_aload_n hx hb dX4_plan_166 rfl (lv_at hl 1 rfl) ?_
        refine va_get (D := D) (ci := 4) (v := .ref a_t) (C := RX4) (T := TX4) (N := 7) hx hb hts inX4 hown hK hP 0 rfl rfl 1 (by decide) (hts _ tw_124) (fun _ h9 => h9) rfl dX4_plan_167 ?_
        refine lv_iload hx hb dX4_plan_170 (lv_at hl 4 rfl) ?_
        obtain ⟨q172_2, hq42, hf⟩ := Option.bind_eq_some_iff.mp hf
        refine cV (ws' := (W_D cI cS a_d a_f a_t a_r a_z a_f_kind a_f_wet a_g a_g_kind a_g_wet a_r_cells a_r_hours a_r_cracked a_s0 a_s0_row a_s1 a_s1_row a_s2 a_s2_row a_s3 a_s3_row d_hour d_traced d_latestFault f_kind f_wet f_wide f_rows f_cells f_sun f_all f_firstColumn f_lastColumn q163_1.1 q163_1.2.1 q163_1.2.2.1 q163_1.2.2.2.1 q163_1.2.2.2.2.1 q163_1.2.2.2.2.2.1 q163_1.2.2.2.2.2.2.1 q163_1.2.2.2.2.2.2.2.1 q163_1.2.2.2.2.2.2.2.2.1 q163_1.2.2.2.2.2.2.2.2.2.1 q163_1.2.2.2.2.2.2.2.2.2.2.1 q163_1.2.2.2.2.2.2.2.2.2.2.2 r_cells r_hours r_cracked r_count S_row S_lane S_length)) (rest := []) (st1 := [.int q172_2]) Cc hK hA hP hD hS hl.1 (ctX3_answerTo l D cI cS a_t a_g a_g_kind a_g_wet q163_1.1 q163_1.2.1 q163_1.2.2.1 q163_1.2.2.2.1 q163_1.2.2.2.2.1 q163_1.2.2.2.2.2.1 q163_1.2.2.2.2.2.2.1 q163_1.2.2.2.2.2.2.2.1 q163_1.2.2.2.2.2.2.2.2.1 q163_1.2.2.2.2.2.2.2.2.2.1 q163_1.2.2.2.2.2.2.2.2.2.2.1 q163_1.2.2.2.2.2.2.2.2.2.2.2 x5 n q172_2 hq42) ⟨tw_341, tw_338, tw_339, tw_340, tw_3⟩ mdX3_answerTo ⟨rfl, rfl, Nat.le_of_ble_eq_true rfl, Nat.le_of_ble_eq_true rfl⟩ rfl dX4_plan_172 rfl (Nat.le_of_ble_eq_true rfl) ⟨Nat.zero_le _, Nat.zero_le _⟩ rfl rfl rfl [4, 5, 6, 7] [0, 1, 2, 3, 8, 9, 10, 11, 12, 13, 14, 15, 16, 17, 18, 19, 20] [0, 1, 2, 3, 17, 18, 19, 20, 4, 5, 6, 7, 8, 9, 10, 11, 12, 13, 14, 15, 16] rfl rfl (by decide) rfl (fun H locs hP hD hS => ?_)
        replace hf := Option.some.inj hf
        obtain ⟨er0, er1⟩ := Prod.mk.inj hf
        obtain ⟨er2, er3⟩ := Prod.mk.inj er1
        obtain ⟨er4, er5⟩ := Prod.mk.inj er3
        obtain ⟨er6, er7⟩ := Prod.mk.inj er5
        obtain ⟨er8, er9⟩ := Prod.mk.inj er7
        obtain ⟨er10, er11⟩ := Prod.mk.inj er9
        obtain ⟨er12, er13⟩ := Prod.mk.inj er11
        obtain ⟨er14, er15⟩ := Prod.mk.inj er13
        obtain ⟨er16, er17⟩ := Prod.mk.inj er15
        obtain ⟨er18, er19⟩ := Prod.mk.inj er17
        obtain ⟨er20, er21⟩ := Prod.mk.inj er19
        obtain ⟨er22, er23⟩ := Prod.mk.inj er21
        obtain ⟨er24, er25⟩ := Prod.mk.inj er23
        clear hf er1 er3 er5 er7 er9 er11 er13 er15 er17 er19 er21 er23
        subst er0
        subst er2
        subst er4
        subst er6
        subst er8
        subst er10
        subst er12
        subst er14
        subst er16
        subst er18
        subst er20
        subst er22
        subst er24
        subst er25
        exact rt_i Cc hK hP hD hS dX4_plan_175
      · replace hf := (if_neg hc40).symm.trans hf
        refine lv_iload hx hb dX4_plan_147 (lv_at hl 0 rfl) ?_
        replace hf := Option.some.inj hf
        obtain ⟨er0, er1⟩ := Prod.mk.inj hf
        obtain ⟨er2, er3⟩ := Prod.mk.inj er1
        obtain ⟨er4, er5⟩ := Prod.mk.inj er3
        obtain ⟨er6, er7⟩ := Prod.mk.inj er5
        obtain ⟨er8, er9⟩ := Prod.mk.inj er7
        obtain ⟨er10, er11⟩ := Prod.mk.inj er9
        obtain ⟨er12, er13⟩ := Prod.mk.inj er11
        obtain ⟨er14, er15⟩ := Prod.mk.inj er13
        obtain ⟨er16, er17⟩ := Prod.mk.inj er15
        obtain ⟨er18, er19⟩ := Prod.mk.inj er17
        obtain ⟨er20, er21⟩ := Prod.mk.inj er19
        obtain ⟨er22, er23⟩ := Prod.mk.inj er21
        obtain ⟨er24, er25⟩ := Prod.mk.inj er23
        clear hf er1 er3 er5 er7 er9 er11 er13 er15 er17 er19 er21 er23
        subst er0
        subst er2
        subst er4
        subst er6
        subst er8
        subst er10
        subst er12
        subst er14
        subst er16
        subst er18
        subst er20
        subst er22
        subst er24
        subst er25
        exact rt_i Cc hK hP hD hS dX4_plan_149
    · replace hf := (if_pos hc38).symm.trans hf
      refine lv_bipush (v := (-3 : Int32)) hx hb dX4_plan_128 (by decide) ?_
      replace hf := Option.some.inj hf
      obtain ⟨er0, er1⟩ := Prod.mk.inj hf
      obtain ⟨er2, er3⟩ := Prod.mk.inj er1
      obtain ⟨er4, er5⟩ := Prod.mk.inj er3
      obtain ⟨er6, er7⟩ := Prod.mk.inj er5
      obtain ⟨er8, er9⟩ := Prod.mk.inj er7
      obtain ⟨er10, er11⟩ := Prod.mk.inj er9
      obtain ⟨er12, er13⟩ := Prod.mk.inj er11
      obtain ⟨er14, er15⟩ := Prod.mk.inj er13
      obtain ⟨er16, er17⟩ := Prod.mk.inj er15
      obtain ⟨er18, er19⟩ := Prod.mk.inj er17
      obtain ⟨er20, er21⟩ := Prod.mk.inj er19
      obtain ⟨er22, er23⟩ := Prod.mk.inj er21
      obtain ⟨er24, er25⟩ := Prod.mk.inj er23
      clear hf er1 er3 er5 er7 er9 er11 er13 er15 er17 er19 er21 er23
      subst er0
      subst er2
      subst er4
      subst er6
      subst er8
      subst er10
      subst er12
      subst er14
      subst er16
      subst er18
      subst er20
      subst er22
      subst er24
      subst er25
      exact rt_i Cc hK hP hD hS dX4_plan_130
  · replace hf := (if_neg hc36).symm.trans hf
    refine lv_aload_n hx hb dX4_plan_111 rfl (lv_at hl 0 rfl) ?_
    refine lv_iload hx hb dX4_plan_112 (lv_at hl 5 rfl) ?_
    obtain ⟨q114_1, hq43, hf⟩ := Option.bind_eq_some_iff.mp hf
    refine cV (ws' := (W_D cI cS a_d a_f a_t a_r a_z a_f_kind a_f_wet a_g a_g_kind a_g_wet a_r_cells a_r_hours a_r_cracked a_s0 a_s0_row a_s1 a_s1_row a_s2 a_s2_row a_s3 a_s3_row d_hour d_traced q114_1.2 f_kind f_wet f_wide f_rows f_cells f_sun f_all f_firstColumn f_lastColumn t_hours t_opened t_firstWrong g_kind g_wet g_wide g_rows g_cells g_sun g_all g_firstColumn g_lastColumn r_cells r_hours r_cracked r_count S_row S_lane S_length)) (rest := []) (st1 := [.int q114_1.1]) Cc hK hA hP hD hS hl.1 (ctX4_faulted l D cI cS a_d a_f a_t a_r a_z d_hour d_traced d_latestFault x8 n q114_1.1 q114_1.2 hq43) ⟨tw_173, tw_170, tw_172, tp_0, tw_1⟩ mdX4_faulted ⟨rfl, rfl, Nat.le_of_ble_eq_true rfl, Nat.le_of_ble_eq_true rfl⟩ rfl dX4_plan_114 rfl (Nat.le_of_ble_eq_true rfl) ⟨Nat.zero_le _, Nat.zero_le _⟩ rfl rfl rfl [0] [1, 2, 3, 4, 5, 6, 7, 8, 9, 10, 11, 12, 13, 14, 15, 16, 17, 18, 19, 20] [20, 0, 1, 2, 3, 4, 5, 6, 7, 8, 9, 10, 11, 12, 13, 14, 15, 16, 17, 18, 19] rfl rfl (by decide) rfl (fun H locs hP hD hS => ?_)
    replace hf := Option.some.inj hf
    obtain ⟨er0, er1⟩ := Prod.mk.inj hf
    obtain ⟨er2, er3⟩ := Prod.mk.inj er1
    obtain ⟨er4, er5⟩ := Prod.mk.inj er3
    obtain ⟨er6, er7⟩ := Prod.mk.inj er5
    obtain ⟨er8, er9⟩ := Prod.mk.inj er7
    obtain ⟨er10, er11⟩ := Prod.mk.inj er9
    obtain ⟨er12, er13⟩ := Prod.mk.inj er11
    obtain ⟨er14, er15⟩ := Prod.mk.inj er13
    obtain ⟨er16, er17⟩ := Prod.mk.inj er15
    obtain ⟨er18, er19⟩ := Prod.mk.inj er17
    obtain ⟨er20, er21⟩ := Prod.mk.inj er19
    obtain ⟨er22, er23⟩ := Prod.mk.inj er21
    obtain ⟨er24, er25⟩ := Prod.mk.inj er23
    clear hf er1 er3 er5 er7 er9 er11 er13 er15 er17 er19 er21 er23
    subst er0
    subst er2
    subst er4
    subst er6
    subst er8
    subst er10
    subst er12
    subst er14
    subst er16
    subst er18
    subst er20
    subst er22
    subst er24
    subst er25
    exact rt_i Cc hK hP hD hS dX4_plan_117
set_option maxHeartbeats 4000000 in
set_option maxRecDepth 100000 in
theorem bX4_plan_106_3 {p : Program} {l : Launch} {e : Env} {s : State} {m : MethodId} {args : Array Value} {below : List Frame} {meth : Method} {c : Code} {A : Nat → Prop} {D : va_G} {cI cS : ClassId} (a_d a_f a_t a_r a_z a_f_kind a_f_wet a_g a_g_kind a_g_wet a_r_cells a_r_hours a_r_cracked a_s0 a_s0_row a_s1 a_s1_row a_s2 a_s2_row a_s3 a_s3_row : Nat) (d_hour : Int32) (d_traced : Int32) (r_cells : Nat → Int32) (r_hours : Nat → Int32) (r_cracked : Nat → Int32) (r_count : Int32) (Cc : Cx p s m args meth c RX4 cX4_plan 10 (some .int)) (hK : va_K D classes (tysA cI cS) s) (hA : ∀ q, s.heap.size ≤ q → A q) (n : Nat) : ∀ (d_latestFault : Int32) (f_kind : Nat → Int32) (f_wet : Nat → Int32) (f_wide : Int32) (f_rows : Int32) (f_cells : Int32) (f_sun : Int32) (f_all : Int32) (f_firstColumn : Int32) (f_lastColumn : Int32) (t_hours : Int32) (t_opened : Int32) (t_firstWrong : Int32) (g_kind : Nat → Int32) (g_wet : Nat → Int32) (g_wide : Int32) (g_rows : Int32) (g_cells : Int32) (g_sun : Int32) (g_all : Int32) (g_firstColumn : Int32) (g_lastColumn : Int32) (S_row : Nat → Nat → Int32) (S_lane : Nat → Int32) (S_length : Nat → Int32) (x3 : Int32) (x4 : Int32) (x5 : Int32) (x8 : Int32) (r : Int32) (d_latestFault' : Int32) (t_hours' : Int32) (t_opened' : Int32) (t_firstWrong' : Int32) (g_kind' : Nat → Int32) (g_wet' : Nat → Int32) (g_wide' : Int32) (g_rows' : Int32) (g_cells' : Int32) (g_sun' : Int32) (g_all' : Int32) (g_firstColumn' : Int32) (g_lastColumn' : Int32), fX4_plan_106 n d_latestFault f_kind f_wet f_wide f_rows f_cells f_sun f_all f_firstColumn f_lastColumn t_hours t_opened t_firstWrong g_kind g_wet g_wide g_rows g_cells g_sun g_all g_firstColumn g_lastColumn S_row S_lane S_length 3 x3 x4 x5 x8 = some (r, d_latestFault', t_hours', t_opened', t_firstWrong', g_kind', g_wet', g_wide', g_rows', g_cells', g_sun', g_all', g_firstColumn', g_lastColumn') → ∀ (H : Heap) (locs : List Loc) (ls : Array Slot), va_P D classes (W_D cI cS a_d a_f a_t a_r a_z a_f_kind a_f_wet a_g a_g_kind a_g_wet a_r_cells a_r_hours a_r_cracked a_s0 a_s0_row a_s1 a_s1_row a_s2 a_s2_row a_s3 a_s3_row d_hour d_traced d_latestFault f_kind f_wet f_wide f_rows f_cells f_sun f_all f_firstColumn f_lastColumn t_hours t_opened t_firstWrong g_kind g_wet g_wide g_rows g_cells g_sun g_all g_firstColumn g_lastColumn r_cells r_hours r_cracked r_count S_row S_lane S_length) H → va_D A (W_D cI cS a_d a_f a_t a_r a_z a_f_kind a_f_wet a_g a_g_kind a_g_wet a_r_cells a_r_hours a_r_cracked a_s0 a_s0_row a_s1 a_s1_row a_s2 a_s2_row a_s3 a_s3_row d_hour d_traced d_latestFault f_kind f_wet f_wide f_rows f_cells f_sun f_all f_firstColumn f_lastColumn t_hours t_opened t_firstWrong g_kind g_wet g_wide g_rows g_cells g_sun g_all g_firstColumn g_lastColumn r_cells r_hours r_cracked r_count S_row S_lane S_length) → va_S A s.heap H locs → lv_has ls 10 [(0, .ref a_d), (3, .int x3), (4, .int x4), (5, .int x5), (7, .ref a_s3), (8, .int x8)] → W p l e (Rm 6) s m args below meth c H locs 0 0 (MQ below (QW D (tysA cI cS) (some (.int r)) (W_D cI cS a_d a_f a_t a_r a_z a_f_kind a_f_wet a_g a_g_kind a_g_wet a_r_cells a_r_hours a_r_cracked a_s0 a_s0_row a_s1 a_s1_row a_s2 a_s2_row a_s3 a_s3_row d_hour d_traced d_latestFault' f_kind f_wet f_wide f_rows f_cells f_sun f_all f_firstColumn f_lastColumn t_hours' t_opened' t_firstWrong' g_kind' g_wet' g_wide' g_rows' g_cells' g_sun' g_all' g_firstColumn' g_lastColumn' r_cells r_hours r_cracked r_count S_row S_lane S_length) A) args s 0 0 A) (F0 m 106 ls []) := by
  obtain ⟨hx, hb, hr, hml, hown, hts, hlk, hnw⟩ := id Cc
  intro d_latestFault f_kind f_wet f_wide f_rows f_cells f_sun f_all f_firstColumn f_lastColumn t_hours t_opened t_firstWrong g_kind g_wet g_wide g_rows g_cells g_sun g_all g_firstColumn g_lastColumn S_row S_lane S_length x3 x4 x5 x8 r d_latestFault' t_hours' t_opened' t_firstWrong' g_kind' g_wet' g_wide' g_rows' g_cells' g_sun' g_all' g_firstColumn' g_lastColumn' hf H locs ls hP hD hS hl
  unfold fX4_plan_106 at hf
  refine lv_iload hx hb dX4_plan_106 (lv_at hl 5 rfl) ?_
  refine lv_if_eq (tgt := 118) hx hb dX4_plan_108 (by decide) (fun hc48 => ?_) (fun hc48 => ?_)
  · replace hf := (if_pos hc48).symm.trans hf
    refine lv_aload_n hx hb dX4_plan_118 rfl (lv_at hl 0 rfl) ?_
    refine va_get (D := D) (ci := 4) (v := .ref a_f) (C := RX4) (T := TX4) (N := 7) hx hb hts inX4 hown hK hP 0 rfl rfl 0 (by decide) (hts _ tw_123) (fun _ h9 => h9) rfl dX4_plan_119 ?_
    obtain ⟨q122_1, hq49, hf⟩ := Option.bind_eq_some_iff.mp hf
    refine cV (ws' := (W_D cI cS a_d a_f a_t a_r a_z a_f_kind a_f_wet a_g a_g_kind a_g_wet a_r_cells a_r_hours a_r_cracked a_s0 a_s0_row a_s1 a_s1_row a_s2 a_s2_row a_s3 a_s3_row d_hour d_traced d_latestFault f_kind f_wet f_wide f_rows f_cells f_sun f_all f_firstColumn f_lastColumn t_hours t_opened t_firstWrong g_kind g_wet g_wide g_rows g_cells g_sun g_all g_firstColumn g_lastColumn r_cells r_hours r_cracked r_count S_row S_lane S_length)) (rest := []) (st1 := [.int q122_1]) Cc hK hA hP hD hS hl.1 (ctX0_isThere l D cI cS a_f a_f_kind a_f_wet f_kind f_wet f_wide f_rows f_cells f_sun f_all f_firstColumn f_lastColumn  n q122_1 hq49) ⟨tw_252, tw_249, tw_250, tw_251, tw_2⟩ mdX0_isThere ⟨rfl, rfl, Nat.le_of_ble_eq_true rfl, Nat.le_of_ble_eq_true rfl⟩ rfl dX4_plan_122 rfl (Nat.le_of_ble_eq_true rfl) ⟨Nat.zero_le _, Nat.zero_le _⟩ rfl rfl rfl [1, 2, 3] [0, 4, 5, 6, 7, 8, 9, 10, 11, 12, 13, 14, 15, 16, 17, 18, 19, 20] [0, 18, 19, 20, 1, 2, 3, 4, 5, 6, 7, 8, 9, 10, 11, 12, 13, 14, 15, 16, 17] rfl rfl (by decide) rfl (fun H locs hP hD hS => ?_)
    refine lv_if_ne (tgt := 131) hx hb dX4_plan_125 (by decide) (fun hc50 => ?_) (fun hc50 => ?_)
    · replace hf := (if_neg hc50).symm.trans hf
      refine lv_aload_n hx hb dX4_plan_131 rfl (lv_at hl 0 rfl) ?_
      refine lv_aload hx hb dX4_plan_132 (lv_at hl 4 rfl) ?_
      refine lv_iload_n hx hb dX4_plan_134 rfl (lv_at hl 1 rfl) ?_
      refine lv_iload hx hb dX4_plan_135 (lv_at hl 2 rfl) ?_
      obtain ⟨q137_1, hq51, hf⟩ := Option.bind_eq_some_iff.mp hf
      refine cV (ws' := (W_D cI cS a_d a_f a_t a_r a_z a_f_kind a_f_wet a_g a_g_kind a_g_wet a_r_cells a_r_hours a_r_cracked a_s0 a_s0_row a_s1 a_s1_row a_s2 a_s2_row a_s3 a_s3_row d_hour d_traced d_latestFault f_kind f_wet f_wide f_rows f_cells f_sun f_all f_firstColumn f_lastColumn t_hours t_opened t_firstWrong g_kind g_wet g_wide g_rows g_cells g_sun g_all g_firstColumn g_lastColumn r_cells r_hours r_cracked r_count S_row S_lane S_length)) (rest := []) (st1 := [.int q137_1]) Cc hK hA hP hD hS hl.1 (ctX4_refusalOfPairs l D cI cS a_d a_f a_t a_r a_z a_f_kind a_f_wet a_s3 a_s3_row d_hour d_traced d_latestFault f_kind f_wet f_wide f_rows f_cells f_sun f_all f_firstColumn f_lastColumn (S_row 3) (S_lane 3) (S_length 3) x3 x4 n q137_1 hq51) ⟨tw_316, tw_313, tw_315, tp_3, tw_1⟩ mdX4_refusalOfPairs ⟨rfl, rfl, Nat.le_of_ble_eq_true rfl, Nat.le_of_ble_eq_true rfl⟩ rfl dX4_plan_137 rfl (Nat.le_of_ble_eq_true rfl) ⟨Nat.zero_le _, Nat.zero_le _⟩ rfl rfl rfl [0, 1, 2, 3, 19, 20] [4, 5, 6, 7, 8, 9, 10, 11, 12, 13, 14, 15, 16, 17, 18] [15, 16, 17, 18, 0, 1, 2, 3, 4, 5, 6, 7, 8, 9, 10, 11, 12, 13, 14, 19, 20] rfl rfl (by decide) rfl (fun H locs hP hD hS => ?_)
      refine lv_istore (lv' := [(9, .int q137_1), (0, .ref a_d), (3, .int x3), (4, .int x4), (5, .int x5), (7, .ref a_s3), (8, .int x8)]) hx hb dX4_plan_140 hl (by decide) rfl (fun ls hl => ?_)
      refine lv_iload hx hb dX4_plan_142 (lv_at hl 0 rfl) ?_
      refine lv_if_eq (tgt := 150) hx hb dX4_plan_144 (by decide) (fun hc52 => ?_) (fun hc52 => ?_)
      · replace hf := (if_pos hc52).symm.trans hf
        refine lv_aload_n hx hb dX4_plan_150 rfl (lv_at hl 1 rfl) ?_
        refine va_get (D := D) (ci := 4) (v := .ref a_t) (C := RX4) (T := TX4) (N := 7) hx hb hts inX4 hown hK hP 0 rfl rfl 1 (by decide) (hts _ tw_124) (fun _ h9 => h9) rfl dX4_plan_151 ?_
        refine lv_aload_n hx hb dX4_plan_154 rfl (lv_at hl 1 rfl) ?_
        refine va_get (D := D) (ci := 4) (v := .ref a_f) (C := RX4) (T := TX4) (N := 7) hx hb hts inX4 hown hK hP 0 rfl rfl 0 (by decide) (hts _ tw_123) (fun _ h9 => h9) rfl dX4_plan_155 ?_
        refine lv_aload hx hb dX4_plan_158 (lv_at hl 5 rfl) ?_
        refine lv_iload_n hx hb dX4_plan_160 rfl (lv_at hl 2 rfl) ?_
        refine lv_iload hx hb dX4_plan_161 (lv_at hl 3 rfl) ?_
        obtain ⟨q163_1, hq53, hf⟩ := Option.bind_eq_some_iff.mp hf
        refine cV (ws' := (W_D cI cS a_d a_f a_t a_r a_z a_f_kind a_f_wet a_g a_g_kind a_g_wet a_r_cells a_r_hours a_r_cracked a_s0 a_s0_row a_s1 a_s1_row a_s2 a_s2_row a_s3 a_s3_row d_hour d_traced d_latestFault f_kind f_wet f_wide f_rows f_cells f_sun f_all f_firstColumn f_lastColumn q163_1.1 q163_1.2.1 q163_1.2.2.1 q163_1.2.2.2.1 q163_1.2.2.2.2.1 q163_1.2.2.2.2.2.1 q163_1.2.2.2.2.2.2.1 q163_1.2.2.2.2.2.2.2.1 q163_1.2.2.2.2.2.2.2.2.1 q163_1.2.2.2.2.2.2.2.2.2.1 q163_1.2.2.2.2.2.2.2.2.2.2.1 q163_1.2.2.2.2.2.2.2.2.2.2.2 r_cells r_hours r_cracked r_count S_row S_lane S_length)) (rest := []) (st1 := []) Cc hK hA hP hD hS hl.1 (ctX3_follow l D cI cS a_t a_g a_g_kind a_g_wet a_f a_f_kind a_f_wet a_s3 a_s3_row t_hours t_opened t_firstWrong g_kind g_wet g_wide g_rows g_cells g_sun g_all g_firstColumn g_lastColumn f_kind f_wet f_wide f_rows f_cells f_sun f_all f_firstColumn f_lastColumn (S_row 3) (S_lane 3) (S_length 3) x3 x4 n q163_1.1 q163_1.2.1 q163_1.2.2.1 q163_1.2.2.2.1 q163_1.2.2.2.2.1 q163_1.2.2.2.2.2.1 q163_1.2.2.2.2.2.2.1 q163_1.2.2.2.2.2.2.2.1 q163_1.2.2.2.2.2.2.2.2.1 q163_1.2.2.2.2.2.2.2.2.2.1 q163_1.2.2.2.2.2.2.2.2.2.2.1 q163_1.2.2.2.2.2.2.2.2.2.2.2 hq53) ⟨tw_320, tw_317, tw_318, tw_319, tw_3⟩ mdX3_follow ⟨rfl, rfl, Nat.le_of_ble_eq_true rfl, Nat.le_of_ble_eq_true rfl⟩ rfl dX4_plan_163 rfl (Nat.le_of_ble_eq_true rfl) ⟨Nat.zero_le _, Nat.zero_le _⟩ rfl rfl rfl [4, 5, 6, 7, 1, 2, 3, 19, 20] [0, 8, 9, 10, 11, 12, 13, 14, 15, 16, 17, 18] [0, 16, 17, 18, 12, 13, 14, 15, 1, 2, 3, 4, 5, 6, 7, 8, 9, 10, 11, 19, 20] rfl rfl (by decide) rfl (fun H locs hP hD hS => ?_)
        refine lv_aload_n hx hb dX4_plan_166 rfl (lv_at hl 1 rfl) ?_
        refine va_get (D := D) (ci := 4) (v := .ref a_t) (C := RX4) (T := TX4) (N := 7) hx hb hts inX4 hown hK hP 0 rfl rfl 1 (by decide) (hts _ tw_124) (fun _ h9 => h9) rfl dX4_plan_167 ?_
        refine lv_iload hx hb dX4_plan_170 (lv_at hl 4 rfl) ?_
        obtain ⟨q172_2, hq54, hf⟩ := Option.bind_eq_some_iff.mp hf
        refine cV (ws' := (W_D cI cS a_d a_f a_t a_r a_z a_f_kind a_f_wet a_g a_g_kind a_g_wet a_r_cells a_r_hours a_r_cracked a_s0 a_s0_row a_s1 a_s1_row a_s2 a_s2_row a_s3 a_s3_row d_hour d_traced d_latestFault f_kind f_wet f_wide f_rows f_cells f_sun f_all f_firstColumn f_lastColumn q163_1.1 q163_1.2.1 q163_1.2.2.1 q163_1.2.2.2.1 q163_1.2.2.2.2.1 q163_1.2.2.2.2.2.1 q163_1.2.2.2.2.2.2.1 q163_1.2.2.2.2.2.2.2.1 q163_1.2.2.2.2.2.2.2.2.1 q163_1.2.2.2.2.2.2.2.2.2.1 q163_1.2.2.2.2.2.2.2.2.2.2.1 q163_1.2.2.2.2.2.2.2.2.2.2.2 r_cells r_hours r_cracked r_count S_row S_lane S_length)) (rest := []) (st1 := [.int q172_2]) Cc hK hA hP hD hS hl.1 (ctX3_answerTo l D cI cS a_t a_g a_g_kind a_g_wet q163_1.1 q163_1.2.1 q163_1.2.2.1 q163_1.2.2.2.1 q163_1.2.2.2.2.1 q163_1.2.2.2.2.2.1 q163_1.2.2.2.2.2.2.1 q163_1.2.2.2.2.2.2.2.1 q163_1.2.2.2.2.2.2.2.2.1 q163_1.2.2.2.2.2.2.2.2.2.1 q163_1.2.2.2.2.2.2.2.2.2.2.1 q163_1.2.2.2.2.2.2.2.2.2.2.2 x5 n q172_2 hq54) ⟨tw_341, tw_338, tw_339, tw_340, tw_3⟩ mdX3_answerTo ⟨rfl, rfl, Nat.le_of_ble_eq_true rfl, Nat.le_of_ble_eq_true rfl⟩ rfl dX4_plan_172 rfl (Nat.le_of_ble_eq_true rfl) ⟨Nat.zero_le _, Nat.zero_le _⟩ rfl rfl rfl [4, 5, 6, 7] [0, 1, 2, 3, 8, 9, 10, 11, 12, 13, 14, 15, 16, 17, 18, 19, 20] [0, 1, 2, 3, 17, 18, 19, 20, 4, 5, 6, 7, 8, 9, 10, 11, 12, 13, 14, 15, 16] rfl rfl (by decide) rfl (fun H locs hP hD hS => ?_)
        replace hf := Option.some.inj hf
        obtain ⟨er0, er1⟩ := Prod.mk.inj hf
        obtain ⟨er2, er3⟩ := Prod.mk.inj er1
        obtain ⟨er4, er5⟩ := Prod.mk.inj er3
        obtain ⟨er6, er7⟩ := Prod.mk.inj er5
        obtain ⟨er8, er9⟩ := Prod.mk.inj er7
        obtain ⟨er10, er11⟩ := Prod.mk.inj er9
        obtain ⟨er12, er13⟩ := Prod.mk.inj er11
        obtain ⟨er14, er15⟩ := Prod.mk.inj er13
        obtain ⟨er16, er17⟩ := Prod.mk.inj er15
        obtain ⟨er18, er19⟩ := Prod.mk.inj er17
        obtain ⟨er20, er21⟩ := Prod.mk.inj er19
        obtain ⟨er22, er23⟩ := Prod.mk.inj er21
        obtain ⟨er24, er25⟩ := Prod.mk.inj er23
        clear hf er1 er3 er5 er7 er9 er11 er13 er15 er17 er19 er21 er23
        subst er0
        subst er2
        subst er4
        subst er6
        subst er8
        subst er10
        subst er12
        subst er14
        subst er16
        subst er18
        subst er20
        subst er22
        subst er24
        subst er25
        exact rt_i Cc hK hP hD hS dX4_plan_175
      · replace hf := (if_neg hc52).symm.trans hf
        refine lv_iload hx hb dX4_plan_147 (lv_at hl 0 rfl) ?_
        replace hf := Option.some.inj hf
        obtain ⟨er0, er1⟩ := Prod.mk.inj hf
        obtain ⟨er2, er3⟩ := Prod.mk.inj er1
        obtain ⟨er4, er5⟩ := Prod.mk.inj er3
        obtain ⟨er6, er7⟩ := Prod.mk.inj er5
        obtain ⟨er8, er9⟩ := Prod.mk.inj er7
        obtain ⟨er10, er11⟩ := Prod.mk.inj er9
        obtain ⟨er12, er13⟩ := Prod.mk.inj er11
        obtain ⟨er14, er15⟩ := Prod.mk.inj er13
        obtain ⟨er16, er17⟩ := Prod.mk.inj er15
        obtain ⟨er18, er19⟩ := Prod.mk.inj er17
        obtain ⟨er20, er21⟩ := Prod.mk.inj er19
        obtain ⟨er22, er23⟩ := Prod.mk.inj er21
        obtain ⟨er24, er25⟩ := Prod.mk.inj er23
        clear hf er1 er3 er5 er7 er9 er11 er13 er15 er17 er19 er21 er23
        subst er0
        subst er2
        subst er4
        subst er6
        subst er8
        subst er10
        subst er12
        subst er14
        subst er16
        subst er18
        subst er20
        subst er22
        subst er24
        subst er25
        exact rt_i Cc hK hP hD hS dX4_plan_149
    · replace hf := (if_pos hc50).symm.trans hf
      refine lv_bipush (v := (-3 : Int32)) hx hb dX4_plan_128 (by decide) ?_
      replace hf := Option.some.inj hf
      obtain ⟨er0, er1⟩ := Prod.mk.inj hf
      obtain ⟨er2, er3⟩ := Prod.mk.inj er1
      obtain ⟨er4, er5⟩ := Prod.mk.inj er3
      obtain ⟨er6, er7⟩ := Prod.mk.inj er5
      obtain ⟨er8, er9⟩ := Prod.mk.inj er7
      obtain ⟨er10, er11⟩ := Prod.mk.inj er9
      obtain ⟨er12, er13⟩ := Prod.mk.inj er11
      obtain ⟨er14, er15⟩ := Prod.mk.inj er13
      obtain ⟨er16, er17⟩ := Prod.mk.inj er15
      obtain ⟨er18, er19⟩ := Prod.mk.inj er17
      obtain ⟨er20, er21⟩ := Prod.mk.inj er19
      obtain ⟨er22, er23⟩ := Prod.mk.inj er21
      obtain ⟨er24, er25⟩ := Prod.mk.inj er23
      clear hf er1 er3 er5 er7 er9 er11 er13 er15 er17 er19 er21 er23
      subst er0
      subst er2
      subst er4
      subst er6
      subst er8
      subst er10
      subst er12
      subst er14
      subst er16
      subst er18
      subst er20
      subst er22
      subst er24
      subst er25
      exact rt_i Cc hK hP hD hS dX4_plan_130
  · replace hf := (if_neg hc48).symm.trans hf
    refine lv_aload_n hx hb dX4_plan_111 rfl (lv_at hl 0 rfl) ?_
    refine lv_iload hx hb dX4_plan_112 (lv_at hl 5 rfl) ?_
    obtain ⟨q114_1, hq55, hf⟩ := Option.bind_eq_some_iff.mp hf
    refine cV (ws' := (W_D cI cS a_d a_f a_t a_r a_z a_f_kind a_f_wet a_g a_g_kind a_g_wet a_r_cells a_r_hours a_r_cracked a_s0 a_s0_row a_s1 a_s1_row a_s2 a_s2_row a_s3 a_s3_row d_hour d_traced q114_1.2 f_kind f_wet f_wide f_rows f_cells f_sun f_all f_firstColumn f_lastColumn t_hours t_opened t_firstWrong g_kind g_wet g_wide g_rows g_cells g_sun g_all g_firstColumn g_lastColumn r_cells r_hours r_cracked r_count S_row S_lane S_length)) (rest := []) (st1 := [.int q114_1.1]) Cc hK hA hP hD hS hl.1 (ctX4_faulted l D cI cS a_d a_f a_t a_r a_z d_hour d_traced d_latestFault x8 n q114_1.1 q114_1.2 hq55) ⟨tw_173, tw_170, tw_172, tp_0, tw_1⟩ mdX4_faulted ⟨rfl, rfl, Nat.le_of_ble_eq_true rfl, Nat.le_of_ble_eq_true rfl⟩ rfl dX4_plan_114 rfl (Nat.le_of_ble_eq_true rfl) ⟨Nat.zero_le _, Nat.zero_le _⟩ rfl rfl rfl [0] [1, 2, 3, 4, 5, 6, 7, 8, 9, 10, 11, 12, 13, 14, 15, 16, 17, 18, 19, 20] [20, 0, 1, 2, 3, 4, 5, 6, 7, 8, 9, 10, 11, 12, 13, 14, 15, 16, 17, 18, 19] rfl rfl (by decide) rfl (fun H locs hP hD hS => ?_)
    replace hf := Option.some.inj hf
    obtain ⟨er0, er1⟩ := Prod.mk.inj hf
    obtain ⟨er2, er3⟩ := Prod.mk.inj er1
    obtain ⟨er4, er5⟩ := Prod.mk.inj er3
    obtain ⟨er6, er7⟩ := Prod.mk.inj er5
    obtain ⟨er8, er9⟩ := Prod.mk.inj er7
    obtain ⟨er10, er11⟩ := Prod.mk.inj er9
    obtain ⟨er12, er13⟩ := Prod.mk.inj er11
    obtain ⟨er14, er15⟩ := Prod.mk.inj er13
    obtain ⟨er16, er17⟩ := Prod.mk.inj er15
    obtain ⟨er18, er19⟩ := Prod.mk.inj er17
    obtain ⟨er20, er21⟩ := Prod.mk.inj er19
    obtain ⟨er22, er23⟩ := Prod.mk.inj er21
    obtain ⟨er24, er25⟩ := Prod.mk.inj er23
    clear hf er1 er3 er5 er7 er9 er11 er13 er15 er17 er19 er21 er23
    subst er0
    subst er2
    subst er4
    subst er6
    subst er8
    subst er10
    subst er12
    subst er14
    subst er16
    subst er18
    subst er20
    subst er22
    subst er24
    subst er25
    exact rt_i Cc hK hP hD hS dX4_plan_117
set_option maxHeartbeats 4000000 in
set_option maxRecDepth 100000 in
theorem bX4_plan_41 {p : Program} {l : Launch} {e : Env} {s : State} {m : MethodId} {args : Array Value} {below : List Frame} {meth : Method} {c : Code} {A : Nat → Prop} {D : va_G} {cI cS : ClassId} (a_d a_f a_t a_r a_z a_f_kind a_f_wet a_g a_g_kind a_g_wet a_r_cells a_r_hours a_r_cracked a_s0 a_s0_row a_s1 a_s1_row a_s2 a_s2_row a_s3 a_s3_row : Nat) (d_hour : Int32) (d_traced : Int32) (r_cells : Nat → Int32) (r_hours : Nat → Int32) (r_cracked : Nat → Int32) (r_count : Int32) (Cc : Cx p s m args meth c RX4 cX4_plan 10 (some .int)) (hK : va_K D classes (tysA cI cS) s) (hA : ∀ q, s.heap.size ≤ q → A q) (n : Nat) : ∀ (d_latestFault : Int32) (f_kind : Nat → Int32) (f_wet : Nat → Int32) (f_wide : Int32) (f_rows : Int32) (f_cells : Int32) (f_sun : Int32) (f_all : Int32) (f_firstColumn : Int32) (f_lastColumn : Int32) (t_hours : Int32) (t_opened : Int32) (t_firstWrong : Int32) (g_kind : Nat → Int32) (g_wet : Nat → Int32) (g_wide : Int32) (g_rows : Int32) (g_cells : Int32) (g_sun : Int32) (g_all : Int32) (g_firstColumn : Int32) (g_lastColumn : Int32) (S_row : Nat → Nat → Int32) (S_lane : Nat → Int32) (S_length : Nat → Int32) (x1 : Int32) (x2 : Int32) (x3 : Int32) (x4 : Int32) (x5 : Int32) (y0 : Int32) (r : Int32) (d_latestFault' : Int32) (t_hours' : Int32) (t_opened' : Int32) (t_firstWrong' : Int32) (g_kind' : Nat → Int32) (g_wet' : Nat → Int32) (g_wide' : Int32) (g_rows' : Int32) (g_cells' : Int32) (g_sun' : Int32) (g_all' : Int32) (g_firstColumn' : Int32) (g_lastColumn' : Int32), fX4_plan_41 n d_latestFault f_kind f_wet f_wide f_rows f_cells f_sun f_all f_firstColumn f_lastColumn t_hours t_opened t_firstWrong g_kind g_wet g_wide g_rows g_cells g_sun g_all g_firstColumn g_lastColumn S_row S_lane S_length x1 x2 x3 x4 x5 y0 = some (r, d_latestFault', t_hours', t_opened', t_firstWrong', g_kind', g_wet', g_wide', g_rows', g_cells', g_sun', g_all', g_firstColumn', g_lastColumn') → ∀ (H : Heap) (locs : List Loc) (ls : Array Slot), va_P D classes (W_D cI cS a_d a_f a_t a_r a_z a_f_kind a_f_wet a_g a_g_kind a_g_wet a_r_cells a_r_hours a_r_cracked a_s0 a_s0_row a_s1 a_s1_row a_s2 a_s2_row a_s3 a_s3_row d_hour d_traced d_latestFault f_kind f_wet f_wide f_rows f_cells f_sun f_all f_firstColumn f_lastColumn t_hours t_opened t_firstWrong g_kind g_wet g_wide g_rows g_cells g_sun g_all g_firstColumn g_lastColumn r_cells r_hours r_cracked r_count S_row S_lane S_length) H → va_D A (W_D cI cS a_d a_f a_t a_r a_z a_f_kind a_f_wet a_g a_g_kind a_g_wet a_r_cells a_r_hours a_r_cracked a_s0 a_s0_row a_s1 a_s1_row a_s2 a_s2_row a_s3 a_s3_row d_hour d_traced d_latestFault f_kind f_wet f_wide f_rows f_cells f_sun f_all f_firstColumn f_lastColumn t_hours t_opened t_firstWrong g_kind g_wet g_wide g_rows g_cells g_sun g_all g_firstColumn g_lastColumn r_cells r_hours r_cracked r_count S_row S_lane S_length) → va_S A s.heap H locs → lv_has ls 10 [(0, .ref a_d), (1, .int x1), (2, .int x2), (3, .int x3), (4, .int x4), (5, .int x5)] → W p l e (Rm 6) s m args below meth c H locs 0 0 (MQ below (QW D (tysA cI cS) (some (.int r)) (W_D cI cS a_d a_f a_t a_r a_z a_f_kind a_f_wet a_g a_g_kind a_g_wet a_r_cells a_r_hours a_r_cracked a_s0 a_s0_row a_s1 a_s1_row a_s2 a_s2_row a_s3 a_s3_row d_hour d_traced d_latestFault' f_kind f_wet f_wide f_rows f_cells f_sun f_all f_firstColumn f_lastColumn t_hours' t_opened' t_firstWrong' g_kind' g_wet' g_wide' g_rows' g_cells' g_sun' g_all' g_firstColumn' g_lastColumn' r_cells r_hours r_cracked r_count S_row S_lane S_length) A) args s 0 0 A) (F0 m 41 ls [.int y0]) := by
  obtain ⟨hx, hb, hr, hml, hown, hts, hlk, hnw⟩ := id Cc
  intro d_latestFault f_kind f_wet f_wide f_rows f_cells f_sun f_all f_firstColumn f_lastColumn t_hours t_opened t_firstWrong g_kind g_wet g_wide g_rows g_cells g_sun g_all g_firstColumn g_lastColumn S_row S_lane S_length x1 x2 x3 x4 x5 y0 r d_latestFault' t_hours' t_opened' t_firstWrong' g_kind' g_wet' g_wide' g_rows' g_cells' g_sun' g_all' g_firstColumn' g_lastColumn' hf H locs ls hP hD hS hl
  unfold fX4_plan_41 at hf
  refine lv_istore (lv' := [(6, .int y0), (0, .ref a_d), (1, .int x1), (2, .int x2), (3, .int x3), (4, .int x4), (5, .int x5)]) hx hb dX4_plan_41 hl (by decide) rfl (fun ls hl => ?_)
  refine lv_iload_n hx hb dX4_plan_43 rfl (lv_at hl 3 rfl) ?_
  obtain ⟨q44_1, hq5, hf⟩ := Option.bind_eq_some_iff.mp hf
  refine cSt (ws' := (W_D cI cS a_d a_f a_t a_r a_z a_f_kind a_f_wet a_g a_g_kind a_g_wet a_r_cells a_r_hours a_r_cracked a_s0 a_s0_row a_s1 a_s1_row a_s2 a_s2_row a_s3 a_s3_row d_hour d_traced d_latestFault f_kind f_wet f_wide f_rows f_cells f_sun f_all f_firstColumn f_lastColumn t_hours t_opened t_firstWrong g_kind g_wet g_wide g_rows g_cells g_sun g_all g_firstColumn g_lastColumn r_cells r_hours r_cracked r_count S_row S_lane S_length)) (rest := []) (st1 := [.int q44_1]) Cc hK hA hP hD hS hl.1 (ctX4_isLane l D cI cS   x2 n q44_1 hq5) ⟨tw_157, tw_155, tw_156, tw_1⟩ mdX4_isLane ⟨rfl, rfl, Nat.le_of_ble_eq_true rfl, Nat.le_of_ble_eq_true rfl⟩ rfl dX4_plan_44 rfl (Nat.le_of_ble_eq_true rfl) ⟨Nat.zero_le _, Nat.zero_le _⟩ rfl [] [0, 1, 2, 3, 4, 5, 6, 7, 8, 9, 10, 11, 12, 13, 14, 15, 16, 17, 18, 19, 20] [0, 1, 2, 3, 4, 5, 6, 7, 8, 9, 10, 11, 12, 13, 14, 15, 16, 17, 18, 19, 20] rfl rfl (by decide) rfl (fun H locs hP hD hS => ?_)
  refine lv_if_eq (tgt := 66) hx hb dX4_plan_47 (by decide) (fun hc6 => ?_) (fun hc6 => ?_)
  · replace hf := (if_pos hc6).symm.trans hf
    refine lv_bipush (v := (-2 : Int32)) hx hb dX4_plan_66 (by decide) ?_
    replace hf := Option.some.inj hf
    obtain ⟨er0, er1⟩ := Prod.mk.inj hf
    obtain ⟨er2, er3⟩ := Prod.mk.inj er1
    obtain ⟨er4, er5⟩ := Prod.mk.inj er3
    obtain ⟨er6, er7⟩ := Prod.mk.inj er5
    obtain ⟨er8, er9⟩ := Prod.mk.inj er7
    obtain ⟨er10, er11⟩ := Prod.mk.inj er9
    obtain ⟨er12, er13⟩ := Prod.mk.inj er11
    obtain ⟨er14, er15⟩ := Prod.mk.inj er13
    obtain ⟨er16, er17⟩ := Prod.mk.inj er15
    obtain ⟨er18, er19⟩ := Prod.mk.inj er17
    obtain ⟨er20, er21⟩ := Prod.mk.inj er19
    obtain ⟨er22, er23⟩ := Prod.mk.inj er21
    obtain ⟨er24, er25⟩ := Prod.mk.inj er23
    clear hf er1 er3 er5 er7 er9 er11 er13 er15 er17 er19 er21 er23
    subst er0
    subst er2
    subst er4
    subst er6
    subst er8
    subst er10
    subst er12
    subst er14
    subst er16
    subst er18
    subst er20
    subst er22
    subst er24
    subst er25
    exact rt_i Cc hK hP hD hS dX4_plan_68
  · replace hf := (if_neg hc6).symm.trans hf
    refine lv_iload hx hb dX4_plan_50 (lv_at hl 5 rfl) ?_
    refine lv_iconst (v := (0 : Int32)) hx hb dX4_plan_52 (by decide) ?_
    refine lv_bipush (v := (20 : Int32)) hx hb dX4_plan_53 (by decide) ?_
    obtain ⟨q55_1, hq7, hf⟩ := Option.bind_eq_some_iff.mp hf
    refine cSt (ws' := (W_D cI cS a_d a_f a_t a_r a_z a_f_kind a_f_wet a_g a_g_kind a_g_wet a_r_cells a_r_hours a_r_cracked a_s0 a_s0_row a_s1 a_s1_row a_s2 a_s2_row a_s3 a_s3_row d_hour d_traced d_latestFault f_kind f_wet f_wide f_rows f_cells f_sun f_all f_firstColumn f_lastColumn t_hours t_opened t_firstWrong g_kind g_wet g_wide g_rows g_cells g_sun g_all g_firstColumn g_lastColumn r_cells r_hours r_cracked r_count S_row S_lane S_length)) (rest := []) (st1 := [.int q55_1]) Cc hK hA hP hD hS hl.1 (ctX4_within l D cI cS   x4 (0 : Int32) (20 : Int32) n q55_1 hq7) ⟨tw_154, tw_152, tw_153, tw_1⟩ mdX4_within ⟨rfl, rfl, Nat.le_of_ble_eq_true rfl, Nat.le_of_ble_eq_true rfl⟩ rfl dX4_plan_55 rfl (Nat.le_of_ble_eq_true rfl) ⟨Nat.zero_le _, Nat.zero_le _⟩ rfl [] [0, 1, 2, 3, 4, 5, 6, 7, 8, 9, 10, 11, 12, 13, 14, 15, 16, 17, 18, 19, 20] [0, 1, 2, 3, 4, 5, 6, 7, 8, 9, 10, 11, 12, 13, 14, 15, 16, 17, 18, 19, 20] rfl rfl (by decide) rfl (fun H locs hP hD hS => ?_)
    refine lv_if_eq (tgt := 66) hx hb dX4_plan_58 (by decide) (fun hc8 => ?_) (fun hc8 => ?_)
    · replace hf := (if_pos hc8).symm.trans hf
      refine lv_bipush (v := (-2 : Int32)) hx hb dX4_plan_66 (by decide) ?_
      replace hf := Option.some.inj hf
      obtain ⟨er0, er1⟩ := Prod.mk.inj hf
      obtain ⟨er2, er3⟩ := Prod.mk.inj er1
      obtain ⟨er4, er5⟩ := Prod.mk.inj er3
      obtain ⟨er6, er7⟩ := Prod.mk.inj er5
      obtain ⟨er8, er9⟩ := Prod.mk.inj er7
      obtain ⟨er10, er11⟩ := Prod.mk.inj er9
      obtain ⟨er12, er13⟩ := Prod.mk.inj er11
      obtain ⟨er14, er15⟩ := Prod.mk.inj er13
      obtain ⟨er16, er17⟩ := Prod.mk.inj er15
      obtain ⟨er18, er19⟩ := Prod.mk.inj er17
      obtain ⟨er20, er21⟩ := Prod.mk.inj er19
      obtain ⟨er22, er23⟩ := Prod.mk.inj er21
      obtain ⟨er24, er25⟩ := Prod.mk.inj er23
      clear hf er1 er3 er5 er7 er9 er11 er13 er15 er17 er19 er21 er23
      subst er0
      subst er2
      subst er4
      subst er6
      subst er8
      subst er10
      subst er12
      subst er14
      subst er16
      subst er18
      subst er20
      subst er22
      subst er24
      subst er25
      exact rt_i Cc hK hP hD hS dX4_plan_68
    · replace hf := (if_neg hc8).symm.trans hf
      refine lv_iload hx hb dX4_plan_61 (lv_at hl 0 rfl) ?_
      refine lv_if_ne (tgt := 69) hx hb dX4_plan_63 (by decide) (fun hc9 => ?_) (fun hc9 => ?_)
      · replace hf := (if_neg hc9).symm.trans hf
        refine lv_aload_n hx hb dX4_plan_69 rfl (lv_at hl 1 rfl) ?_
        refine va_get (D := D) (ci := 4) (v := .ref a_z) (C := RX4) (T := TX4) (N := 7) hx hb hts inX4 hown hK hP 0 rfl rfl 3 (by decide) (hts _ tw_126) (fun _ h9 => h9) rfl dX4_plan_70 ?_
        refine lv_iload_n hx hb dX4_plan_73 rfl (lv_at hl 2 rfl) ?_
        obtain ⟨hin, hf⟩ := gd_some hf
        refine va_aldq hx hb hK hP 12 1 rfl rfl hin dX4_plan_74 ?_
        obtain ⟨j, hj, hjx⟩ : ∃ j, j < 4 ∧ x1.toNatClampNeg = j := ⟨_, Nat.not_le.mp fun q => hin (Or.inr q), rfl⟩
        rw [hjx] at hf ⊢
        clear hin hjx
        rcases (show j = 0 ∨ j = 1 ∨ j = 2 ∨ j = 3 by omega) with rfl | rfl | rfl | rfl
        · refine W.eq (g2 := F0 m 75 ls [.ref a_s0]) rfl ?_
          refine lv_astore (lv' := [(7, .ref a_s0), (6, .int y0), (0, .ref a_d), (1, .int x1), (2, .int x2), (3, .int x3), (4, .int x4), (5, .int x5)]) hx hb dX4_plan_75 hl (by decide) rfl (fun ls hl => ?_)
          refine lv_aload hx hb dX4_plan_77 (lv_at hl 0 rfl) ?_
          refine lv_iload_n hx hb dX4_plan_79 rfl (lv_at hl 4 rfl) ?_
          obtain ⟨q80_1, hq10, hf⟩ := Option.bind_eq_some_iff.mp hf
          refine cV (ws' := (W_D cI cS a_d a_f a_t a_r a_z a_f_kind a_f_wet a_g a_g_kind a_g_wet a_r_cells a_r_hours a_r_cracked a_s0 a_s0_row a_s1 a_s1_row a_s2 a_s2_row a_s3 a_s3_row d_hour d_traced d_latestFault f_kind f_wet f_wide f_rows f_cells f_sun f_all f_firstColumn f_lastColumn t_hours t_opened t_firstWrong g_kind g_wet g_wide g_rows g_cells g_sun g_all g_firstColumn g_lastColumn r_cells r_hours r_cracked r_count S_row S_lane S_length)) (rest := []) (st1 := [.int q80_1]) Cc hK hA hP hD hS hl.1 (ctX2_faultAs l D cI cS a_s0 a_s0_row (S_row 0) (S_lane 0) (S_length 0) x2 n q80_1 hq10) ⟨tw_161, tw_158, tw_159, tw_160, tw_5⟩ mdX2_faultAs ⟨rfl, rfl, Nat.le_of_ble_eq_true rfl, Nat.le_of_ble_eq_true rfl⟩ rfl dX4_plan_80 rfl (Nat.le_of_ble_eq_true rfl) ⟨Nat.zero_le _, Nat.zero_le _⟩ rfl rfl rfl [13, 14] [0, 1, 2, 3, 4, 5, 6, 7, 8, 9, 10, 11, 12, 15, 16, 17, 18, 19, 20] [0, 1, 2, 3, 4, 5, 6, 7, 8, 9, 10, 11, 12, 19, 20, 13, 14, 15, 16, 17, 18] rfl rfl (by decide) rfl (fun H locs hP hD hS => ?_)
          refine lv_istore (lv' := [(8, .int q80_1), (7, .ref a_s0), (6, .int y0), (0, .ref a_d), (1, .int x1), (2, .int x2), (3, .int x3), (4, .int x4), (5, .int x5)]) hx hb dX4_plan_83 hl (by decide) rfl (fun ls hl => ?_)
          refine lv_iload hx hb dX4_plan_85 (lv_at hl 0 rfl) ?_
          refine lv_if_ne (tgt := 106) hx hb dX4_plan_87 (by decide) (fun hc11 => ?_) (fun hc11 => ?_)
          · replace hf := (if_neg hc11).symm.trans hf
            exact bX4_plan_106_0 a_d a_f a_t a_r a_z a_f_kind a_f_wet a_g a_g_kind a_g_wet a_r_cells a_r_hours a_r_cracked a_s0 a_s0_row a_s1 a_s1_row a_s2 a_s2_row a_s3 a_s3_row d_hour d_traced r_cells r_hours r_cracked r_count Cc hK hA n _ _ _ _ _ _ _ _ _ _ _ _ _ _ _ _ _ _ _ _ _ _ _ _ _ _ _ _ _ _ _ _ _ _ _ _ _ _ _ _ _ _ _ hf _ _ _ hP hD hS (lv_sub hl [3, 6, 7, 8, 1, 0] rfl)
          · replace hf := (if_pos hc11).symm.trans hf
            refine lv_aload hx hb dX4_plan_90 (lv_at hl 1 rfl) ?_
            refine lv_iload_n hx hb dX4_plan_92 rfl (lv_at hl 6 rfl) ?_
            refine lv_iconst (v := (2 : Int32)) hx hb dX4_plan_93 (by decide) ?_
            refine lv_iload hx hb dX4_plan_94 (lv_at hl 7 rfl) ?_
            refine lv_imul hx hb dX4_plan_96 ?_
            obtain ⟨q97_1, hq20, hf⟩ := Option.bind_eq_some_iff.mp hf
            refine cV (ws' := (W_D cI cS a_d a_f a_t a_r a_z a_f_kind a_f_wet a_g a_g_kind a_g_wet a_r_cells a_r_hours a_r_cracked a_s0 a_s0_row a_s1 a_s1_row a_s2 a_s2_row a_s3 a_s3_row d_hour d_traced d_latestFault f_kind f_wet f_wide f_rows f_cells f_sun f_all f_firstColumn f_lastColumn t_hours t_opened t_firstWrong g_kind g_wet g_wide g_rows g_cells g_sun g_all g_firstColumn g_lastColumn r_cells r_hours r_cracked r_count S_row S_lane S_length)) (rest := []) (st1 := [.int q97_1]) Cc hK hA hP hD hS hl.1 (ctX2_has l D cI cS a_s0 a_s0_row (S_row 0) (S_lane 0) (S_length 0) x3 ((2 : Int32) * x4) n q97_1 hq20) ⟨tw_169, tw_166, tw_167, tw_168, tw_5⟩ mdX2_has ⟨rfl, rfl, Nat.le_of_ble_eq_true rfl, Nat.le_of_ble_eq_true rfl⟩ rfl dX4_plan_97 rfl (Nat.le_of_ble_eq_true rfl) ⟨Nat.zero_le _, Nat.zero_le _⟩ rfl rfl rfl [13, 14] [0, 1, 2, 3, 4, 5, 6, 7, 8, 9, 10, 11, 12, 15, 16, 17, 18, 19, 20] [0, 1, 2, 3, 4, 5, 6, 7, 8, 9, 10, 11, 12, 19, 20, 13, 14, 15, 16, 17, 18] rfl rfl (by decide) rfl (fun H locs hP hD hS => ?_)
            refine lv_if_ne (tgt := 106) hx hb dX4_plan_100 (by decide) (fun hc21 => ?_) (fun hc21 => ?_)
            · replace hf := (if_neg hc21).symm.trans hf
              exact bX4_plan_106_0 a_d a_f a_t a_r a_z a_f_kind a_f_wet a_g a_g_kind a_g_wet a_r_cells a_r_hours a_r_cracked a_s0 a_s0_row a_s1 a_s1_row a_s2 a_s2_row a_s3 a_s3_row d_hour d_traced r_cells r_hours r_cracked r_count Cc hK hA n _ _ _ _ _ _ _ _ _ _ _ _ _ _ _ _ _ _ _ _ _ _ _ _ _ _ _ _ _ _ _ _ _ _ _ _ _ _ _ _ _ _ _ hf _ _ _ hP hD hS (lv_sub hl [3, 6, 7, 8, 1, 0] rfl)
            · replace hf := (if_pos hc21).symm.trans hf
              refine lv_iconst (v := (3 : Int32)) hx hb dX4_plan_103 (by decide) ?_
              refine lv_istore (lv' := [(8, .int (3 : Int32)), (7, .ref a_s0), (6, .int y0), (0, .ref a_d), (1, .int x1), (2, .int x2), (3, .int x3), (4, .int x4), (5, .int x5)]) hx hb dX4_plan_104 hl (by decide) rfl (fun ls hl => ?_)
              exact bX4_plan_106_0 a_d a_f a_t a_r a_z a_f_kind a_f_wet a_g a_g_kind a_g_wet a_r_cells a_r_hours a_r_cracked a_s0 a_s0_row a_s1 a_s1_row a_s2 a_s2_row a_s3 a_s3_row d_hour d_traced r_cells r_hours r_cracked r_count Cc hK hA n _ _ _ _ _ _ _ _ _ _ _ _ _ _ _ _ _ _ _ _ _ _ _ _ _ _ _ _ _ _ _ _ _ _ _ _ _ _ _ _ _ _ _ hf _ _ _ hP hD hS (lv_sub hl [3, 6, 7, 8, 1, 0] rfl)
        · refine W.eq (g2 := F0 m 75 ls [.ref a_s1]) rfl ?_
          refine lv_astore (lv' := [(7, .ref a_s1), (6, .int y0), (0, .ref a_d), (1, .int x1), (2, .int x2), (3, .int x3), (4, .int x4), (5, .int x5)]) hx hb dX4_plan_75 hl (by decide) rfl (fun ls hl => ?_)
          refine lv_aload hx hb dX4_plan_77 (lv_at hl 0 rfl) ?_
          refine lv_iload_n hx hb dX4_plan_79 rfl (lv_at hl 4 rfl) ?_
          obtain ⟨q80_1, hq22, hf⟩ := Option.bind_eq_some_iff.mp hf
          refine cV (ws' := (W_D cI cS a_d a_f a_t a_r a_z a_f_kind a_f_wet a_g a_g_kind a_g_wet a_r_cells a_r_hours a_r_cracked a_s0 a_s0_row a_s1 a_s1_row a_s2 a_s2_row a_s3 a_s3_row d_hour d_traced d_latestFault f_kind f_wet f_wide f_rows f_cells f_sun f_all f_firstColumn f_lastColumn t_hours t_opened t_firstWrong g_kind g_wet g_wide g_rows g_cells g_sun g_all g_firstColumn g_lastColumn r_cells r_hours r_cracked r_count S_row S_lane S_length)) (rest := []) (st1 := [.int q80_1]) Cc hK hA hP hD hS hl.1 (ctX2_faultAs l D cI cS a_s1 a_s1_row (S_row 1) (S_lane 1) (S_length 1) x2 n q80_1 hq22) ⟨tw_161, tw_158, tw_159, tw_160, tw_5⟩ mdX2_faultAs ⟨rfl, rfl, Nat.le_of_ble_eq_true rfl, Nat.le_of_ble_eq_true rfl⟩ rfl dX4_plan_80 rfl (Nat.le_of_ble_eq_true rfl) ⟨Nat.zero_le _, Nat.zero_le _⟩ rfl rfl rfl [15, 16] [0, 1, 2, 3, 4, 5, 6, 7, 8, 9, 10, 11, 12, 13, 14, 17, 18, 19, 20] [0, 1, 2, 3, 4, 5, 6, 7, 8, 9, 10, 11, 12, 13, 14, 19, 20, 15, 16, 17, 18] rfl rfl (by decide) rfl (fun H locs hP hD hS => ?_)
          refine lv_istore (lv' := [(8, .int q80_1), (7, .ref a_s1), (6, .int y0), (0, .ref a_d), (1, .int x1), (2, .int x2), (3, .int x3), (4, .int x4), (5, .int x5)]) hx hb dX4_plan_83 hl (by decide) rfl (fun ls hl => ?_)
          refine lv_iload hx hb dX4_plan_85 (lv_at hl 0 rfl) ?_
          refine lv_if_ne (tgt := 106) hx hb dX4_plan_87 (by decide) (fun hc23 => ?_) (fun hc23 => ?_)
          · replace hf := (if_neg hc23).symm.trans hf
            exact bX4_plan_106_1 a_d a_f a_t a_r a_z a_f_kind a_f_wet a_g a_g_kind a_g_wet a_r_cells a_r_hours a_r_cracked a_s0 a_s0_row a_s1 a_s1_row a_s2 a_s2_row a_s3 a_s3_row d_hour d_traced r_cells r_hours r_cracked r_count Cc hK hA n _ _ _ _ _ _ _ _ _ _ _ _ _ _ _ _ _ _ _ _ _ _ _ _ _ _ _ _ _ _ _ _ _ _ _ _ _ _ _ _ _ _ _ hf _ _ _ hP hD hS (lv_sub hl [3, 6, 7, 8, 1, 0] rfl)
          · replace hf := (if_pos hc23).symm.trans hf
            refine lv_aload hx hb dX4_plan_90 (lv_at hl 1 rfl) ?_
            refine lv_iload_n hx hb dX4_plan_92 rfl (lv_at hl 6 rfl) ?_
            refine lv_iconst (v := (2 : Int32)) hx hb dX4_plan_93 (by decide) ?_
            refine lv_iload hx hb dX4_plan_94 (lv_at hl 7 rfl) ?_
            refine lv_imul hx hb dX4_plan_96 ?_
            obtain ⟨q97_1, hq32, hf⟩ := Option.bind_eq_some_iff.mp hf
            refine cV (ws' := (W_D cI cS a_d a_f a_t a_r a_z a_f_kind a_f_wet a_g a_g_kind a_g_wet a_r_cells a_r_hours a_r_cracked a_s0 a_s0_row a_s1 a_s1_row a_s2 a_s2_row a_s3 a_s3_row d_hour d_traced d_latestFault f_kind f_wet f_wide f_rows f_cells f_sun f_all f_firstColumn f_lastColumn t_hours t_opened t_firstWrong g_kind g_wet g_wide g_rows g_cells g_sun g_all g_firstColumn g_lastColumn r_cells r_hours r_cracked r_count S_row S_lane S_length)) (rest := []) (st1 := [.int q97_1]) Cc hK hA hP hD hS hl.1 (ctX2_has l D cI cS a_s1 a_s1_row (S_row 1) (S_lane 1) (S_length 1) x3 ((2 : Int32) * x4) n q97_1 hq32) ⟨tw_169, tw_166, tw_167, tw_168, tw_5⟩ mdX2_has ⟨rfl, rfl, Nat.le_of_ble_eq_true rfl, Nat.le_of_ble_eq_true rfl⟩ rfl dX4_plan_97 rfl (Nat.le_of_ble_eq_true rfl) ⟨Nat.zero_le _, Nat.zero_le _⟩ rfl rfl rfl [15, 16] [0, 1, 2, 3, 4, 5, 6, 7, 8, 9, 10, 11, 12, 13, 14, 17, 18, 19, 20] [0, 1, 2, 3, 4, 5, 6, 7, 8, 9, 10, 11, 12, 13, 14, 19, 20, 15, 16, 17, 18] rfl rfl (by decide) rfl (fun H locs hP hD hS => ?_)
            refine lv_if_ne (tgt := 106) hx hb dX4_plan_100 (by decide) (fun hc33 => ?_) (fun hc33 => ?_)
            · replace hf := (if_neg hc33).symm.trans hf
              exact bX4_plan_106_1 a_d a_f a_t a_r a_z a_f_kind a_f_wet a_g a_g_kind a_g_wet a_r_cells a_r_hours a_r_cracked a_s0 a_s0_row a_s1 a_s1_row a_s2 a_s2_row a_s3 a_s3_row d_hour d_traced r_cells r_hours r_cracked r_count Cc hK hA n _ _ _ _ _ _ _ _ _ _ _ _ _ _ _ _ _ _ _ _ _ _ _ _ _ _ _ _ _ _ _ _ _ _ _ _ _ _ _ _ _ _ _ hf _ _ _ hP hD hS (lv_sub hl [3, 6, 7, 8, 1, 0] rfl)
            · replace hf := (if_pos hc33).symm.trans hf
              refine lv_iconst (v := (3 : Int32)) hx hb dX4_plan_103 (by decide) ?_
              refine lv_istore (lv' := [(8, .int (3 : Int32)), (7, .ref a_s1), (6, .int y0), (0, .ref a_d), (1, .int x1), (2, .int x2), (3, .int x3), (4, .int x4), (5, .int x5)]) hx hb dX4_plan_104 hl (by decide) rfl (fun ls hl => ?_)
              exact bX4_plan_106_1 a_d a_f a_t a_r a_z a_f_kind a_f_wet a_g a_g_kind a_g_wet a_r_cells a_r_hours a_r_cracked a_s0 a_s0_row a_s1 a_s1_row a_s2 a_s2_row a_s3 a_s3_row d_hour d_traced r_cells r_hours r_cracked r_count Cc hK hA n _ _ _ _ _ _ _ _ _ _ _ _ _ _ _ _ _ _ _ _ _ _ _ _ _ _ _ _ _ _ _ _ _ _ _ _ _ _ _ _ _ _ _ hf _ _ _ hP hD hS (lv_sub hl [3, 6, 7, 8, 1, 0] rfl)
        · refine W.eq (g2 := F0 m 75 ls [.ref a_s2]) rfl ?_
          refine lv_astore (lv' := [(7, .ref a_s2), (6, .int y0), (0, .ref a_d), (1, .int x1), (2, .int x2), (3, .int x3), (4, .int x4), (5, .int x5)]) hx hb dX4_plan_75 hl (by decide) rfl (fun ls hl => ?_)
          refine lv_aload hx hb dX4_plan_77 (lv_at hl 0 rfl) ?_
          refine lv_iload_n hx hb dX4_plan_79 rfl (lv_at hl 4 rfl) ?_
          obtain ⟨q80_1, hq34, hf⟩ := Option.bind_eq_some_iff.mp hf
          refine cV (ws' := (W_D cI cS a_d a_f a_t a_r a_z a_f_kind a_f_wet a_g a_g_kind a_g_wet a_r_cells a_r_hours a_r_cracked a_s0 a_s0_row a_s1 a_s1_row a_s2 a_s2_row a_s3 a_s3_row d_hour d_traced d_latestFault f_kind f_wet f_wide f_rows f_cells f_sun f_all f_firstColumn f_lastColumn t_hours t_opened t_firstWrong g_kind g_wet g_wide g_rows g_cells g_sun g_all g_firstColumn g_lastColumn r_cells r_hours r_cracked r_count S_row S_lane S_length)) (rest := []) (st1 := [.int q80_1]) Cc hK hA hP hD hS hl.1 (ctX2_faultAs l D cI cS a_s2 a_s2_row (S_row 2) (S_lane 2) (S_length 2) x2 n q80_1 hq34) ⟨tw_161, tw_158, tw_159, tw_160, tw_5⟩ mdX2_faultAs ⟨rfl, rfl, Nat.le_of_ble_eq_true rfl, Nat.le_of_ble_eq_true rfl⟩ rfl dX4_plan_80 rfl (Nat.le_of_ble_eq_true rfl) ⟨Nat.zero_le _, Nat.zero_le _⟩ rfl rfl rfl [17, 18] [0, 1, 2, 3, 4, 5, 6, 7, 8, 9, 10, 11, 12, 13, 14, 15, 16, 19, 20] [0, 1, 2, 3, 4, 5, 6, 7, 8, 9, 10, 11, 12, 13, 14, 15, 16, 19, 20, 17, 18] rfl rfl (by decide) rfl (fun H locs hP hD hS => ?_)
          refine lv_istore (lv' := [(8, .int q80_1), (7, .ref a_s2), (6, .int y0), (0, .ref a_d), (1, .int x1), (2, .int x2), (3, .int x3), (4, .int x4), (5, .int x5)]) hx hb dX4_plan_83 hl (by decide) rfl (fun ls hl => ?_)
          refine lv_iload hx hb dX4_plan_85 (lv_at hl 0 rfl) ?_
          refine lv_if_ne (tgt := 106) hx hb dX4_plan_87 (by decide) (fun hc35 => ?_) (fun hc35 => ?_)
          · replace hf := (if_neg hc35).symm.trans hf
            exact bX4_plan_106_2 a_d a_f a_t a_r a_z a_f_kind a_f_wet a_g a_g_kind a_g_wet a_r_cells a_r_hours a_r_cracked a_s0 a_s0_row a_s1 a_s1_row a_s2 a_s2_row a_s3 a_s3_row d_hour d_traced r_cells r_hours r_cracked r_count Cc hK hA n _ _ _ _ _ _ _ _ _ _ _ _ _ _ _ _ _ _ _ _ _ _ _ _ _ _ _ _ _ _ _ _ _ _ _ _ _ _ _ _ _ _ _ hf _ _ _ hP hD hS (lv_sub hl [3, 6, 7, 8, 1, 0] rfl)
          · replace hf := (if_pos hc35).symm.trans hf
            refine lv_aload hx hb dX4_plan_90 (lv_at hl 1 rfl) ?_
            refine lv_iload_n hx hb dX4_plan_92 rfl (lv_at hl 6 rfl) ?_
            refine lv_iconst (v := (2 : Int32)) hx hb dX4_plan_93 (by decide) ?_
            refine lv_iload hx hb dX4_plan_94 (lv_at hl 7 rfl) ?_
            refine lv_imul hx hb dX4_plan_96 ?_
            obtain ⟨q97_1, hq44, hf⟩ := Option.bind_eq_some_iff.mp hf
            refine cV (ws' := (W_D cI cS a_d a_f a_t a_r a_z a_f_kind a_f_wet a_g a_g_kind a_g_wet a_r_cells a_r_hours a_r_cracked a_s0 a_s0_row a_s1 a_s1_row a_s2 a_s2_row a_s3 a_s3_row d_hour d_traced d_latestFault f_kind f_wet f_wide f_rows f_cells f_sun f_all f_firstColumn f_lastColumn t_hours t_opened t_firstWrong g_kind g_wet g_wide g_rows g_cells g_sun g_all g_firstColumn g_lastColumn r_cells r_hours r_cracked r_count S_row S_lane S_length)) (rest := []) (st1 := [.int q97_1]) Cc hK hA hP hD hS hl.1 (ctX2_has l D cI cS a_s2 a_s2_row (S_row 2) (S_lane 2) (S_length 2) x3 ((2 : Int32) * x4) n q97_1 hq44) ⟨tw_169, tw_166, tw_167, tw_168, tw_5⟩ mdX2_has ⟨rfl, rfl, Nat.le_of_ble_eq_true rfl, Nat.le_of_ble_eq_true rfl⟩ rfl dX4_plan_97 rfl (Nat.le_of_ble_eq_true rfl) ⟨Nat.zero_le _, Nat.zero_le _⟩ rfl rfl rfl [17, 18] [0, 1, 2, 3, 4, 5, 6, 7, 8, 9, 10, 11, 12, 13, 14, 15, 16, 19, 20] [0, 1, 2, 3, 4, 5, 6, 7, 8, 9, 10, 11, 12, 13, 14, 15, 16, 19, 20, 17, 18] rfl rfl (by decide) rfl (fun H locs hP hD hS => ?_)
            refine lv_if_ne (tgt := 106) hx hb dX4_plan_100 (by decide) (fun hc45 => ?_) (fun hc45 => ?_)
            · replace hf := (if_neg hc45).symm.trans hf
              exact bX4_plan_106_2 a_d a_f a_t a_r a_z a_f_kind a_f_wet a_g a_g_kind a_g_wet a_r_cells a_r_hours a_r_cracked a_s0 a_s0_row a_s1 a_s1_row a_s2 a_s2_row a_s3 a_s3_row d_hour d_traced r_cells r_hours r_cracked r_count Cc hK hA n _ _ _ _ _ _ _ _ _ _ _ _ _ _ _ _ _ _ _ _ _ _ _ _ _ _ _ _ _ _ _ _ _ _ _ _ _ _ _ _ _ _ _ hf _ _ _ hP hD hS (lv_sub hl [3, 6, 7, 8, 1, 0] rfl)
            · replace hf := (if_pos hc45).symm.trans hf
              refine lv_iconst (v := (3 : Int32)) hx hb dX4_plan_103 (by decide) ?_
              refine lv_istore (lv' := [(8, .int (3 : Int32)), (7, .ref a_s2), (6, .int y0), (0, .ref a_d), (1, .int x1), (2, .int x2), (3, .int x3), (4, .int x4), (5, .int x5)]) hx hb dX4_plan_104 hl (by decide) rfl (fun ls hl => ?_)
              exact bX4_plan_106_2 a_d a_f a_t a_r a_z a_f_kind a_f_wet a_g a_g_kind a_g_wet a_r_cells a_r_hours a_r_cracked a_s0 a_s0_row a_s1 a_s1_row a_s2 a_s2_row a_s3 a_s3_row d_hour d_traced r_cells r_hours r_cracked r_count Cc hK hA n _ _ _ _ _ _ _ _ _ _ _ _ _ _ _ _ _ _ _ _ _ _ _ _ _ _ _ _ _ _ _ _ _ _ _ _ _ _ _ _ _ _ _ hf _ _ _ hP hD hS (lv_sub hl [3, 6, 7, 8, 1, 0] rfl)
        · refine W.eq (g2 := F0 m 75 ls [.ref a_s3]) rfl ?_
          refine lv_astore (lv' := [(7, .ref a_s3), (6, .int y0), (0, .ref a_d), (1, .int x1), (2, .int x2), (3, .int x3), (4, .int x4), (5, .int x5)]) hx hb dX4_plan_75 hl (by decide) rfl (fun ls hl => ?_)
          refine lv_aload hx hb dX4_plan_77 (lv_at hl 0 rfl) ?_
          refine lv_iload_n hx hb dX4_plan_79 rfl (lv_at hl 4 rfl) ?_
          obtain ⟨q80_1, hq46, hf⟩ := Option.bind_eq_some_iff.mp hf
          refine cV (ws' := (W_D cI cS a_d a_f a_t a_r a_z a_f_kind a_f_wet a_g a_g_kind a_g_wet a_r_cells a_r_hours a_r_cracked a_s0 a_s0_row a_s1 a_s1_row a_s2 a_s2_row a_s3 a_s3_row d_hour d_traced d_latestFault f_kind f_wet f_wide f_rows f_cells f_sun f_all f_firstColumn f_lastColumn t_hours t_opened t_firstWrong g_kind g_wet g_wide g_rows g_cells g_sun g_all g_firstColumn g_lastColumn r_cells r_hours r_cracked r_count S_row S_lane S_length)) (rest := []) (st1 := [.int q80_1]) Cc hK hA hP hD hS hl.1 (ctX2_faultAs l D cI cS a_s3 a_s3_row (S_row 3) (S_lane 3) (S_length 3) x2 n q80_1 hq46) ⟨tw_161, tw_158, tw_159, tw_160, tw_5⟩ mdX2_faultAs ⟨rfl, rfl, Nat.le_of_ble_eq_true rfl, Nat.le_of_ble_eq_true rfl⟩ rfl dX4_plan_80 rfl (Nat.le_of_ble_eq_true rfl) ⟨Nat.zero_le _, Nat.zero_le _⟩ rfl rfl rfl [19, 20] [0, 1, 2, 3, 4, 5, 6, 7, 8, 9, 10, 11, 12, 13, 14, 15, 16, 17, 18] [0, 1, 2, 3, 4, 5, 6, 7, 8, 9, 10, 11, 12, 13, 14, 15, 16, 17, 18, 19, 20] rfl rfl (by decide) rfl (fun H locs hP hD hS => ?_)
          refine lv_istore (lv' := [(8, .int q80_1), (7, .ref a_s3), (6, .int y0), (0, .ref a_d), (1, .int x1), (2, .int x2), (3, .int x3), (4, .int x4), (5, .int x5)]) hx hb dX4_plan_83 hl (by decide) rfl (fun ls hl => ?_)
          refine lv_iload hx hb dX4_plan_85 (lv_at hl 0 rfl) ?_
          refine lv_if_ne (tgt := 106) hx hb dX4_plan_87 (by decide) (fun hc47 => ?_) (fun hc47 => ?_)
          · replace hf := (if_neg hc47).symm.trans hf
            exact bX4_plan_106_3 a_d a_f a_t a_r a_z a_f_kind a_f_wet a_g a_g_kind a_g_wet a_r_cells a_r_hours a_r_cracked a_s0 a_s0_row a_s1 a_s1_row a_s2 a_s2_row a_s3 a_s3_row d_hour d_traced r_cells r_hours r_cracked r_count Cc hK hA n _ _ _ _ _ _ _ _ _ _ _ _ _ _ _ _ _ _ _ _ _ _ _ _ _ _ _ _ _ _ _ _ _ _ _ _ _ _ _ _ _ _ _ hf _ _ _ hP hD hS (lv_sub hl [3, 6, 7, 8, 1, 0] rfl)
          · replace hf := (if_pos hc47).symm.trans hf
            refine lv_aload hx hb dX4_plan_90 (lv_at hl 1 rfl) ?_
            refine lv_iload_n hx hb dX4_plan_92 rfl (lv_at hl 6 rfl) ?_
            refine lv_iconst (v := (2 : Int32)) hx hb dX4_plan_93 (by decide) ?_
            refine lv_iload hx hb dX4_plan_94 (lv_at hl 7 rfl) ?_
            refine lv_imul hx hb dX4_plan_96 ?_
            obtain ⟨q97_1, hq56, hf⟩ := Option.bind_eq_some_iff.mp hf
            refine cV (ws' := (W_D cI cS a_d a_f a_t a_r a_z a_f_kind a_f_wet a_g a_g_kind a_g_wet a_r_cells a_r_hours a_r_cracked a_s0 a_s0_row a_s1 a_s1_row a_s2 a_s2_row a_s3 a_s3_row d_hour d_traced d_latestFault f_kind f_wet f_wide f_rows f_cells f_sun f_all f_firstColumn f_lastColumn t_hours t_opened t_firstWrong g_kind g_wet g_wide g_rows g_cells g_sun g_all g_firstColumn g_lastColumn r_cells r_hours r_cracked r_count S_row S_lane S_length)) (rest := []) (st1 := [.int q97_1]) Cc hK hA hP hD hS hl.1 (ctX2_has l D cI cS a_s3 a_s3_row (S_row 3) (S_lane 3) (S_length 3) x3 ((2 : Int32) * x4) n q97_1 hq56) ⟨tw_169, tw_166, tw_167, tw_168, tw_5⟩ mdX2_has ⟨rfl, rfl, Nat.le_of_ble_eq_true rfl, Nat.le_of_ble_eq_true rfl⟩ rfl dX4_plan_97 rfl (Nat.le_of_ble_eq_true rfl) ⟨Nat.zero_le _, Nat.zero_le _⟩ rfl rfl rfl [19, 20] [0, 1, 2, 3, 4, 5, 6, 7, 8, 9, 10, 11, 12, 13, 14, 15, 16, 17, 18] [0, 1, 2, 3, 4, 5, 6, 7, 8, 9, 10, 11, 12, 13, 14, 15, 16, 17, 18, 19, 20] rfl rfl (by decide) rfl (fun H locs hP hD hS => ?_)
            refine lv_if_ne (tgt := 106) hx hb dX4_plan_100 (by decide) (fun hc57 => ?_) (fun hc57 => ?_)
            · replace hf := (if_neg hc57).symm.trans hf
              exact bX4_plan_106_3 a_d a_f a_t a_r a_z a_f_kind a_f_wet a_g a_g_kind a_g_wet a_r_cells a_r_hours a_r_cracked a_s0 a_s0_row a_s1 a_s1_row a_s2 a_s2_row a_s3 a_s3_row d_hour d_traced r_cells r_hours r_cracked r_count Cc hK hA n _ _ _ _ _ _ _ _ _ _ _ _ _ _ _ _ _ _ _ _ _ _ _ _ _ _ _ _ _ _ _ _ _ _ _ _ _ _ _ _ _ _ _ hf _ _ _ hP hD hS (lv_sub hl [3, 6, 7, 8, 1, 0] rfl)
            · replace hf := (if_pos hc57).symm.trans hf
              refine lv_iconst (v := (3 : Int32)) hx hb dX4_plan_103 (by decide) ?_
              refine lv_istore (lv' := [(8, .int (3 : Int32)), (7, .ref a_s3), (6, .int y0), (0, .ref a_d), (1, .int x1), (2, .int x2), (3, .int x3), (4, .int x4), (5, .int x5)]) hx hb dX4_plan_104 hl (by decide) rfl (fun ls hl => ?_)
              exact bX4_plan_106_3 a_d a_f a_t a_r a_z a_f_kind a_f_wet a_g a_g_kind a_g_wet a_r_cells a_r_hours a_r_cracked a_s0 a_s0_row a_s1 a_s1_row a_s2 a_s2_row a_s3 a_s3_row d_hour d_traced r_cells r_hours r_cracked r_count Cc hK hA n _ _ _ _ _ _ _ _ _ _ _ _ _ _ _ _ _ _ _ _ _ _ _ _ _ _ _ _ _ _ _ _ _ _ _ _ _ _ _ _ _ _ _ hf _ _ _ hP hD hS (lv_sub hl [3, 6, 7, 8, 1, 0] rfl)
      · replace hf := (if_pos hc9).symm.trans hf
        refine lv_bipush (v := (-2 : Int32)) hx hb dX4_plan_66 (by decide) ?_
        replace hf := Option.some.inj hf
        obtain ⟨er0, er1⟩ := Prod.mk.inj hf
        obtain ⟨er2, er3⟩ := Prod.mk.inj er1
        obtain ⟨er4, er5⟩ := Prod.mk.inj er3
        obtain ⟨er6, er7⟩ := Prod.mk.inj er5
        obtain ⟨er8, er9⟩ := Prod.mk.inj er7
        obtain ⟨er10, er11⟩ := Prod.mk.inj er9
        obtain ⟨er12, er13⟩ := Prod.mk.inj er11
        obtain ⟨er14, er15⟩ := Prod.mk.inj er13
        obtain ⟨er16, er17⟩ := Prod.mk.inj er15
        obtain ⟨er18, er19⟩ := Prod.mk.inj er17
        obtain ⟨er20, er21⟩ := Prod.mk.inj er19
        obtain ⟨er22, er23⟩ := Prod.mk.inj er21
        obtain ⟨er24, er25⟩ := Prod.mk.inj er23
        clear hf er1 er3 er5 er7 er9 er11 er13 er15 er17 er19 er21 er23
        subst er0
        subst er2
        subst er4
        subst er6
        subst er8
        subst er10
        subst er12
        subst er14
        subst er16
        subst er18
        subst er20
        subst er22
        subst er24
        subst er25
        exact rt_i Cc hK hP hD hS dX4_plan_68
set_option maxHeartbeats 4000000 in
set_option maxRecDepth 100000 in
theorem bX4_plan_36 {p : Program} {l : Launch} {e : Env} {s : State} {m : MethodId} {args : Array Value} {below : List Frame} {meth : Method} {c : Code} {A : Nat → Prop} {D : va_G} {cI cS : ClassId} (a_d a_f a_t a_r a_z a_f_kind a_f_wet a_g a_g_kind a_g_wet a_r_cells a_r_hours a_r_cracked a_s0 a_s0_row a_s1 a_s1_row a_s2 a_s2_row a_s3 a_s3_row : Nat) (d_hour : Int32) (d_traced : Int32) (r_cells : Nat → Int32) (r_hours : Nat → Int32) (r_cracked : Nat → Int32) (r_count : Int32) (Cc : Cx p s m args meth c RX4 cX4_plan 10 (some .int)) (hK : va_K D classes (tysA cI cS) s) (hA : ∀ q, s.heap.size ≤ q → A q) (n : Nat) : ∀ (d_latestFault : Int32) (f_kind : Nat → Int32) (f_wet : Nat → Int32) (f_wide : Int32) (f_rows : Int32) (f_cells : Int32) (f_sun : Int32) (f_all : Int32) (f_firstColumn : Int32) (f_lastColumn : Int32) (t_hours : Int32) (t_opened : Int32) (t_firstWrong : Int32) (g_kind : Nat → Int32) (g_wet : Nat → Int32) (g_wide : Int32) (g_rows : Int32) (g_cells : Int32) (g_sun : Int32) (g_all : Int32) (g_firstColumn : Int32) (g_lastColumn : Int32) (S_row : Nat → Nat → Int32) (S_lane : Nat → Int32) (S_length : Nat → Int32) (x1 : Int32) (x2 : Int32) (x3 : Int32) (x4 : Int32) (x5 : Int32) (r : Int32) (d_latestFault' : Int32) (t_hours' : Int32) (t_opened' : Int32) (t_firstWrong' : Int32) (g_kind' : Nat → Int32) (g_wet' : Nat → Int32) (g_wide' : Int32) (g_rows' : Int32) (g_cells' : Int32) (g_sun' : Int32) (g_all' : Int32) (g_firstColumn' : Int32) (g_lastColumn' : Int32), fX4_plan_36 n d_latestFault f_kind f_wet f_wide f_rows f_cells f_sun f_all f_firstColumn f_lastColumn t_hours t_opened t_firstWrong g_kind g_wet g_wide g_rows g_cells g_sun g_all g_firstColumn g_lastColumn S_row S_lane S_length x1 x2 x3 x4 x5 = some (r, d_latestFault', t_hours', t_opened', t_firstWrong', g_kind', g_wet', g_wide', g_rows', g_cells', g_sun', g_all', g_firstColumn', g_lastColumn') → ∀ (H : Heap) (locs : List Loc) (ls : Array Slot), va_P D classes (W_D cI cS a_d a_f a_t a_r a_z a_f_kind a_f_wet a_g a_g_kind a_g_wet a_r_cells a_r_hours a_r_cracked a_s0 a_s0_row a_s1 a_s1_row a_s2 a_s2_row a_s3 a_s3_row d_hour d_traced d_latestFault f_kind f_wet f_wide f_rows f_cells f_sun f_all f_firstColumn f_lastColumn t_hours t_opened t_firstWrong g_kind g_wet g_wide g_rows g_cells g_sun g_all g_firstColumn g_lastColumn r_cells r_hours r_cracked r_count S_row S_lane S_length) H → va_D A (W_D cI cS a_d a_f a_t a_r a_z a_f_kind a_f_wet a_g a_g_kind a_g_wet a_r_cells a_r_hours a_r_cracked a_s0 a_s0_row a_s1 a_s1_row a_s2 a_s2_row a_s3 a_s3_row d_hour d_traced d_latestFault f_kind f_wet f_wide f_rows f_cells f_sun f_all f_firstColumn f_lastColumn t_hours t_opened t_firstWrong g_kind g_wet g_wide g_rows g_cells g_sun g_all g_firstColumn g_lastColumn r_cells r_hours r_cracked r_count S_row S_lane S_length) → va_S A s.heap H locs → lv_has ls 10 [(0, .ref a_d), (1, .int x1), (2, .int x2), (3, .int x3), (4, .int x4), (5, .int x5)] → W p l e (Rm 6) s m args below meth c H locs 0 0 (MQ below (QW D (tysA cI cS) (some (.int r)) (W_D cI cS a_d a_f a_t a_r a_z a_f_kind a_f_wet a_g a_g_kind a_g_wet a_r_cells a_r_hours a_r_cracked a_s0 a_s0_row a_s1 a_s1_row a_s2 a_s2_row a_s3 a_s3_row d_hour d_traced d_latestFault' f_kind f_wet f_wide f_rows f_cells f_sun f_all f_firstColumn f_lastColumn t_hours' t_opened' t_firstWrong' g_kind' g_wet' g_wide' g_rows' g_cells' g_sun' g_all' g_firstColumn' g_lastColumn' r_cells r_hours r_cracked r_count S_row S_lane S_length) A) args s 0 0 A) (F0 m 36 ls []) := by
  obtain ⟨hx, hb, hr, hml, hown, hts, hlk, hnw⟩ := id Cc
  intro d_latestFault f_kind f_wet f_wide f_rows f_cells f_sun f_all f_firstColumn f_lastColumn t_hours t_opened t_firstWrong g_kind g_wet g_wide g_rows g_cells g_sun g_all g_firstColumn g_lastColumn S_row S_lane S_length x1 x2 x3 x4 x5 r d_latestFault' t_hours' t_opened' t_firstWrong' g_kind' g_wet' g_wide' g_rows' g_cells' g_sun' g_all' g_firstColumn' g_lastColumn' hf H locs ls hP hD hS hl
  unfold fX4_plan_36 at hf
  refine lv_iconst (v := (1 : Int32)) hx hb dX4_plan_36 (by decide) ?_
  refine lv_goto (tgt := 41) hx hb dX4_plan_37 (by decide) ?_
  exact bX4_plan_41 a_d a_f a_t a_r a_z a_f_kind a_f_wet a_g a_g_kind a_g_wet a_r_cells a_r_hours a_r_cracked a_s0 a_s0_row a_s1 a_s1_row a_s2 a_s2_row a_s3 a_s3_row d_hour d_traced r_cells r_hours r_cracked r_count Cc hK hA n _ _ _ _ _ _ _ _ _ _ _ _ _ _ _ _ _ _ _ _ _ _ _ _ _ _ _ _ _ _ _ _ _ _ _ _ _ _ _ _ _ _ _ _ _ hf _ _ _ hP hD hS (lv_sub hl [0, 1, 2, 3, 4, 5] rfl)
set_option maxHeartbeats 4000000 in
set_option maxRecDepth 100000 in
theorem ctX4_plan (l : Launch) (D : va_G) (cI cS : ClassId) (a_d a_f a_t a_r a_z a_f_kind a_f_wet a_g a_g_kind a_g_wet a_r_cells a_r_hours a_r_cracked a_s0 a_s0_row a_s1 a_s1_row a_s2 a_s2_row a_s3 a_s3_row : Nat) (d_hour : Int32) (d_traced : Int32) (d_latestFault : Int32) (f_kind : Nat → Int32) (f_wet : Nat → Int32) (f_wide : Int32) (f_rows : Int32) (f_cells : Int32) (f_sun : Int32) (f_all : Int32) (f_firstColumn : Int32) (f_lastColumn : Int32) (t_hours : Int32) (t_opened : Int32) (t_firstWrong : Int32) (g_kind : Nat → Int32) (g_wet : Nat → Int32) (g_wide : Int32) (g_rows : Int32) (g_cells : Int32) (g_sun : Int32) (g_all : Int32) (g_firstColumn : Int32) (g_lastColumn : Int32) (r_cells : Nat → Int32) (r_hours : Nat → Int32) (r_cracked : Nat → Int32) (r_count : Int32) (S_row : Nat → Nat → Int32) (S_lane : Nat → Int32) (S_length : Nat → Int32) (p1 : Int32) (p2 : Int32) (p3 : Int32) (p4 : Int32) (p5 : Int32) (n : Nat) (r : Int32) (d_latestFault' : Int32) (t_hours' : Int32) (t_opened' : Int32) (t_firstWrong' : Int32) (g_kind' : Nat → Int32) (g_wet' : Nat → Int32) (g_wide' : Int32) (g_rows' : Int32) (g_cells' : Int32) (g_sun' : Int32) (g_all' : Int32) (g_firstColumn' : Int32) (g_lastColumn' : Int32) (hf : fX4_plan n d_latestFault f_kind f_wet f_wide f_rows f_cells f_sun f_all f_firstColumn f_lastColumn t_hours t_opened t_firstWrong g_kind g_wet g_wide g_rows g_cells g_sun g_all g_firstColumn g_lastColumn S_row S_lane S_length p1 p2 p3 p4 p5 = some (r, d_latestFault', t_hours', t_opened', t_firstWrong', g_kind', g_wet', g_wide', g_rows', g_cells', g_sun', g_all', g_firstColumn', g_lastColumn')) : Ct l D (tysA cI cS) yX4_plan cX4_plan 10 (some .int) (Rm 6) [.ref a_d, .int p1, .int p2, .int p3, .int p4, .int p5] (W_D cI cS a_d a_f a_t a_r a_z a_f_kind a_f_wet a_g a_g_kind a_g_wet a_r_cells a_r_hours a_r_cracked a_s0 a_s0_row a_s1 a_s1_row a_s2 a_s2_row a_s3 a_s3_row d_hour d_traced d_latestFault f_kind f_wet f_wide f_rows f_cells f_sun f_all f_firstColumn f_lastColumn t_hours t_opened t_firstWrong g_kind g_wet g_wide g_rows g_cells g_sun g_all g_firstColumn g_lastColumn r_cells r_hours r_cracked r_count S_row S_lane S_length) (some (.int r)) (W_D cI cS a_d a_f a_t a_r a_z a_f_kind a_f_wet a_g a_g_kind a_g_wet a_r_cells a_r_hours a_r_cracked a_s0 a_s0_row a_s1 a_s1_row a_s2 a_s2_row a_s3 a_s3_row d_hour d_traced d_latestFault' f_kind f_wet f_wide f_rows f_cells f_sun f_all f_firstColumn f_lastColumn t_hours' t_opened' t_firstWrong' g_kind' g_wet' g_wide' g_rows' g_cells' g_sun' g_all' g_firstColumn' g_lastColumn' r_cells r_hours r_cracked r_count S_row S_lane S_length) := by
  refine Ct_of (by decide) (Nat.le_of_ble_eq_true rfl) ?_
  intro p e s m args below meth c A ls Cc hK hA hP hD hS hl
  have hl : lv_has ls 10 [(0, .ref a_d), (1, .int p1), (2, .int p2), (3, .int p3), (4, .int p4), (5, .int p5)] := hl
  obtain ⟨hx, hb, hr, hml, hown, hts, hlk, hnw⟩ := id Cc
  unfold fX4_plan at hf
  refine lv_aload_n hx hb dX4_plan_0 rfl (lv_at hl 0 rfl) ?_
  refine lv_iconst (v := (0 : Int32)) hx hb dX4_plan_1 (by decide) ?_
  refine va_put (D := D) (ci := 4) (v := .int (0 : Int32)) (ty := .int) (C := RX4) (T := TX4) (N := 7) hx hb hts inX4 tyX4 tyX4_ok nmX4 hown hK hP hD hS 0 rfl rfl 6 (by decide) (hts _ tw_129) (fun _ h9 => h9) rfl (tyX4_ok 6 (by decide)) rfl rfl (Nat.le_of_ble_eq_true rfl) dX4_plan_2 (fun H locs hP hD hS => ?_)
  have hP : va_P D classes (W_D cI cS a_d a_f a_t a_r a_z a_f_kind a_f_wet a_g a_g_kind a_g_wet a_r_cells a_r_hours a_r_cracked a_s0 a_s0_row a_s1 a_s1_row a_s2 a_s2_row a_s3 a_s3_row d_hour d_traced (0 : Int32) f_kind f_wet f_wide f_rows f_cells f_sun f_all f_firstColumn f_lastColumn t_hours t_opened t_firstWrong g_kind g_wet g_wide g_rows g_cells g_sun g_all g_firstColumn g_lastColumn r_cells r_hours r_cracked r_count S_row S_lane S_length) H := hP
  have hD : va_D A (W_D cI cS a_d a_f a_t a_r a_z a_f_kind a_f_wet a_g a_g_kind a_g_wet a_r_cells a_r_hours a_r_cracked a_s0 a_s0_row a_s1 a_s1_row a_s2 a_s2_row a_s3 a_s3_row d_hour d_traced (0 : Int32) f_kind f_wet f_wide f_rows f_cells f_sun f_all f_firstColumn f_lastColumn t_hours t_opened t_firstWrong g_kind g_wet g_wide g_rows g_cells g_sun g_all g_firstColumn g_lastColumn r_cells r_hours r_cracked r_count S_row S_lane S_length) := hD
  refine lv_iload_n hx hb dX4_plan_5 rfl (lv_at hl 1 rfl) ?_
  obtain ⟨q6_1, hq1, hf⟩ := Option.bind_eq_some_iff.mp hf
  refine cSt (ws' := (W_D cI cS a_d a_f a_t a_r a_z a_f_kind a_f_wet a_g a_g_kind a_g_wet a_r_cells a_r_hours a_r_cracked a_s0 a_s0_row a_s1 a_s1_row a_s2 a_s2_row a_s3 a_s3_row d_hour d_traced (0 : Int32) f_kind f_wet f_wide f_rows f_cells f_sun f_all f_firstColumn f_lastColumn t_hours t_opened t_firstWrong g_kind g_wet g_wide g_rows g_cells g_sun g_all g_firstColumn g_lastColumn r_cells r_hours r_cracked r_count S_row S_lane S_length)) (rest := []) (st1 := [.int q6_1]) Cc hK hA hP hD hS hl.1 (ctX4_isSheet l D cI cS   p1 n q6_1 hq1) ⟨tw_151, tw_149, tw_150, tw_1⟩ mdX4_isSheet ⟨rfl, rfl, Nat.le_of_ble_eq_true rfl, Nat.le_of_ble_eq_true rfl⟩ rfl dX4_plan_6 rfl (Nat.le_of_ble_eq_true rfl) ⟨Nat.zero_le _, Nat.zero_le _⟩ rfl [] [0, 1, 2, 3, 4, 5, 6, 7, 8, 9, 10, 11, 12, 13, 14, 15, 16, 17, 18, 19, 20] [0, 1, 2, 3, 4, 5, 6, 7, 8, 9, 10, 11, 12, 13, 14, 15, 16, 17, 18, 19, 20] rfl rfl (by decide) rfl (fun H locs hP hD hS => ?_)
  refine lv_if_ne (tgt := 14) hx hb dX4_plan_9 (by decide) (fun hc2 => ?_) (fun hc2 => ?_)
  · replace hf := (if_neg hc2).symm.trans hf
    refine lv_iload hx hb dX4_plan_14 (lv_at hl 5 rfl) ?_
    refine lv_iconst (v := (0 : Int32)) hx hb dX4_plan_16 (by decide) ?_
    refine lv_iconst (v := (4 : Int32)) hx hb dX4_plan_17 (by decide) ?_
    obtain ⟨q18_1, hq3, hf⟩ := Option.bind_eq_some_iff.mp hf
    refine cSt (ws' := (W_D cI cS a_d a_f a_t a_r a_z a_f_kind a_f_wet a_g a_g_kind a_g_wet a_r_cells a_r_hours a_r_cracked a_s0 a_s0_row a_s1 a_s1_row a_s2 a_s2_row a_s3 a_s3_row d_hour d_traced (0 : Int32) f_kind f_wet f_wide f_rows f_cells f_sun f_all f_firstColumn f_lastColumn t_hours t_opened t_firstWrong g_kind g_wet g_wide g_rows g_cells g_sun g_all g_firstColumn g_lastColumn r_cells r_hours r_cracked r_count S_row S_lane S_length)) (rest := []) (st1 := [.int q18_1]) Cc hK hA hP hD hS hl.1 (ctX4_within l D cI cS   p5 (0 : Int32) (4 : Int32) n q18_1 hq3) ⟨tw_154, tw_152, tw_153, tw_1⟩ mdX4_within ⟨rfl, rfl, Nat.le_of_ble_eq_true rfl, Nat.le_of_ble_eq_true rfl⟩ rfl dX4_plan_18 rfl (Nat.le_of_ble_eq_true rfl) ⟨Nat.zero_le _, Nat.zero_le _⟩ rfl [] [0, 1, 2, 3, 4, 5, 6, 7, 8, 9, 10, 11, 12, 13, 14, 15, 16, 17, 18, 19, 20] [0, 1, 2, 3, 4, 5, 6, 7, 8, 9, 10, 11, 12, 13, 14, 15, 16, 17, 18, 19, 20] rfl rfl (by decide) rfl (fun H locs hP hD hS => ?_)
    refine lv_if_ne (tgt := 36) hx hb dX4_plan_21 (by decide) (fun hc4 => ?_) (fun hc4 => ?_)
    · replace hf := (if_neg hc4).symm.trans hf
      exact bX4_plan_36 a_d a_f a_t a_r a_z a_f_kind a_f_wet a_g a_g_kind a_g_wet a_r_cells a_r_hours a_r_cracked a_s0 a_s0_row a_s1 a_s1_row a_s2 a_s2_row a_s3 a_s3_row d_hour d_traced r_cells r_hours r_cracked r_count Cc hK hA n _ _ _ _ _ _ _ _ _ _ _ _ _ _ _ _ _ _ _ _ _ _ _ _ _ _ _ _ _ _ _ _ _ _ _ _ _ _ _ _ _ _ _ _ hf _ _ _ hP hD hS (lv_sub hl [0, 1, 2, 3, 4, 5] rfl)
    · replace hf := (if_pos hc4).symm.trans hf
      refine lv_iload hx hb dX4_plan_24 (lv_at hl 5 rfl) ?_
      refine lv_bipush (v := (10 : Int32)) hx hb dX4_plan_26 (by decide) ?_
      refine lv_bipush (v := (21 : Int32)) hx hb dX4_plan_28 (by decide) ?_
      obtain ⟨q30_1, hq58, hf⟩ := Option.bind_eq_some_iff.mp hf
      refine cSt (ws' := (W_D cI cS a_d a_f a_t a_r a_z a_f_kind a_f_wet a_g a_g_kind a_g_wet a_r_cells a_r_hours a_r_cracked a_s0 a_s0_row a_s1 a_s1_row a_s2 a_s2_row a_s3 a_s3_row d_hour d_traced (0 : Int32) f_kind f_wet f_wide f_rows f_cells f_sun f_all f_firstColumn f_lastColumn t_hours t_opened t_firstWrong g_kind g_wet g_wide g_rows g_cells g_sun g_all g_firstColumn g_lastColumn r_cells r_hours r_cracked r_count S_row S_lane S_length)) (rest := []) (st1 := [.int q30_1]) Cc hK hA hP hD hS hl.1 (ctX4_within l D cI cS   p5 (10 : Int32) (21 : Int32) n q30_1 hq58) ⟨tw_154, tw_152, tw_153, tw_1⟩ mdX4_within ⟨rfl, rfl, Nat.le_of_ble_eq_true rfl, Nat.le_of_ble_eq_true rfl⟩ rfl dX4_plan_30 rfl (Nat.le_of_ble_eq_true rfl) ⟨Nat.zero_le _, Nat.zero_le _⟩ rfl [] [0, 1, 2, 3, 4, 5, 6, 7, 8, 9, 10, 11, 12, 13, 14, 15, 16, 17, 18, 19, 20] [0, 1, 2, 3, 4, 5, 6, 7, 8, 9, 10, 11, 12, 13, 14, 15, 16, 17, 18, 19, 20] rfl rfl (by decide) rfl (fun H locs hP hD hS => ?_)
      refine lv_if_eq (tgt := 40) hx hb dX4_plan_33 (by decide) (fun hc59 => ?_) (fun hc59 => ?_)
      · replace hf := (if_pos hc59).symm.trans hf
        refine lv_iconst (v := (0 : Int32)) hx hb dX4_plan_40 (by decide) ?_
        exact bX4_plan_41 a_d a_f a_t a_r a_z a_f_kind a_f_wet a_g a_g_kind a_g_wet a_r_cells a_r_hours a_r_cracked a_s0 a_s0_row a_s1 a_s1_row a_s2 a_s2_row a_s3 a_s3_row d_hour d_traced r_cells r_hours r_cracked r_count Cc hK hA n _ _ _ _ _ _ _ _ _ _ _ _ _ _ _ _ _ _ _ _ _ _ _ _ _ _ _ _ _ _ _ _ _ _ _ _ _ _ _ _ _ _ _ _ _ hf _ _ _ hP hD hS (lv_sub hl [0, 1, 2, 3, 4, 5] rfl)
      · replace hf := (if_neg hc59).symm.trans hf
        exact bX4_plan_36 a_d a_f a_t a_r a_z a_f_kind a_f_wet a_g a_g_kind a_g_wet a_r_cells a_r_hours a_r_cracked a_s0 a_s0_row a_s1 a_s1_row a_s2 a_s2_row a_s3 a_s3_row d_hour d_traced r_cells r_hours r_cracked r_count Cc hK hA n _ _ _ _ _ _ _ _ _ _ _ _ _ _ _ _ _ _ _ _ _ _ _ _ _ _ _ _ _ _ _ _ _ _ _ _ _ _ _ _ _ _ _ _ hf _ _ _ hP hD hS (lv_sub hl [0, 1, 2, 3, 4, 5] rfl)
  · replace hf := (if_pos hc2).symm.trans hf
    refine lv_iconst (v := (-1 : Int32)) hx hb dX4_plan_12 (by decide) ?_
    replace hf := Option.some.inj hf
    obtain ⟨er0, er1⟩ := Prod.mk.inj hf
    obtain ⟨er2, er3⟩ := Prod.mk.inj er1
    obtain ⟨er4, er5⟩ := Prod.mk.inj er3
    obtain ⟨er6, er7⟩ := Prod.mk.inj er5
    obtain ⟨er8, er9⟩ := Prod.mk.inj er7
    obtain ⟨er10, er11⟩ := Prod.mk.inj er9
    obtain ⟨er12, er13⟩ := Prod.mk.inj er11
    obtain ⟨er14, er15⟩ := Prod.mk.inj er13
    obtain ⟨er16, er17⟩ := Prod.mk.inj er15
    obtain ⟨er18, er19⟩ := Prod.mk.inj er17
    obtain ⟨er20, er21⟩ := Prod.mk.inj er19
    obtain ⟨er22, er23⟩ := Prod.mk.inj er21
    obtain ⟨er24, er25⟩ := Prod.mk.inj er23
    clear hf er1 er3 er5 er7 er9 er11 er13 er15 er17 er19 er21 er23
    subst er0
    subst er2
    subst er4
    subst er6
    subst er8
    subst er10
    subst er12
    subst er14
    subst er16
    subst er18
    subst er20
    subst er22
    subst er24
    subst er25
    exact rt_i Cc hK hP hD hS dX4_plan_13
