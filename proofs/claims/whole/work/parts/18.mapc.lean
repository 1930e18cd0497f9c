-- X4_when
def fX4_when_15 (n : Nat) : Nat → (Nat → Int32) → (Nat → Int32) → Int32 → Int32 → Int32 → Int32 → Option (Int32)
  | 0, _, _, _, _, _, _ => none
  | k + 1, f_kind, f_wet, f_cells, f_sun, x1, x2 => if (20 : Int32) < x2 then some ((-9 : Int32)) else (fX0_isCrackedBehind n f_kind f_wet f_cells f_sun x1 x2).bind fun q27_1 => if q27_1 = 0 then fX4_when_15 n k f_kind f_wet f_cells f_sun x1 (x2 + 1) else some (x2)
def fX4_when (n : Nat) (f_kind : Nat → Int32) (f_wet : Nat → Int32) (f_cells : Int32) (f_sun : Int32) (p1 : Int32) : Option (Int32) := (fX0_isCell n f_cells p1).bind fun q5_1 => if q5_1 = 0 then some ((-1 : Int32)) else fX4_when_15 n n f_kind f_wet f_cells f_sun p1 (0 : Int32)
theorem mdX4_when : yX4_when.cls = RX4 ∧ yX4_when.cls ≠ "java/lang/invoke/MethodHandle" ∧ yX4_when.cls ≠ "java/lang/invoke/VarHandle" ∧ (parseMethodDescriptor yX4_when.desc).map (fun d => d.parameters.length) = some 1 := by decide +kernel
set_option maxHeartbeats 4000000 in
set_option maxRecDepth 100000 in
theorem bX4_when_15 {p : Program} {l : Launch} {e : Env} {s : State} {m : MethodId} {args : Array Value} {below : List Frame} {meth : Method} {c : Code} {A : Nat → Prop} {D : va_G} {cI cS : ClassId} (a_d a_f a_t a_r a_z a_f_kind a_f_wet a_g a_g_kind a_g_wet a_r_cells a_r_hours a_r_cracked a_s0 a_s0_row a_s1 a_s1_row a_s2 a_s2_row a_s3 a_s3_row : Nat) (d_hour : Int32) (d_traced : Int32) (d_latestFault : Int32) (f_wide : Int32) (f_rows : Int32) (f_all : Int32) (f_firstColumn : Int32) (f_lastColumn : Int32) (t_hours : Int32) (t_opened : Int32) (t_firstWrong : Int32) (g_kind : Nat → Int32) (g_wet : Nat → Int32) (g_wide : Int32) (g_rows : Int32) (g_cells : Int32) (g_sun : Int32) (g_all : Int32) (g_firstColumn : Int32) (g_lastColumn : Int32) (r_cells : Nat → Int32) (r_hours : Nat → Int32) (r_cracked : Nat → Int32) (r_count : Int32) (S_row : Nat → Nat → Int32) (S_lane : Nat → Int32) (S_length : Nat → Int32) (Cc : Cx p s m args meth c RX4 cX4_when 3 (some .int)) (hK : va_K D classes (tysA cI cS) s) (hA : ∀ q, s.heap.size ≤ q → A q) (n : Nat) : ∀ (k : Nat) (f_kind : Nat → Int32) (f_wet : Nat → Int32) (f_cells : Int32) (f_sun : Int32) (x1 : Int32) (x2 : Int32) (r : Int32), fX4_when_15 n k f_kind f_wet f_cells f_sun x1 x2 = some (r) → ∀ (H : Heap) (locs : List Loc) (ls : Array Slot), va_P D classes (W_D cI cS a_d a_f a_t a_r a_z a_f_kind a_f_wet a_g a_g_kind a_g_wet a_r_cells a_r_hours a_r_cracked a_s0 a_s0_row a_s1 a_s1_row a_s2 a_s2_row a_s3 a_s3_row d_hour d_traced d_latestFault f_kind f_wet f_wide f_rows f_cells f_sun f_all f_firstColumn f_lastColumn t_hours t_opened t_firstWrong g_kind g_wet g_wide g_rows g_cells g_sun g_all g_firstColumn g_lastColumn r_cells r_hours r_cracked r_count S_row S_lane S_length) H → va_D A (W_D cI cS a_d a_f a_t a_r a_z a_f_kind a_f_wet a_g a_g_kind a_g_wet a_r_cells a_r_hours a_r_cracked a_s0 a_s0_row a_s1 a_s1_row a_s2 a_s2_row a_s3 a_s3_row d_hour d_traced d_latestFault f_kind f_wet f_wide f_rows f_cells f_sun f_all f_firstColumn f_lastColumn t_hours t_opened t_firstWrong g_kind g_wet g_wide g_rows g_cells g_sun g_all g_firstColumn g_lastColumn r_cells r_hours r_cracked r_count S_row S_lane S_length) → va_S A s.heap H locs → lv_has ls 3 [(0, .ref a_d), (1, .int x1), (2, .int x2)] → W p l e (Rm 2) s m args below meth c H locs 0 0 (MQ below (QW D (tysA cI cS) (some (.int r)) (W_D cI cS a_d a_f a_t a_r a_z a_f_kind a_f_wet a_g a_g_kind a_g_wet a_r_cells a_r_hours a_r_cracked a_s0 a_s0_row a_s1 a_s1_row a_s2 a_s2_row a_s3 a_s3_row d_hour d_traced d_latestFault f_kind f_wet f_wide f_rows f_cells f_sun f_all f_firstColumn f_lastColumn t_hours t_opened t_firstWrong g_kind g_wet g_wide g_rows g_cells g_sun g_all g_firstColumn g_lastColumn r_cells r_hours r_cracked r_count S_row S_lane S_length) A) args s 0 0 A) (F0 m 15 ls []) := by
  obtain ⟨hx, hb, hr, hml, hown, hts, hlk, hnw⟩ := id Cc
  intro k
  induction k with
  | zero =>
    intro f_kind f_wet f_cells f_sun x1 x2 r hf
    rw [fX4_when_15] at hf
    cases hf
  | succ k ih =>
    intro f_kind f_wet f_cells f_sun x1 x2 r hf H locs ls hP hD hS hl
    rw [fX4_when_15] at hf
    refine lv_iload_n hx hb dX4_when_15 rfl (lv_at hl 2 rfl) ?_
    refine lv_bipush (v := (20 : Int32)) hx hb dX4_when_16 (by decide) ?_
    refine lv_icmp_gt (tgt := 41) hx hb dX4_when_18 (by decide) (fun hc3 => ?_) (fun hc3 => ?_)
    · replace hf := (if_pos hc3).symm.trans hf
      refine lv_bipush (v := (-9 : Int32)) hx hb dX4_when_41 (by decide) ?_
      obtain rfl := Option.some.inj hf
      exact rt_i Cc hK hP hD hS dX4_when_43
    · replace hf := (if_neg hc3).symm.trans hf
      refine lv_aload_n hx hb dX4_when_21 rfl (lv_at hl 0 rfl) ?_
      refine va_get (D := D) (ci := 4) (v := .ref a_f) (C := RX4) (T := TX4) (N := 7) hx hb hts inX4 hown hK hP 0 rfl rfl 0 (by decide) (hts _ tw_123) (fun _ h9 => h9) rfl dX4_when_22 ?_
      refine lv_iload_n hx hb dX4_when_25 rfl (lv_at hl 1 rfl) ?_
      refine lv_iload_n hx hb dX4_when_26 rfl (lv_at hl 2 rfl) ?_
      obtain ⟨q27_1, hq4, hf⟩ := Option.bind_eq_some_iff.mp hf
      refine cV (ws' := (W_D cI cS a_d a_f a_t a_r a_z a_f_kind a_f_wet a_g a_g_kind a_g_wet a_r_cells a_r_hours a_r_cracked a_s0 a_s0_row a_s1 a_s1_row a_s2 a_s2_row a_s3 a_s3_row d_hour d_traced d_latestFault f_kind f_wet f_wide f_rows f_cells f_sun f_all f_firstColumn f_lastColumn t_hours t_opened t_firstWrong g_kind g_wet g_wide g_rows g_cells g_sun g_all g_firstColumn g_lastColumn r_cells r_hours r_cracked r_count S_row S_lane S_length)) (rest := []) (st1 := [.int q27_1]) Cc hK hA hP hD hS hl.1 (ctX0_isCrackedBehind l D cI cS a_f a_f_kind a_f_wet f_kind f_wet f_wide f_rows f_cells f_sun f_all f_firstColumn f_lastColumn x1 x2 n q27_1 hq4) ⟨tw_354, tw_351, tw_352, tw_353, tw_2⟩ mdX0_isCrackedBehind ⟨rfl, rfl, Nat.le_of_ble_eq_true rfl, Nat.le_of_ble_eq_true rfl⟩ rfl dX4_when_27 rfl (Nat.le_of_ble_eq_true rfl) ⟨Nat.zero_le _, Nat.zero_le _⟩ rfl rfl rfl [1, 2, 3] [0, 4, 5, 6, 7, 8, 9, 10, 11, 12, 13, 14, 15, 16, 17, 18, 19, 20] [0, 18, 19, 20, 1, 2, 3, 4, 5, 6, 7, 8, 9, 10, 11, 12, 13, 14, 15, 16, 17] rfl rfl (by decide) rfl (fun H locs hP hD hS => ?_)
      refine lv_if_eq (tgt := 35) hx hb dX4_when_30 (by decide) (fun hc5 => ?_) (fun hc5 => ?_)
      · replace hf := (if_pos hc5).symm.trans hf
        refine lv_iinc (v := (x2 + 1)) (lv' := [(2, .int (x2 + 1)), (0, .ref a_d), (1, .int x1)]) hx hb dX4_when_35 hl (k := 2) rfl rfl (by decide) rfl (fun ls hl => ?_)
        refine lv_goto (tgt := 15) hx hb dX4_when_38 (by decide) ?_
        exact ih _ _ _ _ _ _ _ hf _ _ _ hP hD hS (lv_sub hl [1, 2, 0] rfl)
      · replace hf := (if_neg hc5).symm.trans hf
        refine lv_iload_n hx hb dX4_when_33 rfl (lv_at hl 2 rfl) ?_
        obtain rfl := Option.some.inj hf
        exact rt_i Cc hK hP hD hS dX4_when_34
set_option maxHeartbeats 4000000 in
set_option maxRecDepth 100000 in
theorem ctX4_when (l : Launch) (D : va_G) (cI cS : ClassId) (a_d a_f a_t a_r a_z a_f_kind a_f_wet a_g a_g_kind a_g_wet a_r_cells a_r_hours a_r_cracked a_s0 a_s0_row a_s1 a_s1_row a_s2 a_s2_row a_s3 a_s3_row : Nat) (d_hour : Int32) (d_traced : Int32) (d_latestFault : Int32) (f_kind : Nat → Int32) (f_wet : Nat → Int32) (f_wide : Int32) (f_rows : Int32) (f_cells : Int32) (f_sun : Int32) (f_all : Int32) (f_firstColumn : Int32) (f_lastColumn : Int32) (t_hours : Int32) (t_opened : Int32) (t_firstWrong : Int32) (g_kind : Nat → Int32) (g_wet : Nat → Int32) (g_wide : Int32) (g_rows : Int32) (g_cells : Int32) (g_sun : Int32) (g_all : Int32) (g_firstColumn : Int32) (g_lastColumn : Int32) (r_cells : Nat → Int32) (r_hours : Nat → Int32) (r_cracked : Nat → Int32) (r_count : Int32) (S_row : Nat → Nat → Int32) (S_lane : Nat → Int32) (S_length : Nat → Int32) (p1 : Int32) (n : Nat) (r : Int32) (hf : fX4_when n f_kind f_wet f_cells f_sun p1 = some (r)) : Ct l D (tysA cI cS) yX4_when cX4_when 3 (some .int) (Rm 2) [.ref a_d, .int p1] (W_D cI cS a_d a_f a_t a_r a_z a_f_kind a_f_wet a_g a_g_kind a_g_wet a_r_cells a_r_hours a_r_cracked a_s0 a_s0_row a_s1 a_s1_row a_s2 a_s2_row a_s3 a_s3_row d_hour d_traced d_latestFault f_kind f_wet f_wide f_rows f_cells f_sun f_all f_firstColumn f_lastColumn t_hours t_opened t_firstWrong g_kind g_wet g_wide g_rows g_cells g_sun g_all g_firstColumn g_lastColumn r_cells r_hours r_cracked r_count S_row S_lane S_length) (some (.int r)) (W_D cI cS a_d a_f a_t a_r a_z a_f_kind a_f_wet a_g a_g_kind a_g_wet a_r_cells a_r_hours a_r_cracked a_s0 a_s0_row a_s1 a_s1_row a_s2 a_s2_row a_s3 a_s3_row d_hour d_traced d_latestFault f_kind f_wet f_wide f_rows f_cells f_sun f_all f_firstColumn f_lastColumn t_hours t_opened t_firstWrong g_kind g_wet g_wide g_rows g_cells g_sun g_all g_firstColumn g_lastColumn r_cells r_hours r_cracked r_count S_row S_lane S_length) := by
  refine Ct_of (by decide) (Nat.le_of_ble_eq_true rfl) ?_
  intro p e s m args below meth c A ls Cc hK hA hP hD hS hl
  have hl : lv_has ls 3 [(0, .ref a_d), (1, .int p1)] := hl
  obtain ⟨hx, hb, hr, hml, hown, hts, hlk, hnw⟩ := id Cc
  unfold fX4_when at hf
  refine lv_aload_n hx hb dX4_when_0 rfl (lv_at hl 0 rfl) ?_
  refine va_get (D := D) (ci := 4) (v := .ref a_f) (C := RX4) (T := TX4) (N := 7) hx hb hts inX4 hown hK hP 0 rfl rfl 0 (by decide) (hts _ tw_123) (fun _ h9 => h9) rfl dX4_when_1 ?_
  refine lv_iload_n hx hb dX4_when_4 rfl (lv_at hl 1 rfl) ?_
  obtain ⟨q5_1, hq1, hf⟩ := Option.bind_eq_some_iff.mp hf
  refine cV (ws' := (W_D cI cS a_d a_f a_t a_r a_z a_f_kind a_f_wet a_g a_g_kind a_g_wet a_r_cells a_r_hours a_r_cracked a_s0 a_s0_row a_s1 a_s1_row a_s2 a_s2_row a_s3 a_s3_row d_hour d_traced d_latestFault f_kind f_wet f_wide f_rows f_cells f_sun f_all f_firstColumn f_lastColumn t_hours t_opened t_firstWrong g_kind g_wet g_wide g_rows g_cells g_sun g_all g_firstColumn g_lastColumn r_cells r_hours r_cracked r_count S_row S_lane S_length)) (rest := []) (st1 := [.int q5_1]) Cc hK hA hP hD hS hl.1 (ctX0_isCell l D cI cS a_f a_f_kind a_f_wet f_kind f_wet f_wide f_rows f_cells f_sun f_all f_firstColumn f_lastColumn p1 n q5_1 hq1) ⟨tw_218, tw_215, tw_216, tw_217, tw_2⟩ mdX0_isCell ⟨rfl, rfl, Nat.le_of_ble_eq_true rfl, Nat.le_of_ble_eq_true rfl⟩ rfl dX4_when_5 rfl (Nat.le_of_ble_eq_true rfl) ⟨Nat.zero_le _, Nat.zero_le _⟩ rfl rfl rfl [1, 2, 3] [0, 4, 5, 6, 7, 8, 9, 10, 11, 12, 13, 14, 15, 16, 17, 18, 19, 20] [0, 18, 19, 20, 1, 2, 3, 4, 5, 6, 7, 8, 9, 10, 11, 12, 13, 14, 15, 16, 17] rfl rfl (by decide) rfl (fun H locs hP hD hS => ?_)
  refine lv_if_ne (tgt := 13) hx hb dX4_when_8 (by decide) (fun hc2 => ?_) (fun hc2 => ?_)
  · replace hf := (if_neg hc2).symm.trans hf
    refine lv_iconst (v := (0 : Int32)) hx hb dX4_when_13 (by decide) ?_
    refine lv_istore_n (lv' := [(2, .int (0 : Int32)), (0, .ref a_d), (1, .int p1)]) hx hb dX4_when_14 rfl hl (by decide) rfl (fun ls hl => ?_)
    exact bX4_when_15 a_d a_f a_t a_r a_z a_f_kind a_f_wet a_g a_g_kind a_g_wet a_r_cells a_r_hours a_r_cracked a_s0 a_s0_row a_s1 a_s1_row a_s2 a_s2_row a_s3 a_s3_row d_hour d_traced d_latestFault f_wide f_rows f_all f_firstColumn f_lastColumn t_hours t_opened t_firstWrong g_kind g_wet g_wide g_rows g_cells g_sun g_all g_firstColumn g_lastColumn r_cells r_hours r_cracked r_count S_row S_lane S_length Cc hK hA n n _ _ _ _ _ _ _ hf _ _ _ hP hD hS (lv_sub hl [1, 2, 0] rfl)
  · replace hf := (if_pos hc2).symm.trans hf
    refine lv_iconst (v := (-1 : Int32)) hx hb dX4_when_11 (by decide) ?_
    obtain rfl := Option.some.inj hf
    exact rt_i Cc hK hP hD hS dX4_when_12
-- X4_opens
def fX4_opens_15 (n : Nat) : Nat → (Nat → Int32) → (Nat → Int32) → Int32 → Int32 → Int32 → Int32 → Int32 → Int32 → Int32 → Option (Int32)
  | 0, _, _, _, _, _, _, _, _, _ => none
  | k + 1, f_kind, f_wet, f_wide, f_cells, f_sun, f_all, f_firstColumn, f_lastColumn, x1 => if (20 : Int32) < x1 then some ((-9 : Int32)) else (fX0_crackedSetBehind n f_kind f_wet f_cells f_sun x1).bind fun q30_1 => (fX0_isOpenBy n f_wide f_cells f_all f_firstColumn f_lastColumn q30_1).bind fun q33_2 => if q33_2 = 0 then fX4_opens_15 n k f_kind f_wet f_wide f_cells f_sun f_all f_firstColumn f_lastColumn (x1 + 1) else some (x1)
def fX4_opens (n : Nat) (f_kind : Nat → Int32) (f_wet : Nat → Int32) (f_wide : Int32) (f_cells : Int32) (f_sun : Int32) (f_all : Int32) (f_firstColumn : Int32) (f_lastColumn : Int32)  : Option (Int32) := (fX0_isThere n f_cells).bind fun q4_1 => if q4_1 = 0 then some ((-3 : Int32)) else fX4_opens_15 n n f_kind f_wet f_wide f_cells f_sun f_all f_firstColumn f_lastColumn (0 : Int32)
theorem mdX4_opens : yX4_opens.cls = RX4 ∧ yX4_opens.cls ≠ "java/lang/invoke/MethodHandle" ∧ yX4_opens.cls ≠ "java/lang/invoke/VarHandle" ∧ (parseMethodDescriptor yX4_opens.desc).map (fun d => d.parameters.length) = some 0 := by decide +kernel
set_option maxHeartbeats 4000000 in
set_option maxRecDepth 100000 in
theorem bX4_opens_15 {p : Program} {l : Launch} {e : Env} {s : State} {m : MethodId} {args : Array Value} {below : List Frame} {meth : Method} {c : Code} {A : Nat → Prop} {D : va_G} {cI cS : ClassId} (a_d a_f a_t a_r a_z a_f_kind a_f_wet a_g a_g_kind a_g_wet a_r_cells a_r_hours a_r_cracked a_s0 a_s0_row a_s1 a_s1_row a_s2 a_s2_row a_s3 a_s3_row : Nat) (d_hour : Int32) (d_traced : Int32) (d_latestFault : Int32) (f_rows : Int32) (t_hours : Int32) (t_opened : Int32) (t_firstWrong : Int32) (g_kind : Nat → Int32) (g_wet : Nat → Int32) (g_wide : Int32) (g_rows : Int32) (g_cells : Int32) (g_sun : Int32) (g_all : Int32) (g_firstColumn : Int32) (g_lastColumn : Int32) (r_cells : Nat → Int32) (r_hours : Nat → Int32) (r_cracked : Nat → Int32) (r_count : Int32) (S_row : Nat → Nat → Int32) (S_lane : Nat → Int32) (S_length : Nat → Int32) (Cc : Cx p s m args meth c RX4 cX4_opens 2 (some .int)) (hK : va_K D classes (tysA cI cS) s) (hA : ∀ q, s.heap.size ≤ q → A q) (n : Nat) : ∀ (k : Nat) (f_kind : Nat → Int32) (f_wet : Nat → Int32) (f_wide : Int32) (f_cells : Int32) (f_sun : Int32) (f_all : Int32) (f_firstColumn : Int32) (f_lastColumn : Int32) (x1 : Int32) (r : Int32), fX4_opens_15 n k f_kind f_wet f_wide f_cells f_sun f_all f_firstColumn f_lastColumn x1 = some (r) → ∀ (H : Heap) (locs : List Loc) (ls : Array Slot), va_P D classes (W_D cI cS a_d a_f a_t a_r a_z a_f_kind a_f_wet a_g a_g_kind a_g_wet a_r_cells a_r_hours a_r_cracked a_s0 a_s0_row a_s1 a_s1_row a_s2 a_s2_row a_s3 a_s3_row d_hour d_traced d_latestFault f_kind f_wet f_wide f_rows f_cells f_sun f_all f_firstColumn f_lastColumn t_hours t_opened t_firstWrong g_kind g_wet g_wide g_rows g_cells g_sun g_all g_firstColumn g_lastColumn r_cells r_hours r_cracked r_count S_row S_lane S_length) H → va_D A (W_D cI cS a_d a_f a_t a_r a_z a_f_kind a_f_wet a_g a_g_kind a_g_wet a_r_cells a_r_hours a_r_cracked a_s0 a_s0_row a_s1 a_s1_row a_s2 a_s2_row a_s3 a_s3_row d_hour d_traced d_latestFault f_kind f_wet f_wide f_rows f_cells f_sun f_all f_firstColumn f_lastColumn t_hours t_opened t_firstWrong g_kind g_wet g_wide g_rows g_cells g_sun g_all g_firstColumn g_lastColumn r_cells r_hours r_cracked r_count S_row S_lane S_length) → va_S A s.heap H locs → lv_has ls 2 [(0, .ref a_d), (1, .int x1)] → W p l e (Rm 3) s m args below meth c H locs 0 0 (MQ below (QW D (tysA cI cS) (some (.int r)) (W_D cI cS a_d a_f a_t a_r a_z a_f_kind a_f_wet a_g a_g_kind a_g_wet a_r_cells a_r_hours a_r_cracked a_s0 a_s0_row a_s1 a_s1_row a_s2 a_s2_row a_s3 a_s3_row d_hour d_traced d_latestFault f_kind f_wet f_wide f_rows f_cells f_sun f_all f_firstColumn f_lastColumn t_hours t_opened t_firstWrong g_kind g_wet g_wide g_rows g_cells g_sun g_all g_firstColumn g_lastColumn r_cells r_hours r_cracked r_count S_row S_lane S_length) A) args s 0 0 A) (F0 m 15 ls []) := by
  obtain ⟨hx, hb, hr, hml, hown, hts, hlk, hnw⟩ := id Cc
  intro k
  induction k with
  | zero =>
    intro f_kind f_wet f_wide f_cells f_sun f_all f_firstColumn f_lastColumn x1 r hf
    rw [fX4_opens_15] at hf
    cases hf
  | succ k ih =>
    intro f_kind f_wet f_wide f_cells f_sun f_all f_firstColumn f_lastColumn x1 r hf H locs ls hP hD hS hl
    rw [fX4_opens_15] at hf
    refine lv_iload_n hx hb dX4_opens_15 rfl (lv_at hl 1 rfl) ?_
    refine lv_bipush (v := (20 : Int32)) hx hb dX4_opens_16 (by decide) ?_
    refine lv_icmp_gt (tgt := 47) hx hb dX4_opens_18 (by decide) (fun hc3 => ?_) (fun hc3 => ?_)
    · replace hf := (if_pos hc3).symm.trans hf
      refine lv_bipush (v := (-9 : Int32)) hx hb dX4_opens_47 (by decide) ?_
      obtain rfl := Option.some.inj hf
      exact rt_i Cc hK hP hD hS dX4_opens_49
    · replace hf := (if_neg hc3).symm.trans hf
      refine lv_aload_n hx hb dX4_opens_21 rfl (lv_at hl 0 rfl) ?_
      refine va_get (D := D) (ci := 4) (v := .ref a_f) (C := RX4) (T := TX4) (N := 7) hx hb hts inX4 hown hK hP 0 rfl rfl 0 (by decide) (hts _ tw_123) (fun _ h9 => h9) rfl dX4_opens_22 ?_
      refine lv_aload_n hx hb dX4_opens_25 rfl (lv_at hl 0 rfl) ?_
      refine va_get (D := D) (ci := 4) (v := .ref a_f) (C := RX4) (T := TX4) (N := 7) hx hb hts inX4 hown hK hP 0 rfl rfl 0 (by decide) (hts _ tw_123) (fun _ h9 => h9) rfl dX4_opens_26 ?_
      refine lv_iload_n hx hb dX4_opens_29 rfl (lv_at hl 1 rfl) ?_
      obtain ⟨q30_1, hq4, hf⟩ := Option.bind_eq_some_iff.mp hf
      refine cV (ws' := (W_D cI cS a_d a_f a_t a_r a_z a_f_kind a_f_wet a_g a_g_kind a_g_wet a_r_cells a_r_hours a_r_cracked a_s0 a_s0_row a_s1 a_s1_row a_s2 a_s2_row a_s3 a_s3_row d_hour d_traced d_latestFault f_kind f_wet f_wide f_rows f_cells f_sun f_all f_firstColumn f_lastColumn t_hours t_opened t_firstWrong g_kind g_wet g_wide g_rows g_cells g_sun g_all g_firstColumn g_lastColumn r_cells r_hours r_cracked r_count S_row S_lane S_length)) (rest := [.ref a_f]) (st1 := [.int q30_1, .ref a_f]) Cc hK hA hP hD hS hl.1 (ctX0_crackedSetBehind l D cI cS a_f a_f_kind a_f_wet f_kind f_wet f_wide f_rows f_cells f_sun f_all f_firstColumn f_lastColumn x1 n q30_1 hq4) ⟨tw_362, tw_359, tw_360, tw_361, tw_2⟩ mdX0_crackedSetBehind ⟨rfl, rfl, Nat.le_of_ble_eq_true rfl, Nat.le_of_ble_eq_true rfl⟩ rfl dX4_opens_30 rfl (Nat.le_of_ble_eq_true rfl) ⟨Nat.zero_le _, Nat.zero_le _⟩ rfl rfl rfl [1, 2, 3] [0, 4, 5, 6, 7, 8, 9, 10, 11, 12, 13, 14, 15, 16, 17, 18, 19, 20] [0, 18, 19, 20, 1, 2, 3, 4, 5, 6, 7, 8, 9, 10, 11, 12, 13, 14, 15, 16, 17] rfl rfl (by decide) rfl (fun H locs hP hD hS => ?_)
      obtain ⟨q33_2, hq5, hf⟩ := Option.bind_eq_some_iff.mp hf
      refine cV (ws' := (W_D cI cS a_d a_f a_t a_r a_z a_f_kind a_f_wet a_g a_g_kind a_g_wet a_r_cells a_r_hours a_r_cracked a_s0 a_s0_row a_s1 a_s1_row a_s2 a_s2_row a_s3 a_s3_row d_hour d_traced d_latestFault f_kind f_wet f_wide f_rows f_cells f_sun f_all f_firstColumn f_lastColumn t_hours t_opened t_firstWrong g_kind g_wet g_wide g_rows g_cells g_sun g_all g_firstColumn g_lastColumn r_cells r_hours r_cracked r_count S_row S_lane S_length)) (rest := []) (st1 := [.int q33_2]) Cc hK hA hP hD hS hl.1 (ctX0_isOpenBy l D cI cS a_f a_f_kind a_f_wet f_kind f_wet f_wide f_rows f_cells f_sun f_all f_firstColumn f_lastColumn q30_1 n q33_2 hq5) ⟨tw_286, tw_283, tw_284, tw_285, tw_2⟩ mdX0_isOpenBy ⟨rfl, rfl, Nat.le_of_ble_eq_true rfl, Nat.le_of_ble_eq_true rfl⟩ rfl dX4_opens_33 rfl (Nat.le_of_ble_eq_true rfl) ⟨Nat.zero_le _, Nat.zero_le _⟩ rfl rfl rfl [1, 2, 3] [0, 4, 5, 6, 7, 8, 9, 10, 11, 12, 13, 14, 15, 16, 17, 18, 19, 20] [0, 18, 19, 20, 1, 2, 3, 4, 5, 6, 7, 8, 9, 10, 11, 12, 13, 14, 15, 16, 17] rfl rfl (by decide) rfl (fun H locs hP hD hS => ?_)
      refine lv_if_eq (tgt := 41) hx hb dX4_opens_36 (by decide) (fun hc6 => ?_) (fun hc6 => ?_)
      · replace hf := (if_pos hc6).symm.trans hf
        refine lv_iinc (v := (x1 + 1)) (lv' := [(1, .int (x1 + 1)), (0, .ref a_d)]) hx hb dX4_opens_41 hl (k := 1) rfl rfl (by decide) rfl (fun ls hl => ?_)
        refine lv_goto (tgt := 15) hx hb dX4_opens_44 (by decide) ?_
        exact ih _ _ _ _ _ _ _ _ _ _ hf _ _ _ hP hD hS (lv_sub hl [1, 0] rfl)
      · replace hf := (if_neg hc6).symm.trans hf
        refine lv_iload_n hx hb dX4_opens_39 rfl (lv_at hl 1 rfl) ?_
        obtain rfl := Option.some.inj hf
        exact rt_i Cc hK hP hD hS dX4_opens_40
set_option maxHeartbeats 4000000 in
set_option maxRecDepth 100000 in
theorem ctX4_opens (l : Launch) (D : va_G) (cI cS : ClassId) (a_d a_f a_t a_r a_z a_f_kind a_f_wet a_g a_g_kind a_g_wet a_r_cells a_r_hours a_r_cracked a_s0 a_s0_row a_s1 a_s1_row a_s2 a_s2_row a_s3 a_s3_row : Nat) (d_hour : Int32) (d_traced : Int32) (d_latestFault : Int32) (f_kind : Nat → Int32) (f_wet : Nat → Int32) (f_wide : Int32) (f_rows : Int32) (f_cells : Int32) (f_sun : Int32) (f_all : Int32) (f_firstColumn : Int32) (f_lastColumn : Int32) (t_hours : Int32) (t_opened : Int32) (t_firstWrong : Int32) (g_kind : Nat → Int32) (g_wet : Nat → Int32) (g_wide : Int32) (g_rows : Int32) (g_cells : Int32) (g_sun : Int32) (g_all : Int32) (g_firstColumn : Int32) (g_lastColumn : Int32) (r_cells : Nat → Int32) (r_hours : Nat → Int32) (r_cracked : Nat → Int32) (r_count : Int32) (S_row : Nat → Nat → Int32) (S_lane : Nat → Int32) (S_length : Nat → Int32)  (n : Nat) (r : Int32) (hf : fX4_opens n f_kind f_wet f_wide f_cells f_sun f_all f_firstColumn f_lastColumn  = some (r)) : Ct l D (tysA cI cS) yX4_opens cX4_opens 2 (some .int) (Rm 3) [.ref a_d] (W_D cI cS a_d a_f a_t a_r a_z a_f_kind a_f_wet a_g a_g_kind a_g_wet a_r_cells a_r_hours a_r_cracked a_s0 a_s0_row a_s1 a_s1_row a_s2 a_s2_row a_s3 a_s3_row d_hour d_traced d_latestFault f_kind f_wet f_wide f_rows f_cells f_sun f_all f_firstColumn f_lastColumn t_hours t_opened t_firstWrong g_kind g_wet g_wide g_rows g_cells g_sun g_all g_firstColumn g_lastColumn r_cells r_hours r_cracked r_count S_row S_lane S_length) (some (.int r)) (W_D cI cS a_d a_f a_t a_r a_z a_f_kind a_f_wet a_g a_g_kind a_g_wet a_r_cells a_r_hours a_r_cracked a_s0 a_s0_row a_s1 a_s1_row a_s2 a_s2_row a_s3 a_s3_row d_hour d_traced d_latestFault f_kind f_wet f_wide f_rows f_cells f_sun f_all f_firstColumn f_lastColumn t_hours t_opened t_firstWrong g_kind g_wet g_wide g_rows g_cells g_sun g_all g_firstColumn g_lastColumn r_cells r_hours r_cracked r_count S_row S_lane S_length) := by
  refine Ct_of (by decide) (Nat.le_of_ble_eq_true rfl) ?_
  intro p e s m args below meth c A ls Cc hK hA hP hD hS hl
  have hl : lv_has ls 2 [(0, .ref a_d)] := hl
  obtain ⟨hx, hb, hr, hml, hown, hts, hlk, hnw⟩ := id Cc
  unfold fX4_opens at hf
  refine lv_aload_n hx hb dX4_opens_0 rfl (lv_at hl 0 rfl) ?_
  refine va_get (D := D) (ci := 4) (v := .ref a_f) (C := RX4) (T := TX4) (N := 7) hx hb hts inX4 hown hK hP 0 rfl rfl 0 (by decide) (hts _ tw_123) (fun _ h9 => h9) rfl dX4_opens_1 ?_
  obtain ⟨q4_1, hq1, hf⟩ := Option.bind_eq_some_iff.mp hf
  refine cV (ws' := (W_D cI cS a_d a_f a_t a_r a_z a_f_kind a_f_wet a_g a_g_kind a_g_wet a_r_cells a_r_hours a_r_cracked a_s0 a_s0_row a_s1 a_s1_row a_s2 a_s2_row a_s3 a_s3_row d_hour d_traced d_latestFault f_kind f_wet f_wide f_rows f_cells f_sun f_all f_firstColumn f_lastColumn t_hours t_opened t_firstWrong g_kind g_wet g_wide g_rows g_cells g_sun g_all g_firstColumn g_lastColumn r_cells r_hours r_cracked r_count S_row S_lane S_length)) (rest := []) (st1 := [.int q4_1]) Cc hK hA hP hD hS hl.1 (ctX0_isThere l D cI cS a_f a_f_kind a_f_wet f_kind f_wet f_wide f_rows f_cells f_sun f_all f_firstColumn f_lastColumn  n q4_1 hq1) ⟨tw_252, tw_249, tw_250, tw_251, tw_2⟩ mdX0_isThere ⟨rfl, rfl, Nat.le_of_ble_eq_true rfl, Nat.le_of_ble_eq_true rfl⟩ rfl dX4_opens_4 rfl (Nat.le_of_ble_eq_true rfl) ⟨Nat.zero_le _, Nat.zero_le _⟩ rfl rfl rfl [1, 2, 3] [0, 4, 5, 6, 7, 8, 9, 10, 11, 12, 13, 14, 15, 16, 17, 18, 19, 20] [0, 18, 19, 20, 1, 2, 3, 4, 5, 6, 7, 8, 9, 10, 11, 12, 13, 14, 15, 16, 17] rfl rfl (by decide) rfl (fun H locs hP hD hS => ?_)
  refine lv_if_ne (tgt := 13) hx hb dX4_opens_7 (by decide) (fun hc2 => ?_) (fun hc2 => ?_)
  · replace hf := (if_neg hc2).symm.trans hf
    refine lv_iconst (v := (0 : Int32)) hx hb dX4_opens_13 (by decide) ?_
    refine lv_istore_n (lv' := [(1, .int (0 : Int32)), (0, .ref a_d)]) hx hb dX4_opens_14 rfl hl (by decide) rfl (fun ls hl => ?_)
    exact bX4_opens_15 a_d a_f a_t a_r a_z a_f_kind a_f_wet a_g a_g_kind a_g_wet a_r_cells a_r_hours a_r_cracked a_s0 a_s0_row a_s1 a_s1_row a_s2 a_s2_row a_s3 a_s3_row d_hour d_traced d_latestFault f_rows t_hours t_opened t_firstWrong g_kind g_wet g_wide g_rows g_cells g_sun g_all g_firstColumn g_lastColumn r_cells r_hours r_cracked r_count S_row S_lane S_length Cc hK hA n n _ _ _ _ _ _ _ _ _ _ hf _ _ _ hP hD hS (lv_sub hl [1, 0] rfl)
  · replace hf := (if_pos hc2).symm.trans hf
    refine lv_bipush (v := (-3 : Int32)) hx hb dX4_opens_10 (by decide) ?_
    obtain rfl := Option.some.inj hf
    exact rt_i Cc hK hP hD hS dX4_opens_12
-- X4_bars
def fX4_bars (n : Nat) (f_kind : Nat → Int32) (f_wet : Nat → Int32) (f_wide : Int32) (f_cells : Int32) (f_sun : Int32) (f_all : Int32) (f_firstColumn : Int32) (f_lastColumn : Int32) (p1 : Int32) : Option (Int32) := (fX4_within n p1 (0 : Int32) (20 : Int32)).bind fun q4_1 => if q4_1 = 0 then some ((-2 : Int32)) else (fX0_isThere n f_cells).bind fun q17_1 => if q17_1 = 0 then some ((-3 : Int32)) else (fX0_crackedSetBehind n f_kind f_wet f_cells f_sun p1).bind fun q35_1 => (fX0_fewestBars n f_wide f_cells f_all f_firstColumn f_lastColumn q35_1).bind fun q38_2 => some (q38_2)
theorem mdX4_bars : yX4_bars.cls = RX4 ∧ yX4_bars.cls ≠ "java/lang/invoke/MethodHandle" ∧ yX4_bars.cls ≠ "java/lang/invoke/VarHandle" ∧ (parseMethodDescriptor yX4_bars.desc).map (fun d => d.parameters.length) = some 1 := by decide +kernel
set_option maxHeartbeats 4000000 in
set_option maxRecDepth 100000 in
theorem ctX4_bars (l : Launch) (D : va_G) (cI cS : ClassId) (a_d a_f a_t a_r a_z a_f_kind a_f_wet a_g a_g_kind a_g_wet a_r_cells a_r_hours a_r_cracked a_s0 a_s0_row a_s1 a_s1_row a_s2 a_s2_row a_s3 a_s3_row : Nat) (d_hour : Int32) (d_traced : Int32) (d_latestFault : Int32) (f_kind : Nat → Int32) (f_wet : Nat → Int32) (f_wide : Int32) (f_rows : Int32) (f_cells : Int32) (f_sun : Int32) (f_all : Int32) (f_firstColumn : Int32) (f_lastColumn : Int32) (t_hours : Int32) (t_opened : Int32) (t_firstWrong : Int32) (g_kind : Nat → Int32) (g_wet : Nat → Int32) (g_wide : Int32) (g_rows : Int32) (g_cells : Int32) (g_sun : Int32) (g_all : Int32) (g_firstColumn : Int32) (g_lastColumn : Int32) (r_cells : Nat → Int32) (r_hours : Nat → Int32) (r_cracked : Nat → Int32) (r_count : Int32) (S_row : Nat → Nat → Int32) (S_lane : Nat → Int32) (S_length : Nat → Int32) (p1 : Int32) (n : Nat) (r : Int32) (hf : fX4_bars n f_kind f_wet f_wide f_cells f_sun f_all f_firstColumn f_lastColumn p1 = some (r)) : Ct l D (tysA cI cS) yX4_bars cX4_bars 2 (some .int) (Rm 4) [.ref a_d, .int p1] (W_D cI cS a_d a_f a_t a_r a_z a_f_kind a_f_wet a_g a_g_kind a_g_wet a_r_cells a_r_hours a_r_cracked a_s0 a_s0_row a_s1 a_s1_row a_s2 a_s2_row a_s3 a_s3_row d_hour d_traced d_latestFault f_kind f_wet f_wide f_rows f_cells f_sun f_all f_firstColumn f_lastColumn t_hours t_opened t_firstWrong g_kind g_wet g_wide g_rows g_cells g_sun g_all g_firstColumn g_lastColumn r_cells r_hours r_cracked r_count S_row S_lane S_length) (some (.int r)) (W_D cI cS a_d a_f a_t a_r a_z a_f_kind a_f_wet a_g a_g_kind a_g_wet a_r_cells a_r_hours a_r_cracked a_s0 a_s0_row a_s1 a_s1_row a_s2 a_s2_row a_s3 a_s3_row d_hour d_traced d_latestFault f_kind f_wet f_wide f_rows f_cells f_sun f_all f_firstColumn f_lastColumn t_hours t_opened t_firstWrong g_kind g_wet g_wide g_rows g_cells g_sun g_all g_firstColumn g_lastColumn r_cells r_hours r_cracked r_count S_row S_lane S_length) := by
  refine Ct_of (by decide) (Nat.le_of_ble_eq_true rfl) ?_
  intro p e s m args below meth c A ls Cc hK hA hP hD hS hl
  have hl : lv_has ls 2 [(0, .ref a_d), (1, .int p1)] := hl
  obtain ⟨hx, hb, hr, hml, hown, hts, hlk, hnw⟩ := id Cc
  unfold fX4_bars at hf
  refine lv_iload_n hx hb dX4_bars_0 rfl (lv_at hl 1 rfl) ?_
  refine lv_iconst (v := (0 : Int32)) hx hb dX4_bars_1 (by decide) ?_
  refine lv_bipush (v := (20 : Int32)) hx hb dX4_bars_2 (by decide) ?_
  obtain ⟨q4_1, hq1, hf⟩ := Option.bind_eq_some_iff.mp hf
  refine cSt (ws' := (W_D cI cS a_d a_f a_t a_r a_z a_f_kind a_f_wet a_g a_g_kind a_g_wet a_r_cells a_r_hours a_r_cracked a_s0 a_s0_row a_s1 a_s1_row a_s2 a_s2_row a_s3 a_s3_row d_hour d_traced d_latestFault f_kind f_wet f_wide f_rows f_cells f_sun f_all f_firstColumn f_lastColumn t_hours t_opened t_firstWrong g_kind g_wet g_wide g_rows g_cells g_sun g_all g_firstColumn g_lastColumn r_cells r_hours r_cracked r_count S_row S_lane S_length)) (rest := []) (st1 := [.int q4_1]) Cc hK hA hP hD hS hl.1 (ctX4_within l D cI cS   p1 (0 : Int32) (20 : Int32) n q4_1 hq1) ⟨tw_154, tw_152, tw_153, tw_1⟩ mdX4_within ⟨rfl, rfl, Nat.le_of_ble_eq_true rfl, Nat.le_of_ble_eq_true rfl⟩ rfl dX4_bars_4 rfl (Nat.le_of_ble_eq_true rfl) ⟨Nat.zero_le _, Nat.zero_le _⟩ rfl [] [0, 1, 2, 3, 4, 5, 6, 7, 8, 9, 10, 11, 12, 13, 14, 15, 16, 17, 18, 19, 20] [0, 1, 2, 3, 4, 5, 6, 7, 8, 9, 10, 11, 12, 13, 14, 15, 16, 17, 18, 19, 20] rfl rfl (by decide) rfl (fun H locs hP hD hS => ?_)
  refine lv_if_ne (tgt := 13) hx hb dX4_bars_7 (by decide) (fun hc2 => ?_) (fun hc2 => ?_)
  · replace hf := (if_neg hc2).symm.trans hf
    refine lv_aload_n hx hb dX4_bars_13 rfl (lv_at hl 0 rfl) ?_
    refine va_get (D := D) (ci := 4) (v := .ref a_f) (C := RX4) (T := TX4) (N := 7) hx hb hts inX4 hown hK hP 0 rfl rfl 0 (by decide) (hts _ tw_123) (fun _ h9 => h9) rfl dX4_bars_14 ?_
    obtain ⟨q17_1, hq3, hf⟩ := Option.bind_eq_some_iff.mp hf
    refine cV (ws' := (W_D cI cS a_d a_f a_t a_r a_z a_f_kind a_f_wet a_g a_g_kind a_g_wet a_r_cells a_r_hours a_r_cracked a_s0 a_s0_row a_s1 a_s1_row a_s2 a_s2_row a_s3 a_s3_row d_hour d_traced d_latestFault f_kind f_wet f_wide f_rows f_cells f_sun f_all f_firstColumn f_lastColumn t_hours t_opened t_firstWrong g_kind g_wet g_wide g_rows g_cells g_sun g_all g_firstColumn g_lastColumn r_cells r_hours r_cracked r_count S_row S_lane S_length)) (rest := []) (st1 := [.int q17_1]) Cc hK hA hP hD hS hl.1 (ctX0_isThere l D cI cS a_f a_f_kind a_f_wet f_kind f_wet f_wide f_rows f_cells f_sun f_all f_firstColumn f_lastColumn  n q17_1 hq3) ⟨tw_252, tw_249, tw_250, tw_251, tw_2⟩ mdX0_isThere ⟨rfl, rfl, Nat.le_of_ble_eq_true rfl, Nat.le_of_ble_eq_true rfl⟩ rfl dX4_bars_17 rfl (Nat.le_of_ble_eq_true rfl) ⟨Nat.zero_le _, Nat.zero_le _⟩ rfl rfl rfl [1, 2, 3] [0, 4, 5, 6, 7, 8, 9, 10, 11, 12, 13, 14, 15, 16, 17, 18, 19, 20] [0, 18, 19, 20, 1, 2, 3, 4, 5, 6, 7, 8, 9, 10, 11, 12, 13, 14, 15, 16, 17] rfl rfl (by decide) rfl (fun H locs hP hD hS => ?_)
    refine lv_if_ne (tgt := 26) hx hb dX4_bars_20 (by decide) (fun hc4 => ?_) (fun hc4 => ?_)
    · replace hf := (if_neg hc4).symm.trans hf
      refine lv_aload_n hx hb dX4_bars_26 rfl (lv_at hl 0 rfl) ?_
      refine va_get (D := D) (ci := 4) (v := .ref a_f) (C := RX4) (T := TX4) (N := 7) hx hb hts inX4 hown hK hP 0 rfl rfl 0 (by decide) (hts _ tw_123) (fun _ h9 => h9) rfl dX4_bars_27 ?_
      refine lv_aload_n hx hb dX4_bars_30 rfl (lv_at hl 0 rfl) ?_
      refine va_get (D := D) (ci := 4) (v := .ref a_f) (C := RX4) (T := TX4) (N := 7) hx hb hts inX4 hown hK hP 0 rfl rfl 0 (by decide) (hts _ tw_123) (fun _ h9 => h9) rfl dX4_bars_31 ?_
      refine lv_iload_n hx hb dX4_bars_34 rfl (lv_at hl 1 rfl) ?_
      obtain ⟨q35_1, hq5, hf⟩ := Option.bind_eq_some_iff.mp hf
      refine cV (ws' := (W_D cI cS a_d a_f a_t a_r a_z a_f_kind a_f_wet a_g a_g_kind a_g_wet a_r_cells a_r_hours a_r_cracked a_s0 a_s0_row a_s1 a_s1_row a_s2 a_s2_row a_s3 a_s3_row d_hour d_traced d_latestFault f_kind f_wet f_wide f_rows f_cells f_sun f_all f_firstColumn f_lastColumn t_hours t_opened t_firstWrong g_kind g_wet g_wide g_rows g_cells g_sun g_all g_firstColumn g_lastColumn r_cells r_hours r_cracked r_count S_row S_lane S_length)) (rest := [.ref a_f]) (st1 := [.int q35_1, .ref a_f]) Cc hK hA hP hD hS hl.1 (ctX0_crackedSetBehind l D cI cS a_f a_f_kind a_f_wet f_kind f_wet f_wide f_rows f_cells f_sun f_all f_firstColumn f_lastColumn p1 n q35_1 hq5) ⟨tw_362, tw_359, tw_360, tw_361, tw_2⟩ mdX0_crackedSetBehind ⟨rfl, rfl, Nat.le_of_ble_eq_true rfl, Nat.le_of_ble_eq_true rfl⟩ rfl dX4_bars_35 rfl (Nat.le_of_ble_eq_true rfl) ⟨Nat.zero_le _, Nat.zero_le _⟩ rfl rfl rfl [1, 2, 3] [0, 4, 5, 6, 7, 8, 9, 10, 11, 12, 13, 14, 15, 16, 17, 18, 19, 20] [0, 18, 19, 20, 1, 2, 3, 4, 5, 6, 7, 8, 9, 10, 11, 12, 13, 14, 15, 16, 17] rfl rfl (by decide) rfl (fun H locs hP hD hS => ?_)
      obtain ⟨q38_2, hq6, hf⟩ := Option.bind_eq_some_iff.mp hf
      refine cV (ws' := (W_D cI cS a_d a_f a_t a_r a_z a_f_kind a_f_wet a_g a_g_kind a_g_wet a_r_cells a_r_hours a_r_cracked a_s0 a_s0_row a_s1 a_s1_row a_s2 a_s2_row a_s3 a_s3_row d_hour d_traced d_latestFault f_kind f_wet f_wide f_rows f_cells f_sun f_all f_firstColumn f_lastColumn t_hours t_opened t_firstWrong g_kind g_wet g_wide g_rows g_cells g_sun g_all g_firstColumn g_lastColumn r_cells r_hours r_cracked r_count S_row S_lane S_length)) (rest := []) (st1 := [.int q38_2]) Cc hK hA hP hD hS hl.1 (ctX0_fewestBars l D cI cS a_f a_f_kind a_f_wet f_kind f_wet f_wide f_rows f_cells f_sun f_all f_firstColumn f_lastColumn q35_1 n q38_2 hq6) ⟨tw_371, tw_368, tw_369, tw_370, tw_2⟩ mdX0_fewestBars ⟨rfl, rfl, Nat.le_of_ble_eq_true rfl, Nat.le_of_ble_eq_true rfl⟩ rfl dX4_bars_38 rfl (Nat.le_of_ble_eq_true rfl) ⟨Nat.zero_le _, Nat.zero_le _⟩ rfl rfl rfl [1, 2, 3] [0, 4, 5, 6, 7, 8, 9, 10, 11, 12, 13, 14, 15, 16, 17, 18, 19, 20] [0, 18, 19, 20, 1, 2, 3, 4, 5, 6, 7, 8, 9, 10, 11, 12, 13, 14, 15, 16, 17] rfl rfl (by decide) rfl (fun H locs hP hD hS => ?_)
      obtain rfl := Option.some.inj hf
      exact rt_i Cc hK hP hD hS dX4_bars_41
    · replace hf := (if_pos hc4).symm.trans hf
      refine lv_bipush (v := (-3 : Int32)) hx hb dX4_bars_23 (by decide) ?_
      obtain rfl := Option.some.inj hf
      exact rt_i Cc hK hP hD hS dX4_bars_25
  · replace hf := (if_pos hc2).symm.trans hf
    refine lv_bipush (v := (-2 : Int32)) hx hb dX4_bars_10 (by decide) ?_
    obtain rfl := Option.some.inj hf
    exact rt_i Cc hK hP hD hS dX4_bars_12
-- X4_dates
def fX4_dates_35 (n : Nat) : Nat → (Nat → Int32) → (Nat → Int32) → Int32 → Int32 → Int32 → Int32 → Int32 → Int32 → Option (Int32)
  | 0, _, _, _, _, _, _, _, _ => none
  | k + 1, f_kind, f_wet, f_cells, f_sun, f_all, x1, x2, x3 => if (20 : Int32) < x3 then some (x2) else (fX0_crackedSetBehind n f_kind f_wet f_cells f_sun x3).bind fun q46_1 => if q46_1 = x1 then fX4_dates_35 n k f_kind f_wet f_cells f_sun f_all x1 (x2 ||| ((1 : Int32) <<< (x3 &&& 31))) (x3 + 1) else fX4_dates_35 n k f_kind f_wet f_cells f_sun f_all x1 x2 (x3 + 1)
def fX4_dates (n : Nat) (f_kind : Nat → Int32) (f_wet : Nat → Int32) (f_cells : Int32) (f_sun : Int32) (f_all : Int32) (p1 : Int32) : Option (Int32) := (fX0_isThere n f_cells).bind fun q4_1 => if q4_1 = 0 then some ((-3 : Int32)) else (fX4_within n p1 (0 : Int32) f_all).bind fun q22_1 => if q22_1 = 0 then some ((-2 : Int32)) else fX4_dates_35 n n f_kind f_wet f_cells f_sun f_all p1 (0 : Int32) (0 : Int32)
theorem mdX4_dates : yX4_dates.cls = RX4 ∧ yX4_dates.cls ≠ "java/lang/invoke/MethodHandle" ∧ yX4_dates.cls ≠ "java/lang/invoke/VarHandle" ∧ (parseMethodDescriptor yX4_dates.desc).map (fun d => d.parameters.length) = some 1 := by decide +kernel
set_option maxHeartbeats 4000000 in
set_option maxRecDepth 100000 in
theorem bX4_dates_35 {p : Program} {l : Launch} {e : Env} {s : State} {m : MethodId} {args : Array Value} {below : List Frame} {meth : Method} {c : Code} {A : Nat → Prop} {D : va_G} {cI cS : ClassId} (a_d a_f a_t a_r a_z a_f_kind a_f_wet a_g a_g_kind a_g_wet a_r_cells a_r_hours a_r_cracked a_s0 a_s0_row a_s1 a_s1_row a_s2 a_s2_row a_s3 a_s3_row : Nat) (d_hour : Int32) (d_traced : Int32) (d_latestFault : Int32) (f_wide : Int32) (f_rows : Int32) (f_firstColumn : Int32) (f_lastColumn : Int32) (t_hours : Int32) (t_opened : Int32) (t_firstWrong : Int32) (g_kind : Nat → Int32) (g_wet : Nat → Int32) (g_wide : Int32) (g_rows : Int32) (g_cells : Int32) (g_sun : Int32) (g_all : Int32) (g_firstColumn : Int32) (g_lastColumn : Int32) (r_cells : Nat → Int32) (r_hours : Nat → Int32) (r_cracked : Nat → Int32) (r_count : Int32) (S_row : Nat → Nat → Int32) (S_lane : Nat → Int32) (S_length : Nat → Int32) (Cc : Cx p s m args meth c RX4 cX4_dates 4 (some .int)) (hK : va_K D classes (tysA cI cS) s) (hA : ∀ q, s.heap.size ≤ q → A q) (n : Nat) : ∀ (k : Nat) (f_kind : Nat → Int32) (f_wet : Nat → Int32) (f_cells : Int32) (f_sun : Int32) (f_all : Int32) (x1 : Int32) (x2 : Int32) (x3 : Int32) (r : Int32), fX4_dates_35 n k f_kind f_wet f_cells f_sun f_all x1 x2 x3 = some (r) → ∀ (H : Heap) (locs : List Loc) (ls : Array Slot), va_P D classes (W_D cI cS a_d a_f a_t a_r a_z a_f_kind a_f_wet a_g a_g_kind a_g_wet a_r_cells a_r_hours a_r_cracked a_s0 a_s0_row a_s1 a_s1_row a_s2 a_s2_row a_s3 a_s3_row d_hour d_traced d_latestFault f_kind f_wet f_wide f_rows f_cells f_sun f_all f_firstColumn f_lastColumn t_hours t_opened t_firstWrong g_kind g_wet g_wide g_rows g_cells g_sun g_all g_firstColumn g_lastColumn r_cells r_hours r_cracked r_count S_row S_lane S_length) H → va_D A (W_D cI cS a_d a_f a_t a_r a_z a_f_kind a_f_wet a_g a_g_kind a_g_wet a_r_cells a_r_hours a_r_cracked a_s0 a_s0_row a_s1 a_s1_row a_s2 a_s2_row a_s3 a_s3_row d_hour d_traced d_latestFault f_kind f_wet f_wide f_rows f_cells f_sun f_all f_firstColumn f_lastColumn t_hours t_opened t_firstWrong g_kind g_wet g_wide g_rows g_cells g_sun g_all g_firstColumn g_lastColumn r_cells r_hours r_cracked r_count S_row S_lane S_length) → va_S A s.heap H locs → lv_has ls 4 [(0, .ref a_d), (1, .int x1), (2, .int x2), (3, .int x3)] → W p l e (Rm 3) s m args below meth c H locs 0 0 (MQ below (QW D (tysA cI cS) (some (.int r)) (W_D cI cS a_d a_f a_t a_r a_z a_f_kind a_f_wet a_g a_g_kind a_g_wet a_r_cells a_r_hours a_r_cracked a_s0 a_s0_row a_s1 a_s1_row a_s2 a_s2_row a_s3 a_s3_row d_hour d_traced d_latestFault f_kind f_wet f_wide f_rows f_cells f_sun f_all f_firstColumn f_lastColumn t_hours t_opened t_firstWrong g_kind g_wet g_wide g_rows g_cells g_sun g_all g_firstColumn g_lastColumn r_cells r_hours r_cracked r_count S_row S_lane S_length) A) args s 0 0 A) (F0 m 35 ls []) := by
  obtain ⟨hx, hb, hr, hml, hown, hts, hlk, hnw⟩ := id Cc
  intro k
  induction k with
  | zero =>
    intro f_kind f_wet f_cells f_sun f_all x1 x2 x3 r hf
    rw [fX4_dates_35] at hf
    cases hf
  | succ k ih =>
    intro f_kind f_wet f_cells f_sun f_all x1 x2 x3 r hf H locs ls hP hD hS hl
    rw [fX4_dates_35] at hf
    refine lv_iload_n hx hb dX4_dates_35 rfl (lv_at hl 3 rfl) ?_
    refine lv_bipush (v := (20 : Int32)) hx hb dX4_dates_36 (by decide) ?_
    refine lv_icmp_gt (tgt := 65) hx hb dX4_dates_38 (by decide) (fun hc5 => ?_) (fun hc5 => ?_)
    · replace hf := (if_pos hc5).symm.trans hf
      refine lv_iload_n hx hb dX4_dates_65 rfl (lv_at hl 2 rfl) ?_
      obtain rfl := Option.some.inj hf
      exact rt_i Cc hK hP hD hS dX4_dates_66
    · replace hf := (if_neg hc5).symm.trans hf
      refine lv_aload_n hx hb dX4_dates_41 rfl (lv_at hl 0 rfl) ?_
      refine va_get (D := D) (ci := 4) (v := .ref a_f) (C := RX4) (T := TX4) (N := 7) hx hb hts inX4 hown hK hP 0 rfl rfl 0 (by decide) (hts _ tw_123) (fun _ h9 => h9) rfl dX4_dates_42 ?_
      refine lv_iload_n hx hb dX4_dates_45 rfl (lv_at hl 3 rfl) ?_
      obtain ⟨q46_1, hq6, hf⟩ := Option.bind_eq_some_iff.mp hf
      refine cV (ws' := (W_D cI cS a_d a_f a_t a_r a_z a_f_kind a_f_wet a_g a_g_kind a_g_wet a_r_cells a_r_hours a_r_cracked a_s0 a_s0_row a_s1 a_s1_row a_s2 a_s2_row a_s3 a_s3_row d_hour d_traced d_latestFault f_kind f_wet f_wide f_rows f_cells f_sun f_all f_firstColumn f_lastColumn t_hours t_opened t_firstWrong g_kind g_wet g_wide g_rows g_cells g_sun g_all g_firstColumn g_lastColumn r_cells r_hours r_cracked r_count S_row S_lane S_length)) (rest := []) (st1 := [.int q46_1]) Cc hK hA hP hD hS hl.1 (ctX0_crackedSetBehind l D cI cS a_f a_f_kind a_f_wet f_kind f_wet f_wide f_rows f_cells f_sun f_all f_firstColumn f_lastColumn x3 n q46_1 hq6) ⟨tw_362, tw_359, tw_360, tw_361, tw_2⟩ mdX0_crackedSetBehind ⟨rfl, rfl, Nat.le_of_ble_eq_true rfl, Nat.le_of_ble_eq_true rfl⟩ rfl dX4_dates_46 rfl (Nat.le_of_ble_eq_true rfl) ⟨Nat.zero_le _, Nat.zero_le _⟩ rfl rfl rfl [1, 2, 3] [0, 4, 5, 6, 7, 8, 9, 10, 11, 12, 13, 14, 15, 16, 17, 18, 19, 20] [0, 18, 19, 20, 1, 2, 3, 4, 5, 6, 7, 8, 9, 10, 11, 12, 13, 14, 15, 16, 17] rfl rfl (by decide) rfl (fun H locs hP hD hS => ?_)
      refine lv_iload_n hx hb dX4_dates_49 rfl (lv_at hl 1 rfl) ?_
      refine lv_icmp_ne (tgt := 59) hx hb dX4_dates_50 (by decide) (fun hc7 => ?_) (fun hc7 => ?_)
      · replace hf := (if_neg hc7).symm.trans hf
        refine lv_iinc (v := (x3 + 1)) (lv' := [(3, .int (x3 + 1)), (0, .ref a_d), (1, .int x1), (2, .int x2)]) hx hb dX4_dates_59 hl (k := 3) rfl rfl (by decide) rfl (fun ls hl => ?_)
        refine lv_goto (tgt := 35) hx hb dX4_dates_62 (by decide) ?_
        exact ih _ _ _ _ _ _ _ _ _ hf _ _ _ hP hD hS (lv_sub hl [1, 2, 3, 0] rfl)
      · replace hf := (if_pos hc7).symm.trans hf
        refine lv_iload_n hx hb dX4_dates_53 rfl (lv_at hl 2 rfl) ?_
        refine lv_iconst (v := (1 : Int32)) hx hb dX4_dates_54 (by decide) ?_
        refine lv_iload_n hx hb dX4_dates_55 rfl (lv_at hl 3 rfl) ?_
        refine lv_ishl hx hb dX4_dates_56 ?_
        refine lv_ior hx hb dX4_dates_57 ?_
        refine lv_istore_n (lv' := [(2, .int (x2 ||| ((1 : Int32) <<< (x3 &&& 31)))), (0, .ref a_d), (1, .int x1), (3, .int x3)]) hx hb dX4_dates_58 rfl hl (by decide) rfl (fun ls hl => ?_)
        refine lv_iinc (v := (x3 + 1)) (lv' := [(3, .int (x3 + 1)), (2, .int (x2 ||| ((1 : Int32) <<< (x3 &&& 31)))), (0, .ref a_d), (1, .int x1)]) hx hb dX4_dates_59 hl (k := 3) rfl rfl (by decide) rfl (fun ls hl => ?_)
        refine lv_goto (tgt := 35) hx hb dX4_dates_62 (by decide) ?_
        exact ih _ _ _ _ _ _ _ _ _ hf _ _ _ hP hD hS (lv_sub hl [2, 3, 1, 0] rfl)
set_option maxHeartbeats 4000000 in
set_option maxRecDepth 100000 in
theorem ctX4_dates (l : Launch) (D : va_G) (cI cS : ClassId) (a_d a_f a_t a_r a_z a_f_kind a_f_wet a_g a_g_kind a_g_wet a_r_cells a_r_hours a_r_cracked a_s0 a_s0_row a_s1 a_s1_row a_s2 a_s2_row a_s3 a_s3_row : Nat) (d_hour : Int32) (d_traced : Int32) (d_latestFault : Int32) (f_kind : Nat → Int32) (f_wet : Nat → Int32) (f_wide : Int32) (f_rows : Int32) (f_cells : Int32) (f_sun : Int32) (f_all : Int32) (f_firstColumn : Int32) (f_lastColumn : Int32) (t_hours : Int32) (t_opened : Int32) (t_firstWrong : Int32) (g_kind : Nat → Int32) (g_wet : Nat → Int32) (g_wide : Int32) (g_rows : Int32) (g_cells : Int32) (g_sun : Int32) (g_all : Int32) (g_firstColumn : Int32) (g_lastColumn : Int32) (r_cells : Nat → Int32) (r_hours : Nat → Int32) (r_cracked : Nat → Int32) (r_count : Int32) (S_row : Nat → Nat → Int32) (S_lane : Nat → Int32) (S_length : Nat → Int32) (p1 : Int32) (n : Nat) (r : Int32) (hf : fX4_dates n f_kind f_wet f_cells f_sun f_all p1 = some (r)) : Ct l D (tysA cI cS) yX4_dates cX4_dates 4 (some .int) (Rm 3) [.ref a_d, .int p1] (W_D cI cS a_d a_f a_t a_r a_z a_f_kind a_f_wet a_g a_g_kind a_g_wet a_r_cells a_r_hours a_r_cracked a_s0 a_s0_row a_s1 a_s1_row a_s2 a_s2_row a_s3 a_s3_row d_hour d_traced d_latestFault f_kind f_wet f_wide f_rows f_cells f_sun f_all f_firstColumn f_lastColumn t_hours t_opened t_firstWrong g_kind g_wet g_wide g_rows g_cells g_sun g_all g_firstColumn g_lastColumn r_cells r_hours r_cracked r_count S_row S_lane S_length) (some (.int r)) (W_D cI cS a_d a_f a_t a_r a_z a_f_kind a_f_wet a_g a_g_kind a_g_wet a_r_cells a_r_hours a_r_cracked a_s0 a_s0_row a_s1 a_s1_row a_s2 a_s2_row a_s3 a_s3_row d_hour d_traced d_latestFault f_kind f_wet f_wide f_rows f_cells f_sun f_all f_firstColumn f_lastColumn t_hours t_opened t_firstWrong g_kind g_wet g_wide g_rows g_cells g_sun g_all g_firstColumn g_lastColumn r_cells r_hours r_cracked r_count S_row S_lane S_length) := by
  refine Ct_of (by decide) (Nat.le_of_ble_eq_true rfl) ?_
  intro p e s m args below meth c A ls Cc hK hA hP hD hS hl
  have hl : lv_has ls 4 [(0, .ref a_d), (1, .int p1)] := hl
  obtain ⟨hx, hb, hr, hml, hown, hts, hlk, hnw⟩ := id Cc
  unfold fX4_dates at hf
  refine lv_aload_n hx hb dX4_dates_0 rfl (lv_at hl 0 rfl) ?_
  refine va_get (D := D) (ci := 4) (v := .ref a_f) (C := RX4) (T := TX4) (N := 7) hx hb hts inX4 hown hK hP 0 rfl rfl 0 (by decide) (hts _ tw_123) (fun _ h9 => h9) rfl dX4_dates_1 ?_
  obtain ⟨q4_1, hq1, hf⟩ := Option.bind_eq_some_iff.mp hf
  refine cV (ws' := (W_D cI cS a_d a_f a_t a_r a_z a_f_kind a_f_wet a_g a_g_kind a_g_wet a_r_cells a_r_hours a_r_cracked a_s0 a_s0_row a_s1 a_s1_row a_s2 a_s2_row a_s3 a_s3_row d_hour d_traced d_latestFault f_kind f_wet f_wide f_rows f_cells f_sun f_all f_firstColumn f_lastColumn t_hours t_opened t_firstWrong g_kind g_wet g_wide g_rows g_cells g_sun g_all g_firstColumn g_lastColumn r_cells r_hours r_cracked r_count S_row S_lane S_length)) (rest := []) (st1 := [.int q4_1]) Cc hK hA hP hD hS hl.1 (ctX0_isThere l D cI cS a_f a_f_kind a_f_wet f_kind f_wet f_wide f_rows f_cells f_sun f_all f_firstColumn f_lastColumn  n q4_1 hq1) ⟨tw_252, tw_249, tw_250, tw_251, tw_2⟩ mdX0_isThere ⟨rfl, rfl, Nat.le_of_ble_eq_true rfl, Nat.le_of_ble_eq_true rfl⟩ rfl dX4_dates_4 rfl (Nat.le_of_ble_eq_true rfl) ⟨Nat.zero_le _, Nat.zero_le _⟩ rfl rfl rfl [1, 2, 3] [0, 4, 5, 6, 7, 8, 9, 10, 11, 12, 13, 14, 15, 16, 17, 18, 19, 20] [0, 18, 19, 20, 1, 2, 3, 4, 5, 6, 7, 8, 9, 10, 11, 12, 13, 14, 15, 16, 17] rfl rfl (by decide) rfl (fun H locs hP hD hS => ?_)
  refine lv_if_ne (tgt := 13) hx hb dX4_dates_7 (by decide) (fun hc2 => ?_) (fun hc2 => ?_)
  · replace hf := (if_neg hc2).symm.trans hf
    refine lv_iload_n hx hb dX4_dates_13 rfl (lv_at hl 1 rfl) ?_
    refine lv_iconst (v := (0 : Int32)) hx hb dX4_dates_14 (by decide) ?_
    refine lv_aload_n hx hb dX4_dates_15 rfl (lv_at hl 0 rfl) ?_
    refine va_get (D := D) (ci := 4) (v := .ref a_f) (C := RX4) (T := TX4) (N := 7) hx hb hts inX4 hown hK hP 0 rfl rfl 0 (by decide) (hts _ tw_123) (fun _ h9 => h9) rfl dX4_dates_16 ?_
    refine va_getN (D := D) (ci := 0) (v := .int f_all) (C := RX0) (T := TX0) (N := 9) hx hb hts inX0 hown hK hP 1 rfl rfl 6 (by decide) (va_Nw.use rfl (hnw _ nn_8)) (fun _ h9 => h9) rfl dX4_dates_19 ?_
    obtain ⟨q22_1, hq3, hf⟩ := Option.bind_eq_some_iff.mp hf
    refine cSt (ws' := (W_D cI cS a_d a_f a_t a_r a_z a_f_kind a_f_wet a_g a_g_kind a_g_wet a_r_cells a_r_hours a_r_cracked a_s0 a_s0_row a_s1 a_s1_row a_s2 a_s2_row a_s3 a_s3_row d_hour d_traced d_latestFault f_kind f_wet f_wide f_rows f_cells f_sun f_all f_firstColumn f_lastColumn t_hours t_opened t_firstWrong g_kind g_wet g_wide g_rows g_cells g_sun g_all g_firstColumn g_lastColumn r_cells r_hours r_cracked r_count S_row S_lane S_length)) (rest := []) (st1 := [.int q22_1]) Cc hK hA hP hD hS hl.1 (ctX4_within l D cI cS   p1 (0 : Int32) f_all n q22_1 hq3) ⟨tw_154, tw_152, tw_153, tw_1⟩ mdX4_within ⟨rfl, rfl, Nat.le_of_ble_eq_true rfl, Nat.le_of_ble_eq_true rfl⟩ rfl dX4_dates_22 rfl (Nat.le_of_ble_eq_true rfl) ⟨Nat.zero_le _, Nat.zero_le _⟩ rfl [] [0, 1, 2, 3, 4, 5, 6, 7, 8, 9, 10, 11, 12, 13, 14, 15, 16, 17, 18, 19, 20] [0, 1, 2, 3, 4, 5, 6, 7, 8, 9, 10, 11, 12, 13, 14, 15, 16, 17, 18, 19, 20] rfl rfl (by decide) rfl (fun H locs hP hD hS => ?_)
    refine lv_if_ne (tgt := 31) hx hb dX4_dates_25 (by decide) (fun hc4 => ?_) (fun hc4 => ?_)
    · replace hf := (if_neg hc4).symm.trans hf
      refine lv_iconst (v := (0 : Int32)) hx hb dX4_dates_31 (by decide) ?_
      refine lv_istore_n (lv' := [(2, .int (0 : Int32)), (0, .ref a_d), (1, .int p1)]) hx hb dX4_dates_32 rfl hl (by decide) rfl (fun ls hl => ?_)
      refine lv_iconst (v := (0 : Int32)) hx hb dX4_dates_33 (by decide) ?_
      refine lv_istore_n (lv' := [(3, .int (0 : Int32)), (2, .int (0 : Int32)), (0, .ref a_d), (1, .int p1)]) hx hb dX4_dates_34 rfl hl (by decide) rfl (fun ls hl => ?_)
      exact bX4_dates_35 a_d a_f a_t a_r a_z a_f_kind a_f_wet a_g a_g_kind a_g_wet a_r_cells a_r_hours a_r_cracked a_s0 a_s0_row a_s1 a_s1_row a_s2 a_s2_row a_s3 a_s3_row d_hour d_traced d_latestFault f_wide f_rows f_firstColumn f_lastColumn t_hours t_opened t_firstWrong g_kind g_wet g_wide g_rows g_cells g_sun g_all g_firstColumn g_lastColumn r_cells r_hours r_cracked r_count S_row S_lane S_length Cc hK hA n n _ _ _ _ _ _ _ _ _ hf _ _ _ hP hD hS (lv_sub hl [2, 3, 1, 0] rfl)
    · replace hf := (if_pos hc4).symm.trans hf
      refine lv_bipush (v := (-2 : Int32)) hx hb dX4_dates_28 (by decide) ?_
      obtain rfl := Option.some.inj hf
      exact rt_i Cc hK hP hD hS dX4_dates_30
  · replace hf := (if_pos hc2).symm.trans hf
    refine lv_bipush (v := (-3 : Int32)) hx hb dX4_dates_10 (by decide) ?_
    obtain rfl := Option.some.inj hf
    exact rt_i Cc hK hP hD hS dX4_dates_12
-- X4_reading
def fX4_reading (n : Nat) (f_cells : Int32) (r_cells : Nat → Int32) (r_hours : Nat → Int32) (r_cracked : Nat → Int32) (r_count : Int32) (p1 : Int32) (p2 : Int32) (p3 : Int32) : Option (Int32 × (Nat → Int32) × (Nat → Int32) × (Nat → Int32) × Int32) := (fX0_isCell n f_cells p1).bind fun q5_1 => if q5_1 = 0 then some ((-1 : Int32), r_cells, r_hours, r_cracked, r_count) else (fX4_within n p2 (0 : Int32) (20 : Int32)).bind fun q17_1 => if q17_1 = 0 then some ((-2 : Int32), r_cells, r_hours, r_cracked, r_count) else (fX4_within n p3 (0 : Int32) (1 : Int32)).bind fun q26_1 => if q26_1 = 0 then some ((-2 : Int32), r_cells, r_hours, r_cracked, r_count) else (fX1_addOne n r_cells r_hours r_cracked r_count p1 p2 p3).bind fun q42_1 => some (q42_1.1, q42_1.2.1, q42_1.2.2.1, q42_1.2.2.2.1, q42_1.2.2.2.2)
theorem mdX4_reading : yX4_reading.cls = RX4 ∧ yX4_reading.cls ≠ "java/lang/invoke/MethodHandle" ∧ yX4_reading.cls ≠ "java/lang/invoke/VarHandle" ∧ (parseMethodDescriptor yX4_reading.desc).map (fun d => d.parameters.length) = some 3 := by decide +kernel
set_option maxHeartbeats 4000000 in
set_option maxRecDepth 100000 in
theorem ctX4_reading (l : Launch) (D : va_G) (cI cS : ClassId) (a_d a_f a_t a_r a_z a_f_kind a_f_wet a_g a_g_kind a_g_wet a_r_cells a_r_hours a_r_cracked a_s0 a_s0_row a_s1 a_s1_row a_s2 a_s2_row a_s3 a_s3_row : Nat) (d_hour : Int32) (d_traced : Int32) (d_latestFault : Int32) (f_kind : Nat → Int32) (f_wet : Nat → Int32) (f_wide : Int32) (f_rows : Int32) (f_cells : Int32) (f_sun : Int32) (f_all : Int32) (f_firstColumn : Int32) (f_lastColumn : Int32) (t_hours : Int32) (t_opened : Int32) (t_firstWrong : Int32) (g_kind : Nat → Int32) (g_wet : Nat → Int32) (g_wide : Int32) (g_rows : Int32) (g_cells : Int32) (g_sun : Int32) (g_all : Int32) (g_firstColumn : Int32) (g_lastColumn : Int32) (r_cells : Nat → Int32) (r_hours : Nat → Int32) (r_cracked : Nat → Int32) (r_count : Int32) (S_row : Nat → Nat → Int32) (S_lane : Nat → Int32) (S_length : Nat → Int32) (p1 : Int32) (p2 : Int32) (p3 : Int32) (n : Nat) (r : Int32) (r_cells' : Nat → Int32) (r_hours' : Nat → Int32) (r_cracked' : Nat → Int32) (r_count' : Int32) (hf : fX4_reading n f_cells r_cells r_hours r_cracked r_count p1 p2 p3 = some (r, r_cells', r_hours', r_cracked', r_count')) : Ct l D (tysA cI cS) yX4_reading cX4_reading 4 (some .int) (Rm 1) [.ref a_d, .int p1, .int p2, .int p3] (W_D cI cS a_d a_f a_t a_r a_z a_f_kind a_f_wet a_g a_g_kind a_g_wet a_r_cells a_r_hours a_r_cracked a_s0 a_s0_row a_s1 a_s1_row a_s2 a_s2_row a_s3 a_s3_row d_hour d_traced d_latestFault f_kind f_wet f_wide f_rows f_cells f_sun f_all f_firstColumn f_lastColumn t_hours t_opened t_firstWrong g_kind g_wet g_wide g_rows g_cells g_sun g_all g_firstColumn g_lastColumn r_cells r_hours r_cracked r_count S_row S_lane S_length) (some (.int r)) (W_D cI cS a_d a_f a_t a_r a_z a_f_kind a_f_wet a_g a_g_kind a_g_wet a_r_cells a_r_hours a_r_cracked a_s0 a_s0_row a_s1 a_s1_row a_s2 a_s2_row a_s3 a_s3_row d_hour d_traced d_latestFault f_kind f_wet f_wide f_rows f_cells f_sun f_all f_firstColumn f_lastColumn t_hours t_opened t_firstWrong g_kind g_wet g_wide g_rows g_cells g_sun g_all g_firstColumn g_lastColumn r_cells' r_hours' r_cracked' r_count' S_row S_lane S_length) := by
  refine Ct_of (by decide) (Nat.le_of_ble_eq_true rfl) ?_
  intro p e s m args below meth c A ls Cc hK hA hP hD hS hl
  have hl : lv_has ls 4 [(0, .ref a_d), (1, .int p1), (2, .int p2), (3, .int p3)] := hl
  obtain ⟨hx, hb, hr, hml, hown, hts, hlk, hnw⟩ := id Cc
  unfold fX4_reading at hf
  refine lv_aload_n hx hb dX4_reading_0 rfl (lv_at hl 0 rfl) ?_
  refine va_get (D := D) (ci := 4) (v := .ref a_f) (C := RX4) (T := TX4) (N := 7) hx hb hts inX4 hown hK hP 0 rfl rfl 0 (by decide) (hts _ tw_123) (fun _ h9 => h9) rfl dX4_reading_1 ?_
  refine lv_iload_n hx hb dX4_reading_4 rfl (lv_at hl 1 rfl) ?_
  obtain ⟨q5_1, hq1, hf⟩ := Option.bind_eq_some_iff.mp hf
  refine cV (ws' := (W_D cI cS a_d a_f a_t a_r a_z a_f_kind a_f_wet a_g a_g_kind a_g_wet a_r_cells a_r_hours a_r_cracked a_s0 a_s0_row a_s1 a_s1_row a_s2 a_s2_row a_s3 a_s3_row d_hour d_traced d_latestFault f_kind f_wet f_wide f_rows f_cells f_sun f_all f_firstColumn f_lastColumn t_hours t_opened t_firstWrong g_kind g_wet g_wide g_rows g_cells g_sun g_all g_firstColumn g_lastColumn r_cells r_hours r_cracked r_count S_row S_lane S_length)) (rest := []) (st1 := [.int q5_1]) Cc hK hA hP hD hS hl.1 (ctX0_isCell l D cI cS a_f a_f_kind a_f_wet f_kind f_wet f_wide f_rows f_cells f_sun f_all f_firstColumn f_lastColumn p1 n q5_1 hq1) ⟨tw_218, tw_215, tw_216, tw_217, tw_2⟩ mdX0_isCell ⟨rfl, rfl, Nat.le_of_ble_eq_true rfl, Nat.le_of_ble_eq_true rfl⟩ rfl dX4_reading_5 rfl (Nat.le_of_ble_eq_true rfl) ⟨Nat.zero_le _, Nat.zero_le _⟩ rfl rfl rfl [1, 2, 3] [0, 4, 5, 6, 7, 8, 9, 10, 11, 12, 13, 14, 15, 16, 17, 18, 19, 20] [0, 18, 19, 20, 1, 2, 3, 4, 5, 6, 7, 8, 9, 10, 11, 12, 13, 14, 15, 16, 17] rfl rfl (by decide) rfl (fun H locs hP hD hS => ?_)
  refine lv_if_ne (tgt := 13) hx hb dX4_reading_8 (by decide) (fun hc2 => ?_) (fun hc2 => ?_)
  · replace hf := (if_neg hc2).symm.trans hf
    refine lv_iload_n hx hb dX4_reading_13 rfl (lv_at hl 2 rfl) ?_
    refine lv_iconst (v := (0 : Int32)) hx hb dX4_reading_14 (by decide) ?_
    refine lv_bipush (v := (20 : Int32)) hx hb dX4_reading_15 (by decide) ?_
    obtain ⟨q17_1, hq3, hf⟩ := Option.bind_eq_some_iff.mp hf
    refine cSt (ws' := (W_D cI cS a_d a_f a_t a_r a_z a_f_kind a_f_wet a_g a_g_kind a_g_wet a_r_cells a_r_hours a_r_cracked a_s0 a_s0_row a_s1 a_s1_row a_s2 a_s2_row a_s3 a_s3_row d_hour d_traced d_latestFault f_kind f_wet f_wide f_rows f_cells f_sun f_all f_firstColumn f_lastColumn t_hours t_opened t_firstWrong g_kind g_wet g_wide g_rows g_cells g_sun g_all g_firstColumn g_lastColumn r_cells r_hours r_cracked r_count S_row S_lane S_length)) (rest := []) (st1 := [.int q17_1]) Cc hK hA hP hD hS hl.1 (ctX4_within l D cI cS   p2 (0 : Int32) (20 : Int32) n q17_1 hq3) ⟨tw_154, tw_152, tw_153, tw_1⟩ mdX4_within ⟨rfl, rfl, Nat.le_of_ble_eq_true rfl, Nat.le_of_ble_eq_true rfl⟩ rfl dX4_reading_17 rfl (Nat.le_of_ble_eq_true rfl) ⟨Nat.zero_le _, Nat.zero_le _⟩ rfl [] [0, 1, 2, 3, 4, 5, 6, 7, 8, 9, 10, 11, 12, 13, 14, 15, 16, 17, 18, 19, 20] [0, 1, 2, 3, 4, 5, 6, 7, 8, 9, 10, 11, 12, 13, 14, 15, 16, 17, 18, 19, 20] rfl rfl (by decide) rfl (fun H locs hP hD hS => ?_)
    refine lv_if_eq (tgt := 32) hx hb dX4_reading_20 (by decide) (fun hc4 => ?_) (fun hc4 => ?_)
    · replace hf := (if_pos hc4).symm.trans hf
      refine lv_bipush (v := (-2 : Int32)) hx hb dX4_reading_32 (by decide) ?_
      replace hf := Option.some.inj hf
      obtain ⟨er0, er1⟩ := Prod.mk.inj hf
      obtain ⟨er2, er3⟩ := Prod.mk.inj er1
      obtain ⟨er4, er5⟩ := Prod.mk.inj er3
      obtain ⟨er6, er7⟩ := Prod.mk.inj er5
      clear hf er1 er3 er5
      subst er0
      subst er2
      subst er4
      subst er6
      subst er7
      exact rt_i Cc hK hP hD hS dX4_reading_34
    · replace hf := (if_neg hc4).symm.trans hf
      refine lv_iload_n hx hb dX4_reading_23 rfl (lv_at hl 3 rfl) ?_
      refine lv_iconst (v := (0 : Int32)) hx hb dX4_reading_24 (by decide) ?_
      refine lv_iconst (v := (1 : Int32)) hx hb dX4_reading_25 (by decide) ?_
      obtain ⟨q26_1, hq5, hf⟩ := Option.bind_eq_some_iff.mp hf
      refine cSt (ws' := (W_D cI cS a_d a_f a_t a_r a_z a_f_kind a_f_wet a_g a_g_kind a_g_wet a_r_cells a_r_hours a_r_cracked a_s0 a_s0_row a_s1 a_s1_row a_s2 a_s2_row a_s3 a_s3_row d_hour d_traced d_latestFault f_kind f_wet f_wide f_rows f_cells f_sun f_all f_firstColumn f_lastColumn t_hours t_opened t_firstWrong g_kind g_wet g_wide g_rows g_cells g_sun g_all g_firstColumn g_lastColumn r_cells r_hours r_cracked r_count S_row S_lane S_length)) (rest := []) (st1 := [.int q26_1]) Cc hK hA hP hD hS hl.1 (ctX4_within l D cI cS   p3 (0 : Int32) (1 : Int32) n q26_1 hq5) ⟨tw_154, tw_152, tw_153, tw_1⟩ mdX4_within ⟨rfl, rfl, Nat.le_of_ble_eq_true rfl, Nat.le_of_ble_eq_true rfl⟩ rfl dX4_reading_26 rfl (Nat.le_of_ble_eq_true rfl) ⟨Nat.zero_le _, Nat.zero_le _⟩ rfl [] [0, 1, 2, 3, 4, 5, 6, 7, 8, 9, 10, 11, 12, 13, 14, 15, 16, 17, 18, 19, 20] [0, 1, 2, 3, 4, 5, 6, 7, 8, 9, 10, 11, 12, 13, 14, 15, 16, 17, 18, 19, 20] rfl rfl (by decide) rfl (fun H locs hP hD hS => ?_)
      refine lv_if_ne (tgt := 35) hx hb dX4_reading_29 (by decide) (fun hc6 => ?_) (fun hc6 => ?_)
      · replace hf := (if_neg hc6).symm.trans hf
        refine lv_aload_n hx hb dX4_reading_35 rfl (lv_at hl 0 rfl) ?_
        refine va_get (D := D) (ci := 4) (v := .ref a_r) (C := RX4) (T := TX4) (N := 7) hx hb hts inX4 hown hK hP 0 rfl rfl 2 (by decide) (hts _ tw_125) (fun _ h9 => h9) rfl dX4_reading_36 ?_
        refine lv_iload_n hx hb dX4_reading_39 rfl (lv_at hl 1 rfl) ?_
        refine lv_iload_n hx hb dX4_reading_40 rfl (lv_at hl 2 rfl) ?_
        refine lv_iload_n hx hb dX4_reading_41 rfl (lv_at hl 3 rfl) ?_
        obtain ⟨q42_1, hq7, hf⟩ := Option.bind_eq_some_iff.mp hf
        refine cV (ws' := (W_D cI cS a_d a_f a_t a_r a_z a_f_kind a_f_wet a_g a_g_kind a_g_wet a_r_cells a_r_hours a_r_cracked a_s0 a_s0_row a_s1 a_s1_row a_s2 a_s2_row a_s3 a_s3_row d_hour d_traced d_latestFault f_kind f_wet f_wide f_rows f_cells f_sun f_all f_firstColumn f_lastColumn t_hours t_opened t_firstWrong g_kind g_wet g_wide g_rows g_cells g_sun g_all g_firstColumn g_lastColumn q42_1.2.1 q42_1.2.2.1 q42_1.2.2.2.1 q42_1.2.2.2.2 S_row S_lane S_length)) (rest := []) (st1 := [.int q42_1.1]) Cc hK hA hP hD hS hl.1 (ctX1_addOne l D cI cS a_r a_r_cells a_r_hours a_r_cracked r_cells r_hours r_cracked r_count p1 p2 p3 n q42_1.1 q42_1.2.1 q42_1.2.2.1 q42_1.2.2.2.1 q42_1.2.2.2.2 hq7) ⟨tw_384, tw_381, tw_382, tw_383, tw_4⟩ mdX1_addOne ⟨rfl, rfl, Nat.le_of_ble_eq_true rfl, Nat.le_of_ble_eq_true rfl⟩ rfl dX4_reading_42 rfl (Nat.le_of_ble_eq_true rfl) ⟨Nat.zero_le _, Nat.zero_le _⟩ rfl rfl rfl [8, 9, 10, 11] [0, 1, 2, 3, 4, 5, 6, 7, 12, 13, 14, 15, 16, 17, 18, 19, 20] [0, 1, 2, 3, 4, 5, 6, 7, 17, 18, 19, 20, 8, 9, 10, 11, 12, 13, 14, 15, 16] rfl rfl (by decide) rfl (fun H locs hP hD hS => ?_)
        replace hf := Option.some.inj hf
        obtain ⟨er0, er1⟩ := Prod.mk.inj hf
        obtain ⟨er2, er3⟩ := Prod.mk.inj er1
        obtain ⟨er4, er5⟩ := Prod.mk.inj er3
        obtain ⟨er6, er7⟩ := Prod.mk.inj er5
        clear hf er1 er3 er5
        subst er0
        subst er2
        subst er4
        subst er6
        subst er7
        exact rt_i Cc hK hP hD hS dX4_reading_45
      · replace hf := (if_pos hc6).symm.trans hf
        refine lv_bipush (v := (-2 : Int32)) hx hb dX4_reading_32 (by decide) ?_
        replace hf := Option.some.inj hf
        obtain ⟨er0, er1⟩ := Prod.mk.inj hf
        obtain ⟨er2, er3⟩ := Prod.mk.inj er1
        obtain ⟨er4, er5⟩ := Prod.mk.inj er3
        obtain ⟨er6, er7⟩ := Prod.mk.inj er5
        clear hf er1 er3 er5
        subst er0
        subst er2
        subst er4
        subst er6
        subst er7
        exact rt_i Cc hK hP hD hS dX4_reading_34
  · replace hf := (if_pos hc2).symm.trans hf
    refine lv_iconst (v := (-1 : Int32)) hx hb dX4_reading_11 (by decide) ?_
    replace hf := Option.some.inj hf
    obtain ⟨er0, er1⟩ := Prod.mk.inj hf
    obtain ⟨er2, er3⟩ := Prod.mk.inj er1
    obtain ⟨er4, er5⟩ := Prod.mk.inj er3
    obtain ⟨er6, er7⟩ := Prod.mk.inj er5
    clear hf er1 er3 er5
    subst er0
    subst er2
    subst er4
    subst er6
    subst er7
    exact rt_i Cc hK hP hD hS dX4_reading_12
-- X4_back
def fX4_back (n : Nat) (r_count : Int32) (p1 : Int32) : Option (Int32 × Int32) := (fX4_within n p1 (0 : Int32) r_count).bind fun q9_1 => if q9_1 = 0 then some ((-2 : Int32), r_count) else some ((r_count - p1), (r_count - p1))
theorem mdX4_back : yX4_back.cls = RX4 ∧ yX4_back.cls ≠ "java/lang/invoke/MethodHandle" ∧ yX4_back.cls ≠ "java/lang/invoke/VarHandle" ∧ (parseMethodDescriptor yX4_back.desc).map (fun d => d.parameters.length) = some 1 := by decide +kernel
set_option maxHeartbeats 4000000 in
set_option maxRecDepth 100000 in
theorem ctX4_back (l : Launch) (D : va_G) (cI cS : ClassId) (a_d a_f a_t a_r a_z a_f_kind a_f_wet a_g a_g_kind a_g_wet a_r_cells a_r_hours a_r_cracked a_s0 a_s0_row a_s1 a_s1_row a_s2 a_s2_row a_s3 a_s3_row : Nat) (d_hour : Int32) (d_traced : Int32) (d_latestFault : Int32) (f_kind : Nat → Int32) (f_wet : Nat → Int32) (f_wide : Int32) (f_rows : Int32) (f_cells : Int32) (f_sun : Int32) (f_all : Int32) (f_firstColumn : Int32) (f_lastColumn : Int32) (t_hours : Int32) (t_opened : Int32) (t_firstWrong : Int32) (g_kind : Nat → Int32) (g_wet : Nat → Int32) (g_wide : Int32) (g_rows : Int32) (g_cells : Int32) (g_sun : Int32) (g_all : Int32) (g_firstColumn : Int32) (g_lastColumn : Int32) (r_cells : Nat → Int32) (r_hours : Nat → Int32) (r_cracked : Nat → Int32) (r_count : Int32) (S_row : Nat → Nat → Int32) (S_lane : Nat → Int32) (S_length : Nat → Int32) (p1 : Int32) (n : Nat) (r : Int32) (r_count' : Int32) (hf : fX4_back n r_count p1 = some (r, r_count')) : Ct l D (tysA cI cS) yX4_back cX4_back 2 (some .int) (Rm 1) [.ref a_d, .int p1] (W_D cI cS a_d a_f a_t a_r a_z a_f_kind a_f_wet a_g a_g_kind a_g_wet a_r_cells a_r_hours a_r_cracked a_s0 a_s0_row a_s1 a_s1_row a_s2 a_s2_row a_s3 a_s3_row d_hour d_traced d_latestFault f_kind f_wet f_wide f_rows f_cells f_sun f_all f_firstColumn f_lastColumn t_hours t_opened t_firstWrong g_kind g_wet g_wide g_rows g_cells g_sun g_all g_firstColumn g_lastColumn r_cells r_hours r_cracked r_count S_row S_lane S_length) (some (.int r)) (W_D cI cS a_d a_f a_t a_r a_z a_f_kind a_f_wet a_g a_g_kind a_g_wet a_r_cells a_r_hours a_r_cracked a_s0 a_s0_row a_s1 a_s1_row a_s2 a_s2_row a_s3 a_s3_row d_hour d_traced d_latestFault f_kind f_wet f_wide f_rows f_cells f_sun f_all f_firstColumn f_lastColumn t_hours t_opened t_firstWrong g_kind g_wet g_wide g_rows g_cells g_sun g_all g_firstColumn g_lastColumn r_cells r_hours r_cracked r_count' S_row S_lane S_length) := by
  refine Ct_of (by decide) (Nat.le_of_ble_eq_true rfl) ?_
  intro p e s m args below meth c A ls Cc hK hA hP hD hS hl
  have hl : lv_has ls 2 [(0, .ref a_d), (1, .int p1)] := hl
  obtain ⟨hx, hb, hr, hml, hown, hts, hlk, hnw⟩ := id Cc
  unfold fX4_back at hf
  refine lv_iload_n hx hb dX4_back_0 rfl (lv_at hl 1 rfl) ?_
  refine lv_iconst (v := (0 : Int32)) hx hb dX4_back_1 (by decide) ?_
  refine lv_aload_n hx hb dX4_back_2 rfl (lv_at hl 0 rfl) ?_
  refine va_get (D := D) (ci := 4) (v := .ref a_r) (C := RX4) (T := TX4) (N := 7) hx hb hts inX4 hown hK hP 0 rfl rfl 2 (by decide) (hts _ tw_125) (fun _ h9 => h9) rfl dX4_back_3 ?_
  refine va_getN (D := D) (ci := 1) (v := .int r_count) (C := RX1) (T := TX1) (N := 4) hx hb hts inX1 hown hK hP 8 rfl rfl 3 (by decide) (va_Nw.use rfl (hnw _ nn_10)) (fun _ h9 => h9) rfl dX4_back_6 ?_
  obtain ⟨q9_1, hq1, hf⟩ := Option.bind_eq_some_iff.mp hf
  refine cSt (ws' := (W_D cI cS a_d a_f a_t a_r a_z a_f_kind a_f_wet a_g a_g_kind a_g_wet a_r_cells a_r_hours a_r_cracked a_s0 a_s0_row a_s1 a_s1_row a_s2 a_s2_row a_s3 a_s3_row d_hour d_traced d_latestFault f_kind f_wet f_wide f_rows f_cells f_sun f_all f_firstColumn f_lastColumn t_hours t_opened t_firstWrong g_kind g_wet g_wide g_rows g_cells g_sun g_all g_firstColumn g_lastColumn r_cells r_hours r_cracked r_count S_row S_lane S_length)) (rest := []) (st1 := [.int q9_1]) Cc hK hA hP hD hS hl.1 (ctX4_within l D cI cS   p1 (0 : Int32) r_count n q9_1 hq1) ⟨tw_154, tw_152, tw_153, tw_1⟩ mdX4_within ⟨rfl, rfl, Nat.le_of_ble_eq_true rfl, Nat.le_of_ble_eq_true rfl⟩ rfl dX4_back_9 rfl (Nat.le_of_ble_eq_true rfl) ⟨Nat.zero_le _, Nat.zero_le _⟩ rfl [] [0, 1, 2, 3, 4, 5, 6, 7, 8, 9, 10, 11, 12, 13, 14, 15, 16, 17, 18, 19, 20] [0, 1, 2, 3, 4, 5, 6, 7, 8, 9, 10, 11, 12, 13, 14, 15, 16, 17, 18, 19, 20] rfl rfl (by decide) rfl (fun H locs hP hD hS => ?_)
  refine lv_if_ne (tgt := 18) hx hb dX4_back_12 (by decide) (fun hc2 => ?_) (fun hc2 => ?_)
  · replace hf := (if_neg hc2).symm.trans hf
    refine lv_aload_n hx hb dX4_back_18 rfl (lv_at hl 0 rfl) ?_
    refine va_get (D := D) (ci := 4) (v := .ref a_r) (C := RX4) (T := TX4) (N := 7) hx hb hts inX4 hown hK hP 0 rfl rfl 2 (by decide) (hts _ tw_125) (fun _ h9 => h9) rfl dX4_back_19 ?_
    refine lv_dup hx hb dX4_back_22 rfl ?_
    refine va_getN (D := D) (ci := 1) (v := .int r_count) (C := RX1) (T := TX1) (N := 4) hx hb hts inX1 hown hK hP 8 rfl rfl 3 (by decide) (va_Nw.use rfl (hnw _ nn_10)) (fun _ h9 => h9) rfl dX4_back_23 ?_
    refine lv_iload_n hx hb dX4_back_26 rfl (lv_at hl 1 rfl) ?_
    refine lv_isub hx hb dX4_back_27 ?_
    refine va_putN (D := D) (ci := 1) (v := .int (r_count - p1)) (ty := .int) (C := RX1) (T := TX1) (N := 4) hx hb hts inX1 tyX1 tyX1_ok nmX1 hown hK hP hD hS 8 rfl rfl 3 (by decide) (va_Nw.use rfl (hnw _ nn_10)) (fun _ h9 => h9) rfl (tyX1_ok 3 (by decide)) rfl rfl (Nat.le_of_ble_eq_true rfl) dX4_back_28 (fun H locs hP hD hS => ?_)
    have hP : va_P D classes (W_D cI cS a_d a_f a_t a_r a_z a_f_kind a_f_wet a_g a_g_kind a_g_wet a_r_cells a_r_hours a_r_cracked a_s0 a_s0_row a_s1 a_s1_row a_s2 a_s2_row a_s3 a_s3_row d_hour d_traced d_latestFault f_kind f_wet f_wide f_rows f_cells f_sun f_all f_firstColumn f_lastColumn t_hours t_opened t_firstWrong g_kind g_wet g_wide g_rows g_cells g_sun g_all g_firstColumn g_lastColumn r_cells r_hours r_cracked (r_count - p1) S_row S_lane S_length) H := hP
    have hD : va_D A (W_D cI cS a_d a_f a_t a_r a_z a_f_kind a_f_wet a_g a_g_kind a_g_wet a_r_cells a_r_hours a_r_cracked a_s0 a_s0_row a_s1 a_s1_row a_s2 a_s2_row a_s3 a_s3_row d_hour d_traced d_latestFault f_kind f_wet f_wide f_rows f_cells f_sun f_all f_firstColumn f_lastColumn t_hours t_opened t_firstWrong g_kind g_wet g_wide g_rows g_cells g_sun g_all g_firstColumn g_lastColumn r_cells r_hours r_cracked (r_count - p1) S_row S_lane S_length) := hD
    refine lv_aload_n hx hb dX4_back_31 rfl (lv_at hl 0 rfl) ?_
    refine va_get (D := D) (ci := 4) (v := .ref a_r) (C := RX4) (T := TX4) (N := 7) hx hb hts inX4 hown hK hP 0 rfl rfl 2 (by decide) (hts _ tw_125) (fun _ h9 => h9) rfl dX4_back_32 ?_
    refine va_getN (D := D) (ci := 1) (v := .int (r_count - p1)) (C := RX1) (T := TX1) (N := 4) hx hb hts inX1 hown hK hP 8 rfl rfl 3 (by decide) (va_Nw.use rfl (hnw _ nn_10)) (fun _ h9 => h9) rfl dX4_back_35 ?_
    replace hf := Option.some.inj hf
    obtain ⟨er0, er1⟩ := Prod.mk.inj hf
    clear hf 
    subst er0
    subst er1
    exact rt_i Cc hK hP hD hS dX4_back_38
  · replace hf := (if_pos hc2).symm.trans hf
    refine lv_bipush (v := (-2 : Int32)) hx hb dX4_back_15 (by decide) ?_
    replace hf := Option.some.inj hf
    obtain ⟨er0, er1⟩ := Prod.mk.inj hf
    clear hf 
    subst er0
    subst er1
    exact rt_i Cc hK hP hD hS dX4_back_17
-- X4_wets
def fX4_wets_34 (n : Nat) : Nat → (Nat → Int32) → (Nat → Int32) → Int32 → Int32 → Int32 → Int32 → Int32 → Int32 → Int32 → (Nat → Int32) → (Nat → Int32) → Int32 → Int32 → Int32 → Int32 → Int32 → Int32 → Int32 → (Nat → Int32) → (Nat → Int32) → (Nat → Int32) → Int32 → Int32 → Int32 → Int32 → Option (Int32 × (Nat → Int32) × (Nat → Int32) × Int32 × Int32 × Int32 × Int32 × Int32 × Int32 × Int32)
  | 0, _, _, _, _, _, _, _, _, _, _, _, _, _, _, _, _, _, _, _, _, _, _, _, _, _ => none
  | k + 1, f_kind, f_wet, f_wide, f_rows, f_cells, f_sun, f_all, f_firstColumn, f_lastColumn, g_kind, g_wet, g_wide, g_rows, g_cells, g_sun, g_all, g_firstColumn, g_lastColumn, r_cells, r_hours, r_cracked, r_count, x1, x3, x4 => if (9 : Int32) < x4 then some (x3, g_kind, g_wet, g_wide, g_rows, g_cells, g_sun, g_all, g_firstColumn, g_lastColumn) else gd x1 12 ((fX1_areSoIn n r_cells r_hours r_cracked r_count g_kind (upd g_wet x1.toNatClampNeg x4) g_cells g_sun).bind fun q54_1 => if q54_1 = 0 then fX4_wets_34 n k f_kind f_wet f_wide f_rows f_cells f_sun f_all f_firstColumn f_lastColumn g_kind (upd g_wet x1.toNatClampNeg x4) g_wide g_rows g_cells g_sun g_all g_firstColumn g_lastColumn r_cells r_hours r_cracked r_count x1 x3 (x4 + 1) else fX4_wets_34 n k f_kind f_wet f_wide f_rows f_cells f_sun f_all f_firstColumn f_lastColumn g_kind (upd g_wet x1.toNatClampNeg x4) g_wide g_rows g_cells g_sun g_all g_firstColumn g_lastColumn r_cells r_hours r_cracked r_count x1 (x3 ||| ((1 : Int32) <<< (x4 &&& 31))) (x4 + 1))
def fX4_wets (n : Nat) (f_kind : Nat → Int32) (f_wet : Nat → Int32) (f_wide : Int32) (f_rows : Int32) (f_cells : Int32) (f_sun : Int32) (f_all : Int32) (f_firstColumn : Int32) (f_lastColumn : Int32) (g_kind : Nat → Int32) (g_wet : Nat → Int32) (g_wide : Int32) (g_rows : Int32) (g_cells : Int32) (g_sun : Int32) (g_all : Int32) (g_firstColumn : Int32) (g_lastColumn : Int32) (r_cells : Nat → Int32) (r_hours : Nat → Int32) (r_cracked : Nat → Int32) (r_count : Int32) (p1 : Int32) : Option (Int32 × (Nat → Int32) × (Nat → Int32) × Int32 × Int32 × Int32 × Int32 × Int32 × Int32 × Int32) := (fX0_isCell n f_cells p1).bind fun q5_1 => if q5_1 = 0 then some ((-1 : Int32), g_kind, g_wet, g_wide, g_rows, g_cells, g_sun, g_all, g_firstColumn, g_lastColumn) else (fX0_becomeLike n g_kind g_wet g_wide g_rows g_cells g_sun g_all g_firstColumn g_lastColumn f_kind f_wet f_wide f_rows f_cells f_sun f_all f_firstColumn f_lastColumn).bind fun q26_1 => fX4_wets_34 n n f_kind f_wet f_wide f_rows f_cells f_sun f_all f_firstColumn f_lastColumn q26_1.1 q26_1.2.1 q26_1.2.2.1 q26_1.2.2.2.1 q26_1.2.2.2.2.1 q26_1.2.2.2.2.2.1 q26_1.2.2.2.2.2.2.1 q26_1.2.2.2.2.2.2.2.1 q26_1.2.2.2.2.2.2.2.2 r_cells r_hours r_cracked r_count p1 (0 : Int32) (0 : Int32)
theorem mdX4_wets : yX4_wets.cls = RX4 ∧ yX4_wets.cls ≠ "java/lang/invoke/MethodHandle" ∧ yX4_wets.cls ≠ "java/lang/invoke/VarHandle" ∧ (parseMethodDescriptor yX4_wets.desc).map (fun d => d.parameters.length) = some 1 := by decide +kernel
set_option maxHeartbeats 4000000 in
set_option maxRecDepth 100000 in
theorem bX4_wets_34 {p : Program} {l : Launch} {e : Env} {s : State} {m : MethodId} {args : Array Value} {below : List Frame} {meth : Method} {c : Code} {A : Nat → Prop} {D : va_G} {cI cS : ClassId} (a_d a_f a_t a_r a_z a_f_kind a_f_wet a_g a_g_kind a_g_wet a_r_cells a_r_hours a_r_cracked a_s0 a_s0_row a_s1 a_s1_row a_s2 a_s2_row a_s3 a_s3_row : Nat) (d_hour : Int32) (d_traced : Int32) (d_latestFault : Int32) (t_hours : Int32) (t_opened : Int32) (t_firstWrong : Int32) (S_row : Nat → Nat → Int32) (S_lane : Nat → Int32) (S_length : Nat → Int32) (Cc : Cx p s m args meth c RX4 cX4_wets 5 (some .int)) (hK : va_K D classes (tysA cI cS) s) (hA : ∀ q, s.heap.size ≤ q → A q) (n : Nat) : ∀ (k : Nat) (f_kind : Nat → Int32) (f_wet : Nat → Int32) (f_wide : Int32) (f_rows : Int32) (f_cells : Int32) (f_sun : Int32) (f_all : Int32) (f_firstColumn : Int32) (f_lastColumn : Int32) (g_kind : Nat → Int32) (g_wet : Nat → Int32) (g_wide : Int32) (g_rows : Int32) (g_cells : Int32) (g_sun : Int32) (g_all : Int32) (g_firstColumn : Int32) (g_lastColumn : Int32) (r_cells : Nat → Int32) (r_hours : Nat → Int32) (r_cracked : Nat → Int32) (r_count : Int32) (x1 : Int32) (x3 : Int32) (x4 : Int32) (r : Int32) (g_kind' : Nat → Int32) (g_wet' : Nat → Int32) (g_wide' : Int32) (g_rows' : Int32) (g_cells' : Int32) (g_sun' : Int32) (g_all' : Int32) (g_firstColumn' : Int32) (g_lastColumn' : Int32), fX4_wets_34 n k f_kind f_wet f_wide f_rows f_cells f_sun f_all f_firstColumn f_lastColumn g_kind g_wet g_wide g_rows g_cells g_sun g_all g_firstColumn g_lastColumn r_cells r_hours r_cracked r_count x1 x3 x4 = some (r, g_kind', g_wet', g_wide', g_rows', g_cells', g_sun', g_all', g_firstColumn', g_lastColumn') → ∀ (H : Heap) (locs : List Loc) (ls : Array Slot), va_P D classes (W_D cI cS a_d a_f a_t a_r a_z a_f_kind a_f_wet a_g a_g_kind a_g_wet a_r_cells a_r_hours a_r_cracked a_s0 a_s0_row a_s1 a_s1_row a_s2 a_s2_row a_s3 a_s3_row d_hour d_traced d_latestFault f_kind f_wet f_wide f_rows f_cells f_sun f_all f_firstColumn f_lastColumn t_hours t_opened t_firstWrong g_kind g_wet g_wide g_rows g_cells g_sun g_all g_firstColumn g_lastColumn r_cells r_hours r_cracked r_count S_row S_lane S_length) H → va_D A (W_D cI cS a_d a_f a_t a_r a_z a_f_kind a_f_wet a_g a_g_kind a_g_wet a_r_cells a_r_hours a_r_cracked a_s0 a_s0_row a_s1 a_s1_row a_s2 a_s2_row a_s3 a_s3_row d_hour d_traced d_latestFault f_kind f_wet f_wide f_rows f_cells f_sun f_all f_firstColumn f_lastColumn t_hours t_opened t_firstWrong g_kind g_wet g_wide g_rows g_cells g_sun g_all g_firstColumn g_lastColumn r_cells r_hours r_cracked r_count S_row S_lane S_length) → va_S A s.heap H locs → lv_has ls 5 [(0, .ref a_d), (1, .int x1), (2, .ref a_g), (3, .int x3), (4, .int x4)] → W p l e (Rm 3) s m args below meth c H locs 0 0 (MQ below (QW D (tysA cI cS) (some (.int r)) (W_D cI cS a_d a_f a_t a_r a_z a_f_kind a_f_wet a_g a_g_kind a_g_wet a_r_cells a_r_hours a_r_cracked a_s0 a_s0_row a_s1 a_s1_row a_s2 a_s2_row a_s3 a_s3_row d_hour d_traced d_latestFault f_kind f_wet f_wide f_rows f_cells f_sun f_all f_firstColumn f_lastColumn t_hours t_opened t_firstWrong g_kind' g_wet' g_wide' g_rows' g_cells' g_sun' g_all' g_firstColumn' g_lastColumn' r_cells r_hours r_cracked r_count S_row S_lane S_length) A) args s 0 0 A) (F0 m 34 ls []) := by
  obtain ⟨hx, hb, hr, hml, hown, hts, hlk, hnw⟩ := id Cc
  intro k
  induction k with
  | zero =>
    intro f_kind f_wet f_wide f_rows f_cells f_sun f_all f_firstColumn f_lastColumn g_kind g_wet g_wide g_rows g_cells g_sun g_all g_firstColumn g_lastColumn r_cells r_hours r_cracked r_count x1 x3 x4 r g_kind' g_wet' g_wide' g_rows' g_cells' g_sun' g_all' g_firstColumn' g_lastColumn' hf
    rw [fX4_wets_34] at hf
    cases hf
  | succ k ih =>
    intro f_kind f_wet f_wide f_rows f_cells f_sun f_all f_firstColumn f_lastColumn g_kind g_wet g_wide g_rows g_cells g_sun g_all g_firstColumn g_lastColumn r_cells r_hours r_cracked r_count x1 x3 x4 r g_kind' g_wet' g_wide' g_rows' g_cells' g_sun' g_all' g_firstColumn' g_lastColumn' hf H locs ls hP hD hS hl
    rw [fX4_wets_34] at hf
    refine lv_iload hx hb dX4_wets_34 (lv_at hl 4 rfl) ?_
    refine lv_bipush (v := (9 : Int32)) hx hb dX4_wets_36 (by decide) ?_
    refine lv_icmp_gt (tgt := 73) hx hb dX4_wets_38 (by decide) (fun hc4 => ?_) (fun hc4 => ?_)
    · replace hf := (if_pos hc4).symm.trans hf
      refine lv_iload_n hx hb dX4_wets_73 rfl (lv_at hl 3 rfl) ?_
      replace hf := Option.some.inj hf
      obtain ⟨er0, er1⟩ := Prod.mk.inj hf
      obtain ⟨er2, er3⟩ := Prod.mk.inj er1
      obtain ⟨er4, er5⟩ := Prod.mk.inj er3
      obtain ⟨er6, er7⟩ := Prod.mk.inj er5
      obtain ⟨er8, er9⟩ := Prod.mk.inj er7
      obtain ⟨er10, er11⟩ := Prod.mk.inj er9
      obtain ⟨er12, er13⟩ := Prod.mk.inj er11
      obtain ⟨er14, er15⟩ := Prod.mk.inj er13
      obtain ⟨er16, er17⟩ := Prod.mk.inj er15
      clear hf er1 er3 er5 er7 er9 er11 er13 er15
      subst er0
      subst er2
      subst er4
      subst er6
      subst er8
      subst er10
      subst er12
      subst er14
      subst er16
      subst er17
      exact rt_i Cc hK hP hD hS dX4_wets_74
    · replace hf := (if_neg hc4).symm.trans hf
      refine lv_aload_n hx hb dX4_wets_41 rfl (lv_at hl 2 rfl) ?_
      refine va_getN (D := D) (ci := 0) (v := .ref a_g_wet) (C := RX0) (T := TX0) (N := 9) hx hb hts inX0 hown hK hP 5 rfl rfl 1 (by decide) (va_Nw.use rfl (hnw _ nn_1)) (fun _ h9 => h9) rfl dX4_wets_42 ?_
      refine lv_iload_n hx hb dX4_wets_45 rfl (lv_at hl 1 rfl) ?_
      refine lv_iload hx hb dX4_wets_46 (lv_at hl 4 rfl) ?_
      obtain ⟨hin, hf⟩ := gd_some hf
      refine va_iast hx hb hK hP hD hS 7 0 rfl rfl hin dX4_wets_48 (fun H locs hP hD hS => ?_)
      have hP : va_P D classes (W_D cI cS a_d a_f a_t a_r a_z a_f_kind a_f_wet a_g a_g_kind a_g_wet a_r_cells a_r_hours a_r_cracked a_s0 a_s0_row a_s1 a_s1_row a_s2 a_s2_row a_s3 a_s3_row d_hour d_traced d_latestFault f_kind f_wet f_wide f_rows f_cells f_sun f_all f_firstColumn f_lastColumn t_hours t_opened t_firstWrong g_kind (upd g_wet x1.toNatClampNeg x4) g_wide g_rows g_cells g_sun g_all g_firstColumn g_lastColumn r_cells r_hours r_cracked r_count S_row S_lane S_length) H := hP
      have hD : va_D A (W_D cI cS a_d a_f a_t a_r a_z a_f_kind a_f_wet a_g a_g_kind a_g_wet a_r_cells a_r_hours a_r_cracked a_s0 a_s0_row a_s1 a_s1_row a_s2 a_s2_row a_s3 a_s3_row d_hour d_traced d_latestFault f_kind f_wet f_wide f_rows f_cells f_sun f_all f_firstColumn f_lastColumn t_hours t_opened t_firstWrong g_kind (upd g_wet x1.toNatClampNeg x4) g_wide g_rows g_cells g_sun g_all g_firstColumn g_lastColumn r_cells r_hours r_cracked r_count S_row S_lane S_length) := hD
      refine lv_aload_n hx hb dX4_wets_49 rfl (lv_at hl 0 rfl) ?_
      refine va_get (D := D) (ci := 4) (v := .ref a_r) (C := RX4) (T := TX4) (N := 7) hx hb hts inX4 hown hK hP 0 rfl rfl 2 (by decide) (hts _ tw_125) (fun _ h9 => h9) rfl dX4_wets_50 ?_
      refine lv_aload_n hx hb dX4_wets_53 rfl (lv_at hl 2 rfl) ?_
      obtain ⟨q54_1, hq5, hf⟩ := Option.bind_eq_some_iff.mp hf
      refine cV (ws' := (W_D cI cS a_d a_f a_t a_r a_z a_f_kind a_f_wet a_g a_g_kind a_g_wet a_r_cells a_r_hours a_r_cracked a_s0 a_s0_row a_s1 a_s1_row a_s2 a_s2_row a_s3 a_s3_row d_hour d_traced d_latestFault f_kind f_wet f_wide f_rows f_cells f_sun f_all f_firstColumn f_lastColumn t_hours t_opened t_firstWrong g_kind (upd g_wet x1.toNatClampNeg x4) g_wide g_rows g_cells g_sun g_all g_firstColumn g_lastColumn r_cells r_hours r_cracked r_count S_row S_lane S_length)) (rest := []) (st1 := [.int q54_1]) Cc hK hA hP hD hS hl.1 (ctX1_areSoIn l D cI cS a_r a_r_cells a_r_hours a_r_cracked a_g a_g_kind a_g_wet r_cells r_hours r_cracked r_count g_kind (upd g_wet x1.toNatClampNeg x4) g_wide g_rows g_cells g_sun g_all g_firstColumn g_lastColumn  n q54_1 hq5) ⟨tw_397, tw_394, tw_395, tw_396, tw_4⟩ mdX1_areSoIn ⟨rfl, rfl, Nat.le_of_ble_eq_true rfl, Nat.le_of_ble_eq_true rfl⟩ rfl dX4_wets_54 rfl (Nat.le_of_ble_eq_true rfl) ⟨Nat.zero_le _, Nat.zero_le _⟩ rfl rfl rfl [8, 9, 10, 11, 5, 6, 7] [0, 1, 2, 3, 4, 12, 13, 14, 15, 16, 17, 18, 19, 20] [0, 1, 2, 3, 4, 18, 19, 20, 14, 15, 16, 17, 5, 6, 7, 8, 9, 10, 11, 12, 13] rfl rfl (by decide) rfl (fun H locs hP hD hS => ?_)
      refine lv_if_eq (tgt := 67) hx hb dX4_wets_57 (by decide) (fun hc6 => ?_) (fun hc6 => ?_)
      · replace hf := (if_pos hc6).symm.trans hf
        refine lv_iinc (v := (x4 + 1)) (lv' := [(4, .int (x4 + 1)), (0, .ref a_d), (1, .int x1), (2, .ref a_g), (3, .int x3)]) hx hb dX4_wets_67 hl (k := 4) rfl rfl (by decide) rfl (fun ls hl => ?_)
        refine lv_goto (tgt := 34) hx hb dX4_wets_70 (by decide) ?_
        exact ih _ _ _ _ _ _ _ _ _ _ _ _ _ _ _ _ _ _ _ _ _ _ _ _ _ _ _ _ _ _ _ _ _ _ _ hf _ _ _ hP hD hS (lv_sub hl [1, 2, 3, 4, 0] rfl)
      · replace hf := (if_neg hc6).symm.trans hf
        refine lv_iload_n hx hb dX4_wets_60 rfl (lv_at hl 3 rfl) ?_
        refine lv_iconst (v := (1 : Int32)) hx hb dX4_wets_61 (by decide) ?_
        refine lv_iload hx hb dX4_wets_62 (lv_at hl 4 rfl) ?_
        refine lv_ishl hx hb dX4_wets_64 ?_
        refine lv_ior hx hb dX4_wets_65 ?_
        refine lv_istore_n (lv' := [(3, .int (x3 ||| ((1 : Int32) <<< (x4 &&& 31)))), (0, .ref a_d), (1, .int x1), (2, .ref a_g), (4, .int x4)]) hx hb dX4_wets_66 rfl hl (by decide) rfl (fun ls hl => ?_)
        refine lv_iinc (v := (x4 + 1)) (lv' := [(4, .int (x4 + 1)), (3, .int (x3 ||| ((1 : Int32) <<< (x4 &&& 31)))), (0, .ref a_d), (1, .int x1), (2, .ref a_g)]) hx hb dX4_wets_67 hl (k := 4) rfl rfl (by decide) rfl (fun ls hl => ?_)
        refine lv_goto (tgt := 34) hx hb dX4_wets_70 (by decide) ?_
        exact ih _ _ _ _ _ _ _ _ _ _ _ _ _ _ _ _ _ _ _ _ _ _ _ _ _ _ _ _ _ _ _ _ _ _ _ hf _ _ _ hP hD hS (lv_sub hl [2, 3, 4, 1, 0] rfl)
set_option maxHeartbeats 4000000 in
set_option maxRecDepth 100000 in
theorem ctX4_wets (l : Launch) (D : va_G) (cI cS : ClassId) (a_d a_f a_t a_r a_z a_f_kind a_f_wet a_g a_g_kind a_g_wet a_r_cells a_r_hours a_r_cracked a_s0 a_s0_row a_s1 a_s1_row a_s2 a_s2_row a_s3 a_s3_row : Nat) (d_hour : Int32) (d_traced : Int32) (d_latestFault : Int32) (f_kind : Nat → Int32) (f_wet : Nat → Int32) (f_wide : Int32) (f_rows : Int32) (f_cells : Int32) (f_sun : Int32) (f_all : Int32) (f_firstColumn : Int32) (f_lastColumn : Int32) (t_hours : Int32) (t_opened : Int32) (t_firstWrong : Int32) (g_kind : Nat → Int32) (g_wet : Nat → Int32) (g_wide : Int32) (g_rows : Int32) (g_cells : Int32) (g_sun : Int32) (g_all : Int32) (g_firstColumn : Int32) (g_lastColumn : Int32) (r_cells : Nat → Int32) (r_hours : Nat → Int32) (r_cracked : Nat → Int32) (r_count : Int32) (S_row : Nat → Nat → Int32) (S_lane : Nat → Int32) (S_length : Nat → Int32) (p1 : Int32) (n : Nat) (r : Int32) (g_kind' : Nat → Int32) (g_wet' : Nat → Int32) (g_wide' : Int32) (g_rows' : Int32) (g_cells' : Int32) (g_sun' : Int32) (g_all' : Int32) (g_firstColumn' : Int32) (g_lastColumn' : Int32) (hf : fX4_wets n f_kind f_wet f_wide f_rows f_cells f_sun f_all f_firstColumn f_lastColumn g_kind g_wet g_wide g_rows g_cells g_sun g_all g_firstColumn g_lastColumn r_cells r_hours r_cracked r_count p1 = some (r, g_kind', g_wet', g_wide', g_rows', g_cells', g_sun', g_all', g_firstColumn', g_lastColumn')) : Ct l D (tysA cI cS) yX4_wets cX4_wets 5 (some .int) (Rm 3) [.ref a_d, .int p1] (W_D cI cS a_d a_f a_t a_r a_z a_f_kind a_f_wet a_g a_g_kind a_g_wet a_r_cells a_r_hours a_r_cracked a_s0 a_s0_row a_s1 a_s1_row a_s2 a_s2_row a_s3 a_s3_row d_hour d_traced d_latestFault f_kind f_wet f_wide f_rows f_cells f_sun f_all f_firstColumn f_lastColumn t_hours t_opened t_firstWrong g_kind g_wet g_wide g_rows g_cells g_sun g_all g_firstColumn g_lastColumn r_cells r_hours r_cracked r_count S_row S_lane S_length) (some (.int r)) (W_D cI cS a_d a_f a_t a_r a_z a_f_kind a_f_wet a_g a_g_kind a_g_wet a_r_cells a_r_hours a_r_cracked a_s0 a_s0_row a_s1 a_s1_row a_s2 a_s2_row a_s3 a_s3_row d_hour d_traced d_latestFault f_kind f_wet f_wide f_rows f_cells f_sun f_all f_firstColumn f_lastColumn t_hours t_opened t_firstWrong g_kind' g_wet' g_wide' g_rows' g_cells' g_sun' g_all' g_firstColumn' g_lastColumn' r_cells r_hours r_cracked r_count S_row S_lane S_length) := by
  refine Ct_of (by decide) (Nat.le_of_ble_eq_true rfl) ?_
  intro p e s m args below meth c A ls Cc hK hA hP hD hS hl
  have hl : lv_has ls 5 [(0, .ref a_d), (1, .int p1)] := hl
  obtain ⟨hx, hb, hr, hml, hown, hts, hlk, hnw⟩ := id Cc
  unfold fX4_wets at hf
  refine lv_aload_n hx hb dX4_wets_0 rfl (lv_at hl 0 rfl) ?_
  refine va_get (D := D) (ci := 4) (v := .ref a_f) (C := RX4) (T := TX4) (N := 7) hx hb hts inX4 hown hK hP 0 rfl rfl 0 (by decide) (hts _ tw_123) (fun _ h9 => h9) rfl dX4_wets_1 ?_
  refine lv_iload_n hx hb dX4_wets_4 rfl (lv_at hl 1 rfl) ?_
  obtain ⟨q5_1, hq1, hf⟩ := Option.bind_eq_some_iff.mp hf
  refine cV (ws' := (W_D cI cS a_d a_f a_t a_r a_z a_f_kind a_f_wet a_g a_g_kind a_g_wet a_r_cells a_r_hours a_r_cracked a_s0 a_s0_row a_s1 a_s1_row a_s2 a_s2_row a_s3 a_s3_row d_hour d_traced d_latestFault f_kind f_wet f_wide f_rows f_cells f_sun f_all f_firstColumn f_lastColumn t_hours t_opened t_firstWrong g_kind g_wet g_wide g_rows g_cells g_sun g_all g_firstColumn g_lastColumn r_cells r_hours r_cracked r_count S_row S_lane S_length)) (rest := []) (st1 := [.int q5_1]) Cc hK hA hP hD hS hl.1 (ctX0_isCell l D cI cS a_f a_f_kind a_f_wet f_kind f_wet f_wide f_rows f_cells f_sun f_all f_firstColumn f_lastColumn p1 n q5_1 hq1) ⟨tw_218, tw_215, tw_216, tw_217, tw_2⟩ mdX0_isCell ⟨rfl, rfl, Nat.le_of_ble_eq_true rfl, Nat.le_of_ble_eq_true rfl⟩ rfl dX4_wets_5 rfl (Nat.le_of_ble_eq_true rfl) ⟨Nat.zero_le _, Nat.zero_le _⟩ rfl rfl rfl [1, 2, 3] [0, 4, 5, 6, 7, 8, 9, 10, 11, 12, 13, 14, 15, 16, 17, 18, 19, 20] [0, 18, 19, 20, 1, 2, 3, 4, 5, 6, 7, 8, 9, 10, 11, 12, 13, 14, 15, 16, 17] rfl rfl (by decide) rfl (fun H locs hP hD hS => ?_)
  refine lv_if_ne (tgt := 13) hx hb dX4_wets_8 (by decide) (fun hc2 => ?_) (fun hc2 => ?_)
  · replace hf := (if_neg hc2).symm.trans hf
    refine lv_aload_n hx hb dX4_wets_13 rfl (lv_at hl 0 rfl) ?_
    refine va_get (D := D) (ci := 4) (v := .ref a_t) (C := RX4) (T := TX4) (N := 7) hx hb hts inX4 hown hK hP 0 rfl rfl 1 (by decide) (hts _ tw_124) (fun _ h9 => h9) rfl dX4_wets_14 ?_
    refine va_getN (D := D) (ci := 3) (v := .ref a_g) (C := RX3) (T := TX3) (N := 4) hx hb hts inX3 hown hK hP 4 rfl rfl 0 (by decide) (va_Nw.use rfl (hnw _ nn_9)) (fun _ h9 => h9) rfl dX4_wets_17 ?_
    refine lv_astore_n (lv' := [(2, .ref a_g), (0, .ref a_d), (1, .int p1)]) hx hb dX4_wets_20 rfl hl (by decide) rfl (fun ls hl => ?_)
    refine lv_aload_n hx hb dX4_wets_21 rfl (lv_at hl 0 rfl) ?_
    refine lv_aload_n hx hb dX4_wets_22 rfl (lv_at hl 1 rfl) ?_
    refine va_get (D := D) (ci := 4) (v := .ref a_f) (C := RX4) (T := TX4) (N := 7) hx hb hts inX4 hown hK hP 0 rfl rfl 0 (by decide) (hts _ tw_123) (fun _ h9 => h9) rfl dX4_wets_23 ?_
    obtain ⟨q26_1, hq3, hf⟩ := Option.bind_eq_some_iff.mp hf
    refine cV (ws' := (W_D cI cS a_d a_f a_t a_r a_z a_f_kind a_f_wet a_g a_g_kind a_g_wet a_r_cells a_r_hours a_r_cracked a_s0 a_s0_row a_s1 a_s1_row a_s2 a_s2_row a_s3 a_s3_row d_hour d_traced d_latestFault f_kind f_wet f_wide f_rows f_cells f_sun f_all f_firstColumn f_lastColumn t_hours t_opened t_firstWrong q26_1.1 q26_1.2.1 q26_1.2.2.1 q26_1.2.2.2.1 q26_1.2.2.2.2.1 q26_1.2.2.2.2.2.1 q26_1.2.2.2.2.2.2.1 q26_1.2.2.2.2.2.2.2.1 q26_1.2.2.2.2.2.2.2.2 r_cells r_hours r_cracked r_count S_row S_lane S_length)) (rest := []) (st1 := []) Cc hK hA hP hD hS hl.1 (ctX0_becomeLike l D cI cS a_g a_g_kind a_g_wet a_f a_f_kind a_f_wet g_kind g_wet g_wide g_rows g_cells g_sun g_all g_firstColumn g_lastColumn f_kind f_wet f_wide f_rows f_cells f_sun f_all f_firstColumn f_lastColumn  n q26_1.1 q26_1.2.1 q26_1.2.2.1 q26_1.2.2.2.1 q26_1.2.2.2.2.1 q26_1.2.2.2.2.2.1 q26_1.2.2.2.2.2.2.1 q26_1.2.2.2.2.2.2.2.1 q26_1.2.2.2.2.2.2.2.2 hq3) ⟨tw_324, tw_393, tw_322, tw_323, tw_2⟩ mdX0_becomeLike ⟨rfl, rfl, Nat.le_of_ble_eq_true rfl, Nat.le_of_ble_eq_true rfl⟩ rfl dX4_wets_26 rfl (Nat.le_of_ble_eq_true rfl) ⟨Nat.zero_le _, Nat.zero_le _⟩ rfl rfl rfl [5, 6, 7, 1, 2, 3] [0, 4, 8, 9, 10, 11, 12, 13, 14, 15, 16, 17, 18, 19, 20] [0, 18, 19, 20, 1, 15, 16, 17, 2, 3, 4, 5, 6, 7, 8, 9, 10, 11, 12, 13, 14] rfl rfl (by decide) rfl (fun H locs hP hD hS => ?_)
    refine lv_iconst (v := (0 : Int32)) hx hb dX4_wets_29 (by decide) ?_
    refine lv_istore_n (lv' := [(3, .int (0 : Int32)), (2, .ref a_g), (0, .ref a_d), (1, .int p1)]) hx hb dX4_wets_30 rfl hl (by decide) rfl (fun ls hl => ?_)
    refine lv_iconst (v := (0 : Int32)) hx hb dX4_wets_31 (by decide) ?_
    refine lv_istore (lv' := [(4, .int (0 : Int32)), (3, .int (0 : Int32)), (2, .ref a_g), (0, .ref a_d), (1, .int p1)]) hx hb dX4_wets_32 hl (by decide) rfl (fun ls hl => ?_)
    exact bX4_wets_34 a_d a_f a_t a_r a_z a_f_kind a_f_wet a_g a_g_kind a_g_wet a_r_cells a_r_hours a_r_cracked a_s0 a_s0_row a_s1 a_s1_row a_s2 a_s2_row a_s3 a_s3_row d_hour d_traced d_latestFault t_hours t_opened t_firstWrong S_row S_lane S_length Cc hK hA n n _ _ _ _ _ _ _ _ _ _ _ _ _ _ _ _ _ _ _ _ _ _ _ _ _ _ _ _ _ _ _ _ _ _ _ hf _ _ _ hP hD hS (lv_sub hl [3, 4, 2, 1, 0] rfl)
  · replace hf := (if_pos hc2).symm.trans hf
    refine lv_iconst (v := (-1 : Int32)) hx hb dX4_wets_11 (by decide) ?_
    replace hf := Option.some.inj hf
    obtain ⟨er0, er1⟩ := Prod.mk.inj hf
    obtain ⟨er2, er3⟩ := Prod.mk.inj er1
    obtain ⟨er4, er5⟩ := Prod.mk.inj er3
    obtain ⟨er6, er7⟩ := Prod.mk.inj er5
    obtain ⟨er8, er9⟩ := Prod.mk.inj er7
    obtain ⟨er10, er11⟩ := Prod.mk.inj er9
    obtain ⟨er12, er13⟩ := Prod.mk.inj er11
    obtain ⟨er14, er15⟩ := Prod.mk.inj er13
    obtain ⟨er16, er17⟩ := Prod.mk.inj er15
    clear hf er1 er3 er5 er7 er9 er11 er13 er15
    subst er0
    subst er2
    subst er4
    subst er6
    subst er8
    subst er10
    subst er12
    subst er14
    subst er16
    subst er17
    exact rt_i Cc hK hP hD hS dX4_wets_12
-- X4_kinds
def fX4_kinds_34 (n : Nat) : Nat → (Nat → Int32) → (Nat → Int32) → Int32 → Int32 → Int32 → Int32 → Int32 → Int32 → Int32 → (Nat → Int32) → (Nat → Int32) → Int32 → Int32 → Int32 → Int32 → Int32 → Int32 → Int32 → (Nat → Int32) → (Nat → Int32) → (Nat → Int32) → Int32 → Int32 → Int32 → Int32 → Option (Int32 × (Nat → Int32) × (Nat → Int32) × Int32 × Int32 × Int32 × Int32 × Int32 × Int32 × Int32)
  | 0, _, _, _, _, _, _, _, _, _, _, _, _, _, _, _, _, _, _, _, _, _, _, _, _, _ => none
  | k + 1, f_kind, f_wet, f_wide, f_rows, f_cells, f_sun, f_all, f_firstColumn, f_lastColumn, g_kind, g_wet, g_wide, g_rows, g_cells, g_sun, g_all, g_firstColumn, g_lastColumn, r_cells, r_hours, r_cracked, r_count, x1, x3, x4 => if (2 : Int32) < x4 then some (x3, g_kind, g_wet, g_wide, g_rows, g_cells, g_sun, g_all, g_firstColumn, g_lastColumn) else gd x1 12 ((fX1_areSoIn n r_cells r_hours r_cracked r_count (upd g_kind x1.toNatClampNeg x4) g_wet g_cells g_sun).bind fun q53_1 => if q53_1 = 0 then fX4_kinds_34 n k f_kind f_wet f_wide f_rows f_cells f_sun f_all f_firstColumn f_lastColumn (upd g_kind x1.toNatClampNeg x4) g_wet g_wide g_rows g_cells g_sun g_all g_firstColumn g_lastColumn r_cells r_hours r_cracked r_count x1 x3 (x4 + 1) else fX4_kinds_34 n k f_kind f_wet f_wide f_rows f_cells f_sun f_all f_firstColumn f_lastColumn (upd g_kind x1.toNatClampNeg x4) g_wet g_wide g_rows g_cells g_sun g_all g_firstColumn g_lastColumn r_cells r_hours r_cracked r_count x1 (x3 ||| ((1 : Int32) <<< (x4 &&& 31))) (x4 + 1))
def fX4_kinds (n : Nat) (f_kind : Nat → Int32) (f_wet : Nat → Int32) (f_wide : Int32) (f_rows : Int32) (f_cells : Int32) (f_sun : Int32) (f_all : Int32) (f_firstColumn : Int32) (f_lastColumn : Int32) (g_kind : Nat → Int32) (g_wet : Nat → Int32) (g_wide : Int32) (g_rows : Int32) (g_cells : Int32) (g_sun : Int32) (g_all : Int32) (g_firstColumn : Int32) (g_lastColumn : Int32) (r_cells : Nat → Int32) (r_hours : Nat → Int32) (r_cracked : Nat → Int32) (r_count : Int32) (p1 : Int32) : Option (Int32 × (Nat → Int32) × (Nat → Int32) × Int32 × Int32 × Int32 × Int32 × Int32 × Int32 × Int32) := (fX0_isCell n f_cells p1).bind fun q5_1 => if q5_1 = 0 then some ((-1 : Int32), g_kind, g_wet, g_wide, g_rows, g_cells, g_sun, g_all, g_firstColumn, g_lastColumn) else (fX0_becomeLike n g_kind g_wet g_wide g_rows g_cells g_sun g_all g_firstColumn g_lastColumn f_kind f_wet f_wide f_rows f_cells f_sun f_all f_firstColumn f_lastColumn).bind fun q26_1 => fX4_kinds_34 n n f_kind f_wet f_wide f_rows f_cells f_sun f_all f_firstColumn f_lastColumn q26_1.1 q26_1.2.1 q26_1.2.2.1 q26_1.2.2.2.1 q26_1.2.2.2.2.1 q26_1.2.2.2.2.2.1 q26_1.2.2.2.2.2.2.1 q26_1.2.2.2.2.2.2.2.1 q26_1.2.2.2.2.2.2.2.2 r_cells r_hours r_cracked r_count p1 (0 : Int32) (0 : Int32)
theorem mdX4_kinds : yX4_kinds.cls = RX4 ∧ yX4_kinds.cls ≠ "java/lang/invoke/MethodHandle" ∧ yX4_kinds.cls ≠ "java/lang/invoke/VarHandle" ∧ (parseMethodDescriptor yX4_kinds.desc).map (fun d => d.parameters.length) = some 1 := by decide +kernel
set_option maxHeartbeats 4000000 in
set_option maxRecDepth 100000 in
theorem bX4_kinds_34 {p : Program} {l : Launch} {e : Env} {s : State} {m : MethodId} {args : Array Value} {below : List Frame} {meth : Method} {c : Code} {A : Nat → Prop} {D : va_G} {cI cS : ClassId} (a_d a_f a_t a_r a_z a_f_kind a_f_wet a_g a_g_kind a_g_wet a_r_cells a_r_hours a_r_cracked a_s0 a_s0_row a_s1 a_s1_row a_s2 a_s2_row a_s3 a_s3_row : Nat) (d_hour : Int32) (d_traced : Int32) (d_latestFault : Int32) (t_hours : Int32) (t_opened : Int32) (t_firstWrong : Int32) (S_row : Nat → Nat → Int32) (S_lane : Nat → Int32) (S_length : Nat → Int32) (Cc : Cx p s m args meth c RX4 cX4_kinds 5 (some .int)) (hK : va_K D classes (tysA cI cS) s) (hA : ∀ q, s.heap.size ≤ q → A q) (n : Nat) : ∀ (k : Nat) (f_kind : Nat → Int32) (f_wet : Nat → Int32) (f_wide : Int32) (f_rows : Int32) (f_cells : Int32) (f_sun : Int32) (f_all : Int32) (f_firstColumn : Int32) (f_lastColumn : Int32) (g_kind : Nat → Int32) (g_wet : Nat → Int32) (g_wide : Int32) (g_rows : Int32) (g_cells : Int32) (g_sun : Int32) (g_all : Int32) (g_firstColumn : Int32) (g_lastColumn : Int32) (r_cells : Nat → Int32) (r_hours : Nat → Int32) (r_cracked : Nat → Int32) (r_count : Int32) (x1 : Int32) (x3 : Int32) (x4 : Int32) (r : Int32) (g_kind' : Nat → Int32) (g_wet' : Nat → Int32) (g_wide' : Int32) (g_rows' : Int32) (g_cells' : Int32) (g_sun' : Int32) (g_all' : Int32) (g_firstColumn' : Int32) (g_lastColumn' : Int32), fX4_kinds_34 n k f_kind f_wet f_wide f_rows f_cells f_sun f_all f_firstColumn f_lastColumn g_kind g_wet g_wide g_rows g_cells g_sun g_all g_firstColumn g_lastColumn r_cells r_hours r_cracked r_count x1 x3 x4 = some (r, g_kind', g_wet', g_wide', g_rows', g_cells', g_sun', g_all', g_firstColumn', g_lastColumn') → ∀ (H : Heap) (locs : List Loc) (ls : Array Slot), va_P D classes (W_D cI cS a_d a_f a_t a_r a_z a_f_kind a_f_wet a_g a_g_kind a_g_wet a_r_cells a_r_hours a_r_cracked a_s0 a_s0_row a_s1 a_s1_row a_s2 a_s2_row a_s3 a_s3_row d_hour d_traced d_latestFault f_kind f_wet f_wide f_rows f_cells f_sun f_all f_firstColumn f_lastColumn t_hours t_opened t_firstWrong g_kind g_wet g_wide g_rows g_cells g_sun g_all g_firstColumn g_lastColumn r_cells r_hours r_cracked r_count S_row S_lane S_length) H → va_D A (W_D cI cS a_d a_f a_t a_r a_z a_f_kind a_f_wet a_g a_g_kind a_g_wet a_r_cells a_r_hours a_r_cracked a_s0 a_s0_row a_s1 a_s1_row a_s2 a_s2_row a_s3 a_s3_row d_hour d_traced d_latestFault f_kind f_wet f_wide f_rows f_cells f_sun f_all f_firstColumn f_lastColumn t_hours t_opened t_firstWrong g_kind g_wet g_wide g_rows g_cells g_sun g_all g_firstColumn g_lastColumn r_cells r_hours r_cracked r_count S_row S_lane S_length) → va_S A s.heap H locs → lv_has ls 5 [(0, .ref a_d), (1, .int x1), (2, .ref a_g), (3, .int x3), (4, .int x4)] → W p l e (Rm 3) s m args below meth c H locs 0 0 (MQ below (QW D (tysA cI cS) (some (.int r)) (W_D cI cS a_d a_f a_t a_r a_z a_f_kind a_f_wet a_g a_g_kind a_g_wet a_r_cells a_r_hours a_r_cracked a_s0 a_s0_row a_s1 a_s1_row a_s2 a_s2_row a_s3 a_s3_row d_hour d_traced d_latestFault f_kind f_wet f_wide f_rows f_cells f_sun f_all f_firstColumn f_lastColumn t_hours t_opened t_firstWrong g_kind' g_wet' g_wide' g_rows' g_cells' g_sun' g_all' g_firstColumn' g_lastColumn' r_cells r_hours r_cracked r_count S_row S_lane S_length) A) args s 0 0 A) (F0 m 34 ls []) := by
  obtain ⟨hx, hb, hr, hml, hown, hts, hlk, hnw⟩ := id Cc
  intro k
  induction k with
  | zero =>
    intro f_kind f_wet f_wide f_rows f_cells f_sun f_all f_firstColumn f_lastColumn g_kind g_wet g_wide g_rows g_cells g_sun g_all g_firstColumn g_lastColumn r_cells r_hours r_cracked r_count x1 x3 x4 r g_kind' g_wet' g_wide' g_rows' g_cells' g_sun' g_all' g_firstColumn' g_lastColumn' hf
    rw [fX4_kinds_34] at hf
    cases hf
  | succ k ih =>
    intro f_kind f_wet f_wide f_rows f_cells f_sun f_all f_firstColumn f_lastColumn g_kind g_wet g_wide g_rows g_cells g_sun g_all g_firstColumn g_lastColumn r_cells r_hours r_cracked r_count x1 x3 x4 r g_kind' g_wet' g_wide' g_rows' g_cells' g_sun' g_all' g_firstColumn' g_lastColumn' hf H locs ls hP hD hS hl
    rw [fX4_kinds_34] at hf
    refine lv_iload hx hb dX4_kinds_34 (lv_at hl 4 rfl) ?_
    refine lv_iconst (v := (2 : Int32)) hx hb dX4_kinds_36 (by decide) ?_
    refine lv_icmp_gt (tgt := 72) hx hb dX4_kinds_37 (by decide) (fun hc4 => ?_) (fun hc4 => ?_)
    · replace hf := (if_pos hc4).symm.trans hf
      refine lv_iload_n hx hb dX4_kinds_72 rfl (lv_at hl 3 rfl) ?_
      replace hf := Option.some.inj hf
      obtain ⟨er0, er1⟩ := Prod.mk.inj hf
      obtain ⟨er2, er3⟩ := Prod.mk.inj er1
      obtain ⟨er4, er5⟩ := Prod.mk.inj er3
      obtain ⟨er6, er7⟩ := Prod.mk.inj er5
      obtain ⟨er8, er9⟩ := Prod.mk.inj er7
      obtain ⟨er10, er11⟩ := Prod.mk.inj er9
      obtain ⟨er12, er13⟩ := Prod.mk.inj er11
      obtain ⟨er14, er15⟩ := Prod.mk.inj er13
      obtain ⟨er16, er17⟩ := Prod.mk.inj er15
      clear hf er1 er3 er5 er7 er9 er11 er13 er15
      subst er0
      subst er2
      subst er4
      subst er6
      subst er8
      subst er10
      subst er12
      subst er14
      subst er16
      subst er17
      exact rt_i Cc hK hP hD hS dX4_kinds_73
    · replace hf := (if_neg hc4).symm.trans hf
      refine lv_aload_n hx hb dX4_kinds_40 rfl (lv_at hl 2 rfl) ?_
      refine va_getN (D := D) (ci := 0) (v := .ref a_g_kind) (C := RX0) (T := TX0) (N := 9) hx hb hts inX0 hown hK hP 5 rfl rfl 0 (by decide) (va_Nw.use rfl (hnw _ nn_0)) (fun _ h9 => h9) rfl dX4_kinds_41 ?_
      refine lv_iload_n hx hb dX4_kinds_44 rfl (lv_at hl 1 rfl) ?_
      refine lv_iload hx hb dX4_kinds_45 (lv_at hl 4 rfl) ?_
      obtain ⟨hin, hf⟩ := gd_some hf
      refine va_iast hx hb hK hP hD hS 6 0 rfl rfl hin dX4_kinds_47 (fun H locs hP hD hS => ?_)
      have hP : va_P D classes (W_D cI cS a_d a_f a_t a_r a_z a_f_kind a_f_wet a_g a_g_kind a_g_wet a_r_cells a_r_hours a_r_cracked a_s0 a_s0_row a_s1 a_s1_row a_s2 a_s2_row a_s3 a_s3_row d_hour d_traced d_latestFault f_kind f_wet f_wide f_rows f_cells f_sun f_all f_firstColumn f_lastColumn t_hours t_opened t_firstWrong (upd g_kind x1.toNatClampNeg x4) g_wet g_wide g_rows g_cells g_sun g_all g_firstColumn g_lastColumn r_cells r_hours r_cracked r_count S_row S_lane S_length) H := hP
      have hD : va_D A (W_D cI cS a_d a_f a_t a_r a_z a_f_kind a_f_wet a_g a_g_kind a_g_wet a_r_cells a_r_hours a_r_cracked a_s0 a_s0_row a_s1 a_s1_row a_s2 a_s2_row a_s3 a_s3_row d_hour d_traced d_latestFault f_kind f_wet f_wide f_rows f_cells f_sun f_all f_firstColumn f_lastColumn t_hours t_opened t_firstWrong (upd g_kind x1.toNatClampNeg x4) g_wet g_wide g_rows g_cells g_sun g_all g_firstColumn g_lastColumn r_cells r_hours r_cracked r_count S_row S_lane S_length) := hD
      refine lv_aload_n hx hb dX4_kinds_48 rfl (lv_at hl 0 rfl) ?_
      refine va_get (D := D) (ci := 4) (v := .ref a_r) (C := RX4) (T := TX4) (N := 7) hx hb hts inX4 hown hK hP 0 rfl rfl 2 (by decide) (hts _ tw_125) (fun _ h9 => h9) rfl dX4_kinds_49 ?_
      refine lv_aload_n hx hb dX4_kinds_52 rfl (lv_at hl 2 rfl) ?_
      obtain ⟨q53_1, hq5, hf⟩ := Option.bind_eq_some_iff.mp hf
      refine cV (ws' := (W_D cI cS a_d a_f a_t a_r a_z a_f_kind a_f_wet a_g a_g_kind a_g_wet a_r_cells a_r_hours a_r_cracked a_s0 a_s0_row a_s1 a_s1_row a_s2 a_s2_row a_s3 a_s3_row d_hour d_traced d_latestFault f_kind f_wet f_wide f_rows f_cells f_sun f_all f_firstColumn f_lastColumn t_hours t_opened t_firstWrong (upd g_kind x1.toNatClampNeg x4) g_wet g_wide g_rows g_cells g_sun g_all g_firstColumn g_lastColumn r_cells r_hours r_cracked r_count S_row S_lane S_length)) (rest := []) (st1 := [.int q53_1]) Cc hK hA hP hD hS hl.1 (ctX1_areSoIn l D cI cS a_r a_r_cells a_r_hours a_r_cracked a_g a_g_kind a_g_wet r_cells r_hours r_cracked r_count (upd g_kind x1.toNatClampNeg x4) g_wet g_wide g_rows g_cells g_sun g_all g_firstColumn g_lastColumn  n q53_1 hq5) ⟨tw_397, tw_394, tw_395, tw_396, tw_4⟩ mdX1_areSoIn ⟨rfl, rfl, Nat.le_of_ble_eq_true rfl, Nat.le_of_ble_eq_true rfl⟩ rfl dX4_kinds_53 rfl (Nat.le_of_ble_eq_true rfl) ⟨Nat.zero_le _, Nat.zero_le _⟩ rfl rfl rfl [8, 9, 10, 11, 5, 6, 7] [0, 1, 2, 3, 4, 12, 13, 14, 15, 16, 17, 18, 19, 20] [0, 1, 2, 3, 4, 18, 19, 20, 14, 15, 16, 17, 5, 6, 7, 8, 9, 10, 11, 12, 13] rfl rfl (by decide) rfl (fun H locs hP hD hS => ?_)
      refine lv_if_eq (tgt := 66) hx hb dX4_kinds_56 (by decide) (fun hc6 => ?_) (fun hc6 => ?_)
      · replace hf := (if_pos hc6).symm.trans hf
        refine lv_iinc (v := (x4 + 1)) (lv' := [(4, .int (x4 + 1)), (0, .ref a_d), (1, .int x1), (2, .ref a_g), (3, .int x3)]) hx hb dX4_kinds_66 hl (k := 4) rfl rfl (by decide) rfl (fun ls hl => ?_)
        refine lv_goto (tgt := 34) hx hb dX4_kinds_69 (by decide) ?_
        exact ih _ _ _ _ _ _ _ _ _ _ _ _ _ _ _ _ _ _ _ _ _ _ _ _ _ _ _ _ _ _ _ _ _ _ _ hf _ _ _ hP hD hS (lv_sub hl [1, 2, 3, 4, 0] rfl)
      · replace hf := (if_neg hc6).symm.trans hf
        refine lv_iload_n hx hb dX4_kinds_59 rfl (lv_at hl 3 rfl) ?_
        refine lv_iconst (v := (1 : Int32)) hx hb dX4_kinds_60 (by decide) ?_
        refine lv_iload hx hb dX4_kinds_61 (lv_at hl 4 rfl) ?_
        refine lv_ishl hx hb dX4_kinds_63 ?_
        refine lv_ior hx hb dX4_kinds_64 ?_
        refine lv_istore_n (lv' := [(3, .int (x3 ||| ((1 : Int32) <<< (x4 &&& 31)))), (0, .ref a_d), (1, .int x1), (2, .ref a_g), (4, .int x4)]) hx hb dX4_kinds_65 rfl hl (by decide) rfl (fun ls hl => ?_)
        refine lv_iinc (v := (x4 + 1)) (lv' := [(4, .int (x4 + 1)), (3, .int (x3 ||| ((1 : Int32) <<< (x4 &&& 31)))), (0, .ref a_d), (1, .int x1), (2, .ref a_g)]) hx hb dX4_kinds_66 hl (k := 4) rfl rfl (by decide) rfl (fun ls hl => ?_)
        refine lv_goto (tgt := 34) hx hb dX4_kinds_69 (by decide) ?_
        exact ih _ _ _ _ _ _ _ _ _ _ _ _ _ _ _ _ _ _ _ _ _ _ _ _ _ _ _ _ _ _ _ _ _ _ _ hf _ _ _ hP hD hS (lv_sub hl [2, 3, 4, 1, 0] rfl)
set_option maxHeartbeats 4000000 in
set_option maxRecDepth 100000 in
theorem ctX4_kinds (l : Launch) (D : va_G) (cI cS : ClassId) (a_d a_f a_t a_r a_z a_f_kind a_f_wet a_g a_g_kind a_g_wet a_r_cells a_r_hours a_r_cracked a_s0 a_s0_row a_s1 a_s1_row a_s2 a_s2_row a_s3 a_s3_row : Nat) (d_hour : Int32) (d_traced : Int32) (d_latestFault : Int32) (f_kind : Nat → Int32) (f_wet : Nat → Int32) (f_wide : Int32) (f_rows : Int32) (f_cells : Int32) (f_sun : Int32) (f_all : Int32) (f_firstColumn : Int32) (f_lastColumn : Int32) (t_hours : Int32) (t_opened : Int32) (t_firstWrong : Int32) (g_kind : Nat → Int32) (g_wet : Nat → Int32) (g_wide : Int32) (g_rows : Int32) (g_cells : Int32) (g_sun : Int32) (g_all : Int32) (g_firstColumn : Int32) (g_lastColumn : Int32) (r_cells : Nat → Int32) (r_hours : Nat → Int32) (r_cracked : Nat → Int32) (r_count : Int32) (S_row : Nat → Nat → Int32) (S_lane : Nat → Int32) (S_length : Nat → Int32) (p1 : Int32) (n : Nat) (r : Int32) (g_kind' : Nat → Int32) (g_wet' : Nat → Int32) (g_wide' : Int32) (g_rows' : Int32) (g_cells' : Int32) (g_sun' : Int32) (g_all' : Int32) (g_firstColumn' : Int32) (g_lastColumn' : Int32) (hf : fX4_kinds n f_kind f_wet f_wide f_rows f_cells f_sun f_all f_firstColumn f_lastColumn g_kind g_wet g_wide g_rows g_cells g_sun g_all g_firstColumn g_lastColumn r_cells r_hours r_cracked r_count p1 = some (r, g_kind', g_wet', g_wide', g_rows', g_cells', g_sun', g_all', g_firstColumn', g_lastColumn')) : Ct l D (tysA cI cS) yX4_kinds cX4_kinds 5 (some .int) (Rm 3) [.ref a_d, .int p1] (W_D cI cS a_d a_f a_t a_r a_z a_f_kind a_f_wet a_g a_g_kind a_g_wet a_r_cells a_r_hours a_r_cracked a_s0 a_s0_row a_s1 a_s1_row a_s2 a_s2_row a_s3 a_s3_row d_hour d_traced d_latestFault f_kind f_wet f_wide f_rows f_cells f_sun f_all f_firstColumn f_lastColumn t_hours t_opened t_firstWrong g_kind g_wet g_wide g_rows g_cells g_sun g_all g_firstColumn g_lastColumn r_cells r_hours r_cracked r_count S_row S_lane S_length) (some (.int r)) (W_D cI cS a_d a_f a_t a_r a_z a_f_kind a_f_wet a_g a_g_kind a_g_wet a_r_cells a_r_hours a_r_cracked a_s0 a_s0_row a_s1 a_s1_row a_s2 a_s2_row a_s3 a_s3_row d_hour d_traced d_latestFault f_kind f_wet f_wide f_rows f_cells f_sun f_all f_firstColumn f_lastColumn t_hours t_opened t_firstWrong g_kind' g_wet' g_wide' g_rows' g_cells' g_sun' g_all' g_firstColumn' g_lastColumn' r_cells r_hours r_cracked r_count S_row S_lane S_length) := by
  refine Ct_of (by decide) (Nat.le_of_ble_eq_true rfl) ?_
  intro p e s m args below meth c A ls Cc hK hA hP hD hS hl
  have hl : lv_has ls 5 [(0, .ref a_d), (1, .int p1)] := hl
  obtain ⟨hx, hb, hr, hml, hown, hts, hlk, hnw⟩ := id Cc
  unfold fX4_kinds at hf
  refine lv_aload_n hx hb dX4_kinds_0 rfl (lv_at hl 0 rfl) ?_
  refine va_get (D := D) (ci := 4) (v := .ref a_f) (C := RX4) (T := TX4) (N := 7) hx hb hts inX4 hown hK hP 0 rfl rfl 0 (by decide) (hts _ tw_123) (fun _ h9 => h9) rfl dX4_kinds_1 ?_
  refine lv_iload_n hx hb dX4_kinds_4 rfl (lv_at hl 1 rfl) ?_
  obtain ⟨q5_1, hq1, hf⟩ := Option.bind_eq_some_iff.mp hf
  refine cV (ws' := (W_D cI cS a_d a_f a_t a_r a_z a_f_kind a_f_wet a_g a_g_kind a_g_wet a_r_cells a_r_hours a_r_cracked a_s0 a_s0_row a_s1 a_s1_row a_s2 a_s2_row a_s3 a_s3_row d_hour d_traced d_latestFault f_kind f_wet f_wide f_rows f_cells f_sun f_all f_firstColumn f_lastColumn t_hours t_opened t_firstWrong g_kind g_wet g_wide g_rows g_cells g_sun g_all g_firstColumn g_lastColumn r_cells r_hours r_cracked r_count S_row S_lane S_length)) (rest := []) (st1 := [.int q5_1]) Cc hK hA hP hD hS hl.1 (ctX0_isCell l D cI cS a_f a_f_kind a_f_wet f_kind f_wet f_wide f_rows f_cells f_sun f_all f_firstColumn f_lastColumn p1 n q5_1 hq1) ⟨tw_218, tw_215, tw_216, tw_217, tw_2⟩ mdX0_isCell ⟨rfl, rfl, Nat.le_of_ble_eq_true rfl, Nat.le_of_ble_eq_true rfl⟩ rfl dX4_kinds_5 rfl (Nat.le_of_ble_eq_true rfl) ⟨Nat.zero_le _, Nat.zero_le _⟩ rfl rfl rfl [1, 2, 3] [0, 4, 5, 6, 7, 8, 9, 10, 11, 12, 13, 14, 15, 16, 17, 18, 19, 20] [0, 18, 19, 20, 1, 2, 3, 4, 5, 6, 7, 8, 9, 10, 11, 12, 13, 14, 15, 16, 17] rfl rfl (by decide) rfl (fun H locs hP hD hS => ?_)
  refine lv_if_ne (tgt := 13) hx hb dX4_kinds_8 (by decide) (fun hc2 => ?_) (fun hc2 => ?_)
  · replace hf := (if_neg hc2).symm.trans hf
    refine lv_aload_n hx hb dX4_kinds_13 rfl (lv_at hl 0 rfl) ?_
    refine va_get (D := D) (ci := 4) (v := .ref a_t) (C := RX4) (T := TX4) (N := 7) hx hb hts inX4 hown hK hP 0 rfl rfl 1 (by decide) (hts _ tw_124) (fun _ h9 => h9) rfl dX4_kinds_14 ?_
    refine va_getN (D := D) (ci := 3) (v := .ref a_g) (C := RX3) (T := TX3) (N := 4) hx hb hts inX3 hown hK hP 4 rfl rfl 0 (by decide) (va_Nw.use rfl (hnw _ nn_9)) (fun _ h9 => h9) rfl dX4_kinds_17 ?_
    refine lv_astore_n (lv' := [(2, .ref a_g), (0, .ref a_d), (1, .int p1)]) hx hb dX4_kinds_20 rfl hl (by decide) rfl (fun ls hl => ?_)
    refine lv_aload_n hx hb dX4_kinds_21 rfl (lv_at hl 0 rfl) ?_
    refine lv_aload_n hx hb dX4_kinds_22 rfl (lv_at hl 1 rfl) ?_
    refine va_get (D := D) (ci := 4) (v := .ref a_f) (C := RX4) (T := TX4) (N := 7) hx hb hts inX4 hown hK hP 0 rfl rfl 0 (by decide) (hts _ tw_123) (fun _ h9 => h9) rfl dX4_kinds_23 ?_
    obtain ⟨q26_1, hq3, hf⟩ := Option.bind_eq_some_iff.mp hf
    refine cV (ws' := (W_D cI cS a_d a_f a_t a_r a_z a_f_kind a_f_wet a_g a_g_kind a_g_wet a_r_cells a_r_hours a_r_cracked a_s0 a_s0_row a_s1 a_s1_row a_s2 a_s2_row a_s3 a_s3_row d_hour d_traced d_latestFault f_kind f_wet f_wide f_rows f_cells f_sun f_all f_firstColumn f_lastColumn t_hours t_opened t_firstWrong q26_1.1 q26_1.2.1 q26_1.2.2.1 q26_1.2.2.2.1 q26_1.2.2.2.2.1 q26_1.2.2.2.2.2.1 q26_1.2.2.2.2.2.2.1 q26_1.2.2.2.2.2.2.2.1 q26_1.2.2.2.2.2.2.2.2 r_cells r_hours r_cracked r_count S_row S_lane S_length)) (rest := []) (st1 := []) Cc hK hA hP hD hS hl.1 (ctX0_becomeLike l D cI cS a_g a_g_kind a_g_wet a_f a_f_kind a_f_wet g_kind g_wet g_wide g_rows g_cells g_sun g_all g_firstColumn g_lastColumn f_kind f_wet f_wide f_rows f_cells f_sun f_all f_firstColumn f_lastColumn  n q26_1.1 q26_1.2.1 q26_1.2.2.1 q26_1.2.2.2.1 q26_1.2.2.2.2.1 q26_1.2.2.2.2.2.1 q26_1.2.2.2.2.2.2.1 q26_1.2.2.2.2.2.2.2.1 q26_1.2.2.2.2.2.2.2.2 hq3) ⟨tw_324, tw_393, tw_322, tw_323, tw_2⟩ mdX0_becomeLike ⟨rfl, rfl, Nat.le_of_ble_eq_true rfl, Nat.le_of_ble_eq_true rfl⟩ rfl dX4_kinds_26 rfl (Nat.le_of_ble_eq_true rfl) ⟨Nat.zero_le _, Nat.zero_le _⟩ rfl rfl rfl [5, 6, 7, 1, 2, 3] [0, 4, 8, 9, 10, 11, 12, 13, 14, 15, 16, 17, 18, 19, 20] [0, 18, 19, 20, 1, 15, 16, 17, 2, 3, 4, 5, 6, 7, 8, 9, 10, 11, 12, 13, 14] rfl rfl (by decide) rfl (fun H locs hP hD hS => ?_)
    refine lv_iconst (v := (0 : Int32)) hx hb dX4_kinds_29 (by decide) ?_
    refine lv_istore_n (lv' := [(3, .int (0 : Int32)), (2, .ref a_g), (0, .ref a_d), (1, .int p1)]) hx hb dX4_kinds_30 rfl hl (by decide) rfl (fun ls hl => ?_)
    refine lv_iconst (v := (0 : Int32)) hx hb dX4_kinds_31 (by decide) ?_
    refine lv_istore (lv' := [(4, .int (0 : Int32)), (3, .int (0 : Int32)), (2, .ref a_g), (0, .ref a_d), (1, .int p1)]) hx hb dX4_kinds_32 hl (by decide) rfl (fun ls hl => ?_)
    exact bX4_kinds_34 a_d a_f a_t a_r a_z a_f_kind a_f_wet a_g a_g_kind a_g_wet a_r_cells a_r_hours a_r_cracked a_s0 a_s0_row a_s1 a_s1_row a_s2 a_s2_row a_s3 a_s3_row d_hour d_traced d_latestFault t_hours t_opened t_firstWrong S_row S_lane S_length Cc hK hA n n _ _ _ _ _ _ _ _ _ _ _ _ _ _ _ _ _ _ _ _ _ _ _ _ _ _ _ _ _ _ _ _ _ _ _ hf _ _ _ hP hD hS (lv_sub hl [3, 4, 2, 1, 0] rfl)
  · replace hf := (if_pos hc2).symm.trans hf
    refine lv_iconst (v := (-1 : Int32)) hx hb dX4_kinds_11 (by decide) ?_
    replace hf := Option.some.inj hf
    obtain ⟨er0, er1⟩ := Prod.mk.inj hf
    obtain ⟨er2, er3⟩ := Prod.mk.inj er1
    obtain ⟨er4, er5⟩ := Prod.mk.inj er3
    obtain ⟨er6, er7⟩ := Prod.mk.inj er5
    obtain ⟨er8, er9⟩ := Prod.mk.inj er7
    obtain ⟨er10, er11⟩ := Prod.mk.inj er9
    obtain ⟨er12, er13⟩ := Prod.mk.inj er11
    obtain ⟨er14, er15⟩ := Prod.mk.inj er13
    obtain ⟨er16, er17⟩ := Prod.mk.inj er15
    clear hf er1 er3 er5 er7 er9 er11 er13 er15
    subst er0
    subst er2
    subst er4
    subst er6
    subst er8
    subst er10
    subst er12
    subst er14
    subst er16
    subst er17
    exact rt_i Cc hK hP hD hS dX4_kinds_12
-- X4_suns
def fX4_suns_33 (n : Nat) : Nat → (Nat → Int32) → (Nat → Int32) → Int32 → Int32 → Int32 → Int32 → Int32 → Int32 → Int32 → (Nat → Int32) → (Nat → Int32) → Int32 → Int32 → Int32 → Int32 → Int32 → Int32 → Int32 → (Nat → Int32) → (Nat → Int32) → (Nat → Int32) → Int32 → Int32 → Int32 → Option (Int32 × (Nat → Int32) × (Nat → Int32) × Int32 × Int32 × Int32 × Int32 × Int32 × Int32 × Int32)
  | 0, _, _, _, _, _, _, _, _, _, _, _, _, _, _, _, _, _, _, _, _, _, _, _, _ => none
  | k + 1, f_kind, f_wet, f_wide, f_rows, f_cells, f_sun, f_all, f_firstColumn, f_lastColumn, g_kind, g_wet, g_wide, g_rows, g_cells, g_sun, g_all, g_firstColumn, g_lastColumn, r_cells, r_hours, r_cracked, r_count, x2, x3 => if (9 : Int32) < x3 then some (x2, g_kind, g_wet, g_wide, g_rows, g_cells, g_sun, g_all, g_firstColumn, g_lastColumn) else (fX1_areSoIn n r_cells r_hours r_cracked r_count g_kind g_wet g_cells x3).bind fun q49_1 => if q49_1 = 0 then fX4_suns_33 n k f_kind f_wet f_wide f_rows f_cells f_sun f_all f_firstColumn f_lastColumn g_kind g_wet g_wide g_rows g_cells x3 g_all g_firstColumn g_lastColumn r_cells r_hours r_cracked r_count x2 (x3 + 1) else fX4_suns_33 n k f_kind f_wet f_wide f_rows f_cells f_sun f_all f_firstColumn f_lastColumn g_kind g_wet g_wide g_rows g_cells x3 g_all g_firstColumn g_lastColumn r_cells r_hours r_cracked r_count (x2 ||| ((1 : Int32) <<< (x3 &&& 31))) (x3 + 1)
def fX4_suns (n : Nat) (f_kind : Nat → Int32) (f_wet : Nat → Int32) (f_wide : Int32) (f_rows : Int32) (f_cells : Int32) (f_sun : Int32) (f_all : Int32) (f_firstColumn : Int32) (f_lastColumn : Int32) (g_kind : Nat → Int32) (g_wet : Nat → Int32) (g_wide : Int32) (g_rows : Int32) (g_cells : Int32) (g_sun : Int32) (g_all : Int32) (g_firstColumn : Int32) (g_lastColumn : Int32) (r_cells : Nat → Int32) (r_hours : Nat → Int32) (r_cracked : Nat → Int32) (r_count : Int32)  : Option (Int32 × (Nat → Int32) × (Nat → Int32) × Int32 × Int32 × Int32 × Int32 × Int32 × Int32 × Int32) := (fX0_isThere n f_cells).bind fun q4_1 => if q4_1 = 0 then some ((-3 : Int32), g_kind, g_wet, g_wide, g_rows, g_cells, g_sun, g_all, g_firstColumn, g_lastColumn) else (fX0_becomeLike n g_kind g_wet g_wide g_rows g_cells g_sun g_all g_firstColumn g_lastColumn f_kind f_wet f_wide f_rows f_cells f_sun f_all f_firstColumn f_lastColumn).bind fun q26_1 => fX4_suns_33 n n f_kind f_wet f_wide f_rows f_cells f_sun f_all f_firstColumn f_lastColumn q26_1.1 q26_1.2.1 q26_1.2.2.1 q26_1.2.2.2.1 q26_1.2.2.2.2.1 q26_1.2.2.2.2.2.1 q26_1.2.2.2.2.2.2.1 q26_1.2.2.2.2.2.2.2.1 q26_1.2.2.2.2.2.2.2.2 r_cells r_hours r_cracked r_count (0 : Int32) (0 : Int32)
theorem mdX4_suns : yX4_suns.cls = RX4 ∧ yX4_suns.cls ≠ "java/lang/invoke/MethodHandle" ∧ yX4_suns.cls ≠ "java/lang/invoke/VarHandle" ∧ (parseMethodDescriptor yX4_suns.desc).map (fun d => d.parameters.length) = some 0 := by decide +kernel
set_option maxHeartbeats 4000000 in
set_option maxRecDepth 100000 in
theorem bX4_suns_33 {p : Program} {l : Launch} {e : Env} {s : State} {m : MethodId} {args : Array Value} {below : List Frame} {meth : Method} {c : Code} {A : Nat → Prop} {D : va_G} {cI cS : ClassId} (a_d a_f a_t a_r a_z a_f_kind a_f_wet a_g a_g_kind a_g_wet a_r_cells a_r_hours a_r_cracked a_s0 a_s0_row a_s1 a_s1_row a_s2 a_s2_row a_s3 a_s3_row : Nat) (d_hour : Int32) (d_traced : Int32) (d_latestFault : Int32) (t_hours : Int32) (t_opened : Int32) (t_firstWrong : Int32) (S_row : Nat → Nat → Int32) (S_lane : Nat → Int32) (S_length : Nat → Int32) (Cc : Cx p s m args meth c RX4 cX4_suns 4 (some .int)) (hK : va_K D classes (tysA cI cS) s) (hA : ∀ q, s.heap.size ≤ q → A q) (n : Nat) : ∀ (k : Nat) (f_kind : Nat → Int32) (f_wet : Nat → Int32) (f_wide : Int32) (f_rows : Int32) (f_cells : Int32) (f_sun : Int32) (f_all : Int32) (f_firstColumn : Int32) (f_lastColumn : Int32) (g_kind : Nat → Int32) (g_wet : Nat → Int32) (g_wide : Int32) (g_rows : Int32) (g_cells : Int32) (g_sun : Int32) (g_all : Int32) (g_firstColumn : Int32) (g_lastColumn : Int32) (r_cells : Nat → Int32) (r_hours : Nat → Int32) (r_cracked : Nat → Int32) (r_count : Int32) (x2 : Int32) (x3 : Int32) (r : Int32) (g_kind' : Nat → Int32) (g_wet' : Nat → Int32) (g_wide' : Int32) (g_rows' : Int32) (g_cells' : Int32) (g_sun' : Int32) (g_all' : Int32) (g_firstColumn' : Int32) (g_lastColumn' : Int32), fX4_suns_33 n k f_kind f_wet f_wide f_rows f_cells f_sun f_all f_firstColumn f_lastColumn g_kind g_wet g_wide g_rows g_cells g_sun g_all g_firstColumn g_lastColumn r_cells r_hours r_cracked r_count x2 x3 = some (r, g_kind', g_wet', g_wide', g_rows', g_cells', g_sun', g_all', g_firstColumn', g_lastColumn') → ∀ (H : Heap) (locs : List Loc) (ls : Array Slot), va_P D classes (W_D cI cS a_d a_f a_t a_r a_z a_f_kind a_f_wet a_g a_g_kind a_g_wet a_r_cells a_r_hours a_r_cracked a_s0 a_s0_row a_s1 a_s1_row a_s2 a_s2_row a_s3 a_s3_row d_hour d_traced d_latestFault f_kind f_wet f_wide f_rows f_cells f_sun f_all f_firstColumn f_lastColumn t_hours t_opened t_firstWrong g_kind g_wet g_wide g_rows g_cells g_sun g_all g_firstColumn g_lastColumn r_cells r_hours r_cracked r_count S_row S_lane S_length) H → va_D A (W_D cI cS a_d a_f a_t a_r a_z a_f_kind a_f_wet a_g a_g_kind a_g_wet a_r_cells a_r_hours a_r_cracked a_s0 a_s0_row a_s1 a_s1_row a_s2 a_s2_row a_s3 a_s3_row d_hour d_traced d_latestFault f_kind f_wet f_wide f_rows f_cells f_sun f_all f_firstColumn f_lastColumn t_hours t_opened t_firstWrong g_kind g_wet g_wide g_rows g_cells g_sun g_all g_firstColumn g_lastColumn r_cells r_hours r_cracked r_count S_row S_lane S_length) → va_S A s.heap H locs → lv_has ls 4 [(0, .ref a_d), (1, .ref a_g), (2, .int x2), (3, .int x3)] → W p l e (Rm 3) s m args below meth c H locs 0 0 (MQ below (QW D (tysA cI cS) (some (.int r)) (W_D cI cS a_d a_f a_t a_r a_z a_f_kind a_f_wet a_g a_g_kind a_g_wet a_r_cells a_r_hours a_r_cracked a_s0 a_s0_row a_s1 a_s1_row a_s2 a_s2_row a_s3 a_s3_row d_hour d_traced d_latestFault f_kind f_wet f_wide f_rows f_cells f_sun f_all f_firstColumn f_lastColumn t_hours t_opened t_firstWrong g_kind' g_wet' g_wide' g_rows' g_cells' g_sun' g_all' g_firstColumn' g_lastColumn' r_cells r_hours r_cracked r_count S_row S_lane S_length) A) args s 0 0 A) (F0 m 33 ls []) := by
  obtain ⟨hx, hb, hr, hml, hown, hts, hlk, hnw⟩ := id Cc
  intro k
  induction k with
  | zero =>
    intro f_kind f_wet f_wide f_rows f_cells f_sun f_all f_firstColumn f_lastColumn g_kind g_wet g_wide g_rows g_cells g_sun g_all g_firstColumn g_lastColumn r_cells r_hours r_cracked r_count x2 x3 r g_kind' g_wet' g_wide' g_rows' g_cells' g_sun' g_all' g_firstColumn' g_lastColumn' hf
    rw [fX4_suns_33] at hf
    cases hf
  | succ k ih =>
    intro f_kind f_wet f_wide f_rows f_cells f_sun f_all f_firstColumn f_lastColumn g_kind g_wet g_wide g_rows g_cells g_sun g_all g_firstColumn g_lastColumn r_cells r_hours r_cracked r_count x2 x3 r g_kind' g_wet' g_wide' g_rows' g_cells' g_sun' g_all' g_firstColumn' g_lastColumn' hf H locs ls hP hD hS hl
    rw [fX4_suns_33] at hf
    refine lv_iload_n hx hb dX4_suns_33 rfl (lv_at hl 3 rfl) ?_
    refine lv_bipush (v := (9 : Int32)) hx hb dX4_suns_34 (by decide) ?_
    refine lv_icmp_gt (tgt := 67) hx hb dX4_suns_36 (by decide) (fun hc4 => ?_) (fun hc4 => ?_)
    · replace hf := (if_pos hc4).symm.trans hf
      refine lv_iload_n hx hb dX4_suns_67 rfl (lv_at hl 2 rfl) ?_
      replace hf := Option.some.inj hf
      obtain ⟨er0, er1⟩ := Prod.mk.inj hf
      obtain ⟨er2, er3⟩ := Prod.mk.inj er1
      obtain ⟨er4, er5⟩ := Prod.mk.inj er3
      obtain ⟨er6, er7⟩ := Prod.mk.inj er5
      obtain ⟨er8, er9⟩ := Prod.mk.inj er7
      obtain ⟨er10, er11⟩ := Prod.mk.inj er9
      obtain ⟨er12, er13⟩ := Prod.mk.inj er11
      obtain ⟨er14, er15⟩ := Prod.mk.inj er13
      obtain ⟨er16, er17⟩ := Prod.mk.inj er15
      clear hf er1 er3 er5 er7 er9 er11 er13 er15
      subst er0
      subst er2
      subst er4
      subst er6
      subst er8
      subst er10
      subst er12
      subst er14
      subst er16
      subst er17
      exact rt_i Cc hK hP hD hS dX4_suns_68
    · replace hf := (if_neg hc4).symm.trans hf
      refine lv_aload_n hx hb dX4_suns_39 rfl (lv_at hl 1 rfl) ?_
      refine lv_iload_n hx hb dX4_suns_40 rfl (lv_at hl 3 rfl) ?_
      refine va_putN (D := D) (ci := 0) (v := .int x3) (ty := .int) (C := RX0) (T := TX0) (N := 9) hx hb hts inX0 tyX0 tyX0_ok nmX0 hown hK hP hD hS 5 rfl rfl 5 (by decide) (va_Nw.use rfl (hnw _ nn_7)) (fun _ h9 => h9) rfl (tyX0_ok 5 (by decide)) rfl rfl (Nat.le_of_ble_eq_true rfl) dX4_suns_41 (fun H locs hP hD hS => ?_)
      have hP : va_P D classes (W_D cI cS a_d a_f a_t a_r a_z a_f_kind a_f_wet a_g a_g_kind a_g_wet a_r_cells a_r_hours a_r_cracked a_s0 a_s0_row a_s1 a_s1_row a_s2 a_s2_row a_s3 a_s3_row d_hour d_traced d_latestFault f_kind f_wet f_wide f_rows f_cells f_sun f_all f_firstColumn f_lastColumn t_hours t_opened t_firstWrong g_kind g_wet g_wide g_rows g_cells x3 g_all g_firstColumn g_lastColumn r_cells r_hours r_cracked r_count S_row S_lane S_length) H := hP
      have hD : va_D A (W_D cI cS a_d a_f a_t a_r a_z a_f_kind a_f_wet a_g a_g_kind a_g_wet a_r_cells a_r_hours a_r_cracked a_s0 a_s0_row a_s1 a_s1_row a_s2 a_s2_row a_s3 a_s3_row d_hour d_traced d_latestFault f_kind f_wet f_wide f_rows f_cells f_sun f_all f_firstColumn f_lastColumn t_hours t_opened t_firstWrong g_kind g_wet g_wide g_rows g_cells x3 g_all g_firstColumn g_lastColumn r_cells r_hours r_cracked r_count S_row S_lane S_length) := hD
      refine lv_aload_n hx hb dX4_suns_44 rfl (lv_at hl 0 rfl) ?_
      refine va_get (D := D) (ci := 4) (v := .ref a_r) (C := RX4) (T := TX4) (N := 7) hx hb hts inX4 hown hK hP 0 rfl rfl 2 (by decide) (hts _ tw_125) (fun _ h9 => h9) rfl dX4_suns_45 ?_
      refine lv_aload_n hx hb dX4_suns_48 rfl (lv_at hl 1 rfl) ?_
      obtain ⟨q49_1, hq5, hf⟩ := Option.bind_eq_some_iff.mp hf
      refine cV (ws' := (W_D cI cS a_d a_f a_t a_r a_z a_f_kind a_f_wet a_g a_g_kind a_g_wet a_r_cells a_r_hours a_r_cracked a_s0 a_s0_row a_s1 a_s1_row a_s2 a_s2_row a_s3 a_s3_row d_hour d_traced d_latestFault f_kind f_wet f_wide f_rows f_cells f_sun f_all f_firstColumn f_lastColumn t_hours t_opened t_firstWrong g_kind g_wet g_wide g_rows g_cells x3 g_all g_firstColumn g_lastColumn r_cells r_hours r_cracked r_count S_row S_lane S_length)) (rest := []) (st1 := [.int q49_1]) Cc hK hA hP hD hS hl.1 (ctX1_areSoIn l D cI cS a_r a_r_cells a_r_hours a_r_cracked a_g a_g_kind a_g_wet r_cells r_hours r_cracked r_count g_kind g_wet g_wide g_rows g_cells x3 g_all g_firstColumn g_lastColumn  n q49_1 hq5) ⟨tw_397, tw_394, tw_395, tw_396, tw_4⟩ mdX1_areSoIn ⟨rfl, rfl, Nat.le_of_ble_eq_true rfl, Nat.le_of_ble_eq_true rfl⟩ rfl dX4_suns_49 rfl (Nat.le_of_ble_eq_true rfl) ⟨Nat.zero_le _, Nat.zero_le _⟩ rfl rfl rfl [8, 9, 10, 11, 5, 6, 7] [0, 1, 2, 3, 4, 12, 13, 14, 15, 16, 17, 18, 19, 20] [0, 1, 2, 3, 4, 18, 19, 20, 14, 15, 16, 17, 5, 6, 7, 8, 9, 10, 11, 12, 13] rfl rfl (by decide) rfl (fun H locs hP hD hS => ?_)
      refine lv_if_eq (tgt := 61) hx hb dX4_suns_52 (by decide) (fun hc6 => ?_) (fun hc6 => ?_)
      · replace hf := (if_pos hc6).symm.trans hf
        refine lv_iinc (v := (x3 + 1)) (lv' := [(3, .int (x3 + 1)), (0, .ref a_d), (1, .ref a_g), (2, .int x2)]) hx hb dX4_suns_61 hl (k := 3) rfl rfl (by decide) rfl (fun ls hl => ?_)
        refine lv_goto (tgt := 33) hx hb dX4_suns_64 (by decide) ?_
        exact ih _ _ _ _ _ _ _ _ _ _ _ _ _ _ _ _ _ _ _ _ _ _ _ _ _ _ _ _ _ _ _ _ _ _ hf _ _ _ hP hD hS (lv_sub hl [1, 2, 3, 0] rfl)
      · replace hf := (if_neg hc6).symm.trans hf
        refine lv_iload_n hx hb dX4_suns_55 rfl (lv_at hl 2 rfl) ?_
        refine lv_iconst (v := (1 : Int32)) hx hb dX4_suns_56 (by decide) ?_
        refine lv_iload_n hx hb dX4_suns_57 rfl (lv_at hl 3 rfl) ?_
        refine lv_ishl hx hb dX4_suns_58 ?_
        refine lv_ior hx hb dX4_suns_59 ?_
        refine lv_istore_n (lv' := [(2, .int (x2 ||| ((1 : Int32) <<< (x3 &&& 31)))), (0, .ref a_d), (1, .ref a_g), (3, .int x3)]) hx hb dX4_suns_60 rfl hl (by decide) rfl (fun ls hl => ?_)
        refine lv_iinc (v := (x3 + 1)) (lv' := [(3, .int (x3 + 1)), (2, .int (x2 ||| ((1 : Int32) <<< (x3 &&& 31)))), (0, .ref a_d), (1, .ref a_g)]) hx hb dX4_suns_61 hl (k := 3) rfl rfl (by decide) rfl (fun ls hl => ?_)
        refine lv_goto (tgt := 33) hx hb dX4_suns_64 (by decide) ?_
        exact ih _ _ _ _ _ _ _ _ _ _ _ _ _ _ _ _ _ _ _ _ _ _ _ _ _ _ _ _ _ _ _ _ _ _ hf _ _ _ hP hD hS (lv_sub hl [2, 3, 1, 0] rfl)
set_option maxHeartbeats 4000000 in
set_option maxRecDepth 100000 in
theorem ctX4_suns (l : Launch) (D : va_G) (cI cS : ClassId) (a_d a_f a_t a_r a_z a_f_kind a_f_wet a_g a_g_kind a_g_wet a_r_cells a_r_hours a_r_cracked a_s0 a_s0_row a_s1 a_s1_row a_s2 a_s2_row a_s3 a_s3_row : Nat) (d_hour : Int32) (d_traced : Int32) (d_latestFault : Int32) (f_kind : Nat → Int32) (f_wet : Nat → Int32) (f_wide : Int32) (f_rows : Int32) (f_cells : Int32) (f_sun : Int32) (f_all : Int32) (f_firstColumn : Int32) (f_lastColumn : Int32) (t_hours : Int32) (t_opened : Int32) (t_firstWrong : Int32) (g_kind : Nat → Int32) (g_wet : Nat → Int32) (g_wide : Int32) (g_rows : Int32) (g_cells : Int32) (g_sun : Int32) (g_all : Int32) (g_firstColumn : Int32) (g_lastColumn : Int32) (r_cells : Nat → Int32) (r_hours : Nat → Int32) (r_cracked : Nat → Int32) (r_count : Int32) (S_row : Nat → Nat → Int32) (S_lane : Nat → Int32) (S_length : Nat → Int32)  (n : Nat) (r : Int32) (g_kind' : Nat → Int32) (g_wet' : Nat → Int32) (g_wide' : Int32) (g_rows' : Int32) (g_cells' : Int32) (g_sun' : Int32) (g_all' : Int32) (g_firstColumn' : Int32) (g_lastColumn' : Int32) (hf : fX4_suns n f_kind f_wet f_wide f_rows f_cells f_sun f_all f_firstColumn f_lastColumn g_kind g_wet g_wide g_rows g_cells g_sun g_all g_firstColumn g_lastColumn r_cells r_hours r_cracked r_count  = some (r, g_kind', g_wet', g_wide', g_rows', g_cells', g_sun', g_all', g_firstColumn', g_lastColumn')) : Ct l D (tysA cI cS) yX4_suns cX4_suns 4 (some .int) (Rm 3) [.ref a_d] (W_D cI cS a_d a_f a_t a_r a_z a_f_kind a_f_wet a_g a_g_kind a_g_wet a_r_cells a_r_hours a_r_cracked a_s0 a_s0_row a_s1 a_s1_row a_s2 a_s2_row a_s3 a_s3_row d_hour d_traced d_latestFault f_kind f_wet f_wide f_rows f_cells f_sun f_all f_firstColumn f_lastColumn t_hours t_opened t_firstWrong g_kind g_wet g_wide g_rows g_cells g_sun g_all g_firstColumn g_lastColumn r_cells r_hours r_cracked r_count S_row S_lane S_length) (some (.int r)) (W_D cI cS a_d a_f a_t a_r a_z a_f_kind a_f_wet a_g a_g_kind a_g_wet a_r_cells a_r_hours a_r_cracked a_s0 a_s0_row a_s1 a_s1_row a_s2 a_s2_row a_s3 a_s3_row d_hour d_traced d_latestFault f_kind f_wet f_wide f_rows f_cells f_sun f_all f_firstColumn f_lastColumn t_hours t_opened t_firstWrong g_kind' g_wet' g_wide' g_rows' g_cells' g_sun' g_all' g_firstColumn' g_lastColumn' r_cells r_hours r_cracked r_count S_row S_lane S_length) := by
  refine Ct_of (by decide) (Nat.le_of_ble_eq_true rfl) ?_
  intro p e s m args below meth c A ls Cc hK hA hP hD hS hl
  have hl : lv_has ls 4 [(0, .ref a_d)] := hl
  obtain ⟨hx, hb, hr, hml, hown, hts, hlk, hnw⟩ := id Cc
  unfold fX4_suns at hf
  refine lv_aload_n hx hb dX4_suns_0 rfl (lv_at hl 0 rfl) ?_
  refine va_get (D := D) (ci := 4) (v := .ref a_f) (C := RX4) (T := TX4) (N := 7) hx hb hts inX4 hown hK hP 0 rfl rfl 0 (by decide) (hts _ tw_123) (fun _ h9 => h9) rfl dX4_suns_1 ?_
  obtain ⟨q4_1, hq1, hf⟩ := Option.bind_eq_some_iff.mp hf
  refine cV (ws' := (W_D cI cS a_d a_f a_t a_r a_z a_f_kind a_f_wet a_g a_g_kind a_g_wet a_r_cells a_r_hours a_r_cracked a_s0 a_s0_row a_s1 a_s1_row a_s2 a_s2_row a_s3 a_s3_row d_hour d_traced d_latestFault f_kind f_wet f_wide f_rows f_cells f_sun f_all f_firstColumn f_lastColumn t_hours t_opened t_firstWrong g_kind g_wet g_wide g_rows g_cells g_sun g_all g_firstColumn g_lastColumn r_cells r_hours r_cracked r_count S_row S_lane S_length)) (rest := []) (st1 := [.int q4_1]) Cc hK hA hP hD hS hl.1 (ctX0_isThere l D cI cS a_f a_f_kind a_f_wet f_kind f_wet f_wide f_rows f_cells f_sun f_all f_firstColumn f_lastColumn  n q4_1 hq1) ⟨tw_252, tw_249, tw_250, tw_251, tw_2⟩ mdX0_isThere ⟨rfl, rfl, Nat.le_of_ble_eq_true rfl, Nat.le_of_ble_eq_true rfl⟩ rfl dX4_suns_4 rfl (Nat.le_of_ble_eq_true rfl) ⟨Nat.zero_le _, Nat.zero_le _⟩ rfl rfl rfl [1, 2, 3] [0, 4, 5, 6, 7, 8, 9, 10, 11, 12, 13, 14, 15, 16, 17, 18, 19, 20] [0, 18, 19, 20, 1, 2, 3, 4, 5, 6, 7, 8, 9, 10, 11, 12, 13, 14, 15, 16, 17] rfl rfl (by decide) rfl (fun H locs hP hD hS => ?_)
  refine lv_if_ne (tgt := 13) hx hb dX4_suns_7 (by decide) (fun hc2 => ?_) (fun hc2 => ?_)
  · replace hf := (if_neg hc2).symm.trans hf
    refine lv_aload_n hx hb dX4_suns_13 rfl (lv_at hl 0 rfl) ?_
    refine va_get (D := D) (ci := 4) (v := .ref a_t) (C := RX4) (T := TX4) (N := 7) hx hb hts inX4 hown hK hP 0 rfl rfl 1 (by decide) (hts _ tw_124) (fun _ h9 => h9) rfl dX4_suns_14 ?_
    refine va_getN (D := D) (ci := 3) (v := .ref a_g) (C := RX3) (T := TX3) (N := 4) hx hb hts inX3 hown hK hP 4 rfl rfl 0 (by decide) (va_Nw.use rfl (hnw _ nn_9)) (fun _ h9 => h9) rfl dX4_suns_17 ?_
    refine lv_astore_n (lv' := [(1, .ref a_g), (0, .ref a_d)]) hx hb dX4_suns_20 rfl hl (by decide) rfl (fun ls hl => ?_)
    refine lv_aload_n hx hb dX4_suns_21 rfl (lv_at hl 0 rfl) ?_
    refine lv_aload_n hx hb dX4_suns_22 rfl (lv_at hl 1 rfl) ?_
    refine va_get (D := D) (ci := 4) (v := .ref a_f) (C := RX4) (T := TX4) (N := 7) hx hb hts inX4 hown hK hP 0 rfl rfl 0 (by decide) (hts _ tw_123) (fun _ h9 => h9) rfl dX4_suns_23 ?_
    obtain ⟨q26_1, hq3, hf⟩ := Option.bind_eq_some_iff.mp hf
    refine cV (ws' := (W_D cI cS a_d a_f a_t a_r a_z a_f_kind a_f_wet a_g a_g_kind a_g_wet a_r_cells a_r_hours a_r_cracked a_s0 a_s0_row a_s1 a_s1_row a_s2 a_s2_row a_s3 a_s3_row d_hour d_traced d_latestFault f_kind f_wet f_wide f_rows f_cells f_sun f_all f_firstColumn f_lastColumn t_hours t_opened t_firstWrong q26_1.1 q26_1.2.1 q26_1.2.2.1 q26_1.2.2.2.1 q26_1.2.2.2.2.1 q26_1.2.2.2.2.2.1 q26_1.2.2.2.2.2.2.1 q26_1.2.2.2.2.2.2.2.1 q26_1.2.2.2.2.2.2.2.2 r_cells r_hours r_cracked r_count S_row S_lane S_length)) (rest := []) (st1 := []) Cc hK hA hP hD hS hl.1 (ctX0_becomeLike l D cI cS a_g a_g_kind a_g_wet a_f a_f_kind a_f_wet g_kind g_wet g_wide g_rows g_cells g_sun g_all g_firstColumn g_lastColumn f_kind f_wet f_wide f_rows f_cells f_sun f_all f_firstColumn f_lastColumn  n q26_1.1 q26_1.2.1 q26_1.2.2.1 q26_1.2.2.2.1 q26_1.2.2.2.2.1 q26_1.2.2.2.2.2.1 q26_1.2.2.2.2.2.2.1 q26_1.2.2.2.2.2.2.2.1 q26_1.2.2.2.2.2.2.2.2 hq3) ⟨tw_324, tw_393, tw_322, tw_323, tw_2⟩ mdX0_becomeLike ⟨rfl, rfl, Nat.le_of_ble_eq_true rfl, Nat.le_of_ble_eq_true rfl⟩ rfl dX4_suns_26 rfl (Nat.le_of_ble_eq_true rfl) ⟨Nat.zero_le _, Nat.zero_le _⟩ rfl rfl rfl [5, 6, 7, 1, 2, 3] [0, 4, 8, 9, 10, 11, 12, 13, 14, 15, 16, 17, 18, 19, 20] [0, 18, 19, 20, 1, 15, 16, 17, 2, 3, 4, 5, 6, 7, 8, 9, 10, 11, 12, 13, 14] rfl rfl (by decide) rfl (fun H locs hP hD hS => ?_)
    refine lv_iconst (v := (0 : Int32)) hx hb dX4_suns_29 (by decide) ?_
    refine lv_istore_n (lv' := [(2, .int (0 : Int32)), (1, .ref a_g), (0, .ref a_d)]) hx hb dX4_suns_30 rfl hl (by decide) rfl (fun ls hl => ?_)
    refine lv_iconst (v := (0 : Int32)) hx hb dX4_suns_31 (by decide) ?_
    refine lv_istore_n (lv' := [(3, .int (0 : Int32)), (2, .int (0 : Int32)), (1, .ref a_g), (0, .ref a_d)]) hx hb dX4_suns_32 rfl hl (by decide) rfl (fun ls hl => ?_)
    exact bX4_suns_33 a_d a_f a_t a_r a_z a_f_kind a_f_wet a_g a_g_kind a_g_wet a_r_cells a_r_hours a_r_cracked a_s0 a_s0_row a_s1 a_s1_row a_s2 a_s2_row a_s3 a_s3_row d_hour d_traced d_latestFault t_hours t_opened t_firstWrong S_row S_lane S_length Cc hK hA n n _ _ _ _ _ _ _ _ _ _ _ _ _ _ _ _ _ _ _ _ _ _ _ _ _ _ _ _ _ _ _ _ _ _ hf _ _ _ hP hD hS (lv_sub hl [3, 2, 1, 0] rfl)
  · replace hf := (if_pos hc2).symm.trans hf
    refine lv_bipush (v := (-3 : Int32)) hx hb dX4_suns_10 (by decide) ?_
    replace hf := Option.some.inj hf
    obtain ⟨er0, er1⟩ := Prod.mk.inj hf
    obtain ⟨er2, er3⟩ := Prod.mk.inj er1
    obtain ⟨er4, er5⟩ := Prod.mk.inj er3
    obtain ⟨er6, er7⟩ := Prod.mk.inj er5
    obtain ⟨er8, er9⟩ := Prod.mk.inj er7
    obtain ⟨er10, er11⟩ := Prod.mk.inj er9
    obtain ⟨er12, er13⟩ := Prod.mk.inj er11
    obtain ⟨er14, er15⟩ := Prod.mk.inj er13
    obtain ⟨er16, er17⟩ := Prod.mk.inj er15
    clear hf er1 er3 er5 er7 er9 er11 er13 er15
    subst er0
    subst er2
    subst er4
    subst er6
    subst er8
    subst er10
    subst er12
    subst er14
    subst er16
    subst er17
    exact rt_i Cc hK hP hD hS dX4_suns_12
-- X4_odds
def fX4_odds_79 (n : Nat) (f_wet : Nat → Int32) (f_wide : Int32) (f_cells : Int32) (f_all : Int32) (f_firstColumn : Int32) (f_lastColumn : Int32) (x1 : Int32) (x2 : Int32) (x3 : Int32) : Option (Int64) := if x1 = 0 then some ((x2).toInt64) else some ((x3).toInt64)
def fX4_odds_47 (n : Nat) : Nat → (Nat → Int32) → Int32 → Int32 → Int32 → Int32 → Int32 → Int32 → Int32 → Int32 → Int32 → Option (Int64)
  | 0, _, _, _, _, _, _, _, _, _, _ => none
  | k + 1, f_wet, f_wide, f_cells, f_all, f_firstColumn, f_lastColumn, x1, x2, x3, x4 => if (12 : Int32) ≤ x4 then fX4_odds_79 n f_wet f_wide f_cells f_all f_firstColumn f_lastColumn x1 x2 x3 else if x3 ≤ (1 : Int32) then fX4_odds_79 n f_wet f_wide f_cells f_all f_firstColumn f_lastColumn x1 x2 x3 else if (x2 &&& (1 : Int32)) = 0 then fX4_odds_47 n k f_wet f_wide f_cells f_all f_firstColumn f_lastColumn x1 (x2 >>> ((1 : Int32) &&& 31)) (x3 >>> ((1 : Int32) &&& 31)) (x4 + 1) else fX4_odds_79 n f_wet f_wide f_cells f_all f_firstColumn f_lastColumn x1 x2 x3
def fX4_odds (n : Nat) (f_wet : Nat → Int32) (f_wide : Int32) (f_cells : Int32) (f_all : Int32) (f_firstColumn : Int32) (f_lastColumn : Int32) (p1 : Int32) : Option (Int64) := (fX4_within n p1 (0 : Int32) (1 : Int32)).bind fun q3_1 => if q3_1 = 0 then some ((-9223372036854775808 : Int64)) else (fX0_isThere n f_cells).bind fun q13_1 => if q13_1 = 0 then some ((-9223372036854775808 : Int64)) else (fX0_openWays n f_wet f_wide f_cells f_all f_firstColumn f_lastColumn).bind fun q27_1 => (fX0_wetSet n f_wet f_cells f_all).bind fun q36_2 => (fJ6_bitCount_0f7a4 n q36_2).bind fun q39_3 => fX4_odds_47 n n f_wet f_wide f_cells f_all f_firstColumn f_lastColumn p1 q27_1 ((1 : Int32) <<< (q39_3 &&& 31)) (0 : Int32)
theorem mdX4_odds : yX4_odds.cls = RX4 ∧ yX4_odds.cls ≠ "java/lang/invoke/MethodHandle" ∧ yX4_odds.cls ≠ "java/lang/invoke/VarHandle" ∧ (parseMethodDescriptor yX4_odds.desc).map (fun d => d.parameters.length) = some 1 := by decide +kernel
set_option maxHeartbeats 4000000 in
set_option maxRecDepth 100000 in
theorem bX4_odds_79 {p : Program} {l : Launch} {e : Env} {s : State} {m : MethodId} {args : Array Value} {below : List Frame} {meth : Method} {c : Code} {A : Nat → Prop} {D : va_G} {cI cS : ClassId} (a_d a_f a_t a_r a_z a_f_kind a_f_wet a_g a_g_kind a_g_wet a_r_cells a_r_hours a_r_cracked a_s0 a_s0_row a_s1 a_s1_row a_s2 a_s2_row a_s3 a_s3_row : Nat) (d_hour : Int32) (d_traced : Int32) (d_latestFault : Int32) (f_kind : Nat → Int32) (f_rows : Int32) (f_sun : Int32) (t_hours : Int32) (t_opened : Int32) (t_firstWrong : Int32) (g_kind : Nat → Int32) (g_wet : Nat → Int32) (g_wide : Int32) (g_rows : Int32) (g_cells : Int32) (g_sun : Int32) (g_all : Int32) (g_firstColumn : Int32) (g_lastColumn : Int32) (r_cells : Nat → Int32) (r_hours : Nat → Int32) (r_cracked : Nat → Int32) (r_count : Int32) (S_row : Nat → Nat → Int32) (S_lane : Nat → Int32) (S_length : Nat → Int32) (Cc : Cx p s m args meth c RX4 cX4_odds 5 (some .long)) (hK : va_K D classes (tysA cI cS) s) (hA : ∀ q, s.heap.size ≤ q → A q) (n : Nat) : ∀ (f_wet : Nat → Int32) (f_wide : Int32) (f_cells : Int32) (f_all : Int32) (f_firstColumn : Int32) (f_lastColumn : Int32) (x1 : Int32) (x2 : Int32) (x3 : Int32) (r : Int64), fX4_odds_79 n f_wet f_wide f_cells f_all f_firstColumn f_lastColumn x1 x2 x3 = some (r) → ∀ (H : Heap) (locs : List Loc) (ls : Array Slot), va_P D classes (W_D cI cS a_d a_f a_t a_r a_z a_f_kind a_f_wet a_g a_g_kind a_g_wet a_r_cells a_r_hours a_r_cracked a_s0 a_s0_row a_s1 a_s1_row a_s2 a_s2_row a_s3 a_s3_row d_hour d_traced d_latestFault f_kind f_wet f_wide f_rows f_cells f_sun f_all f_firstColumn f_lastColumn t_hours t_opened t_firstWrong g_kind g_wet g_wide g_rows g_cells g_sun g_all g_firstColumn g_lastColumn r_cells r_hours r_cracked r_count S_row S_lane S_length) H → va_D A (W_D cI cS a_d a_f a_t a_r a_z a_f_kind a_f_wet a_g a_g_kind a_g_wet a_r_cells a_r_hours a_r_cracked a_s0 a_s0_row a_s1 a_s1_row a_s2 a_s2_row a_s3 a_s3_row d_hour d_traced d_latestFault f_kind f_wet f_wide f_rows f_cells f_sun f_all f_firstColumn f_lastColumn t_hours t_opened t_firstWrong g_kind g_wet g_wide g_rows g_cells g_sun g_all g_firstColumn g_lastColumn r_cells r_hours r_cracked r_count S_row S_lane S_length) → va_S A s.heap H locs → lv_has ls 5 [(1, .int x1), (2, .int x2), (3, .int x3)] → W p l e (Rm 4) s m args below meth c H locs 0 0 (MQ below (QW D (tysA cI cS) (some (.long r)) (W_D cI cS a_d a_f a_t a_r a_z a_f_kind a_f_wet a_g a_g_kind a_g_wet a_r_cells a_r_hours a_r_cracked a_s0 a_s0_row a_s1 a_s1_row a_s2 a_s2_row a_s3 a_s3_row d_hour d_traced d_latestFault f_kind f_wet f_wide f_rows f_cells f_sun f_all f_firstColumn f_lastColumn t_hours t_opened t_firstWrong g_kind g_wet g_wide g_rows g_cells g_sun g_all g_firstColumn g_lastColumn r_cells r_hours r_cracked r_count S_row S_lane S_length) A) args s 0 0 A) (F0 m 79 ls []) := by
  obtain ⟨hx, hb, hr, hml, hown, hts, hlk, hnw⟩ := id Cc
  intro f_wet f_wide f_cells f_all f_firstColumn f_lastColumn x1 x2 x3 r hf H locs ls hP hD hS hl
  unfold fX4_odds_79 at hf
  refine lv_iload_n hx hb dX4_odds_79 rfl (lv_at hl 0 rfl) ?_
  refine lv_if_ne (tgt := 88) hx hb dX4_odds_80 (by decide) (fun hc9 => ?_) (fun hc9 => ?_)
  · replace hf := (if_neg hc9).symm.trans hf
    refine lv_iload_n hx hb dX4_odds_88 rfl (lv_at hl 2 rfl) ?_
    refine lv_i2l (v := (x3).toInt64) hx hb dX4_odds_89 rfl ?_
    obtain rfl := Option.some.inj hf
    exact rt_l Cc hK hP hD hS dX4_odds_90
  · replace hf := (if_pos hc9).symm.trans hf
    refine lv_iload_n hx hb dX4_odds_83 rfl (lv_at hl 1 rfl) ?_
    refine lv_i2l (v := (x2).toInt64) hx hb dX4_odds_84 rfl ?_
    refine lv_goto (tgt := 90) hx hb dX4_odds_85 (by decide) ?_
    obtain rfl := Option.some.inj hf
    exact rt_l Cc hK hP hD hS dX4_odds_90
set_option maxHeartbeats 4000000 in
set_option maxRecDepth 100000 in
theorem bX4_odds_47 {p : Program} {l : Launch} {e : Env} {s : State} {m : MethodId} {args : Array Value} {below : List Frame} {meth : Method} {c : Code} {A : Nat → Prop} {D : va_G} {cI cS : ClassId} (a_d a_f a_t a_r a_z a_f_kind a_f_wet a_g a_g_kind a_g_wet a_r_cells a_r_hours a_r_cracked a_s0 a_s0_row a_s1 a_s1_row a_s2 a_s2_row a_s3 a_s3_row : Nat) (d_hour : Int32) (d_traced : Int32) (d_latestFault : Int32) (f_kind : Nat → Int32) (f_rows : Int32) (f_sun : Int32) (t_hours : Int32) (t_opened : Int32) (t_firstWrong : Int32) (g_kind : Nat → Int32) (g_wet : Nat → Int32) (g_wide : Int32) (g_rows : Int32) (g_cells : Int32) (g_sun : Int32) (g_all : Int32) (g_firstColumn : Int32) (g_lastColumn : Int32) (r_cells : Nat → Int32) (r_hours : Nat → Int32) (r_cracked : Nat → Int32) (r_count : Int32) (S_row : Nat → Nat → Int32) (S_lane : Nat → Int32) (S_length : Nat → Int32) (Cc : Cx p s m args meth c RX4 cX4_odds 5 (some .long)) (hK : va_K D classes (tysA cI cS) s) (hA : ∀ q, s.heap.size ≤ q → A q) (n : Nat) : ∀ (k : Nat) (f_wet : Nat → Int32) (f_wide : Int32) (f_cells : Int32) (f_all : Int32) (f_firstColumn : Int32) (f_lastColumn : Int32) (x1 : Int32) (x2 : Int32) (x3 : Int32) (x4 : Int32) (r : Int64), fX4_odds_47 n k f_wet f_wide f_cells f_all f_firstColumn f_lastColumn x1 x2 x3 x4 = some (r) → ∀ (H : Heap) (locs : List Loc) (ls : Array Slot), va_P D classes (W_D cI cS a_d a_f a_t a_r a_z a_f_kind a_f_wet a_g a_g_kind a_g_wet a_r_cells a_r_hours a_r_cracked a_s0 a_s0_row a_s1 a_s1_row a_s2 a_s2_row a_s3 a_s3_row d_hour d_traced d_latestFault f_kind f_wet f_wide f_rows f_cells f_sun f_all f_firstColumn f_lastColumn t_hours t_opened t_firstWrong g_kind g_wet g_wide g_rows g_cells g_sun g_all g_firstColumn g_lastColumn r_cells r_hours r_cracked r_count S_row S_lane S_length) H → va_D A (W_D cI cS a_d a_f a_t a_r a_z a_f_kind a_f_wet a_g a_g_kind a_g_wet a_r_cells a_r_hours a_r_cracked a_s0 a_s0_row a_s1 a_s1_row a_s2 a_s2_row a_s3 a_s3_row d_hour d_traced d_latestFault f_kind f_wet f_wide f_rows f_cells f_sun f_all f_firstColumn f_lastColumn t_hours t_opened t_firstWrong g_kind g_wet g_wide g_rows g_cells g_sun g_all g_firstColumn g_lastColumn r_cells r_hours r_cracked r_count S_row S_lane S_length) → va_S A s.heap H locs → lv_has ls 5 [(1, .int x1), (2, .int x2), (3, .int x3), (4, .int x4)] → W p l e (Rm 4) s m args below meth c H locs 0 0 (MQ below (QW D (tysA cI cS) (some (.long r)) (W_D cI cS a_d a_f a_t a_r a_z a_f_kind a_f_wet a_g a_g_kind a_g_wet a_r_cells a_r_hours a_r_cracked a_s0 a_s0_row a_s1 a_s1_row a_s2 a_s2_row a_s3 a_s3_row d_hour d_traced d_latestFault f_kind f_wet f_wide f_rows f_cells f_sun f_all f_firstColumn f_lastColumn t_hours t_opened t_firstWrong g_kind g_wet g_wide g_rows g_cells g_sun g_all g_firstColumn g_lastColumn r_cells r_hours r_cracked r_count S_row S_lane S_length) A) args s 0 0 A) (F0 m 47 ls []) := by
  obtain ⟨hx, hb, hr, hml, hown, hts, hlk, hnw⟩ := id Cc
  intro k
  induction k with
  | zero =>
    intro f_wet f_wide f_cells f_all f_firstColumn f_lastColumn x1 x2 x3 x4 r hf
    rw [fX4_odds_47] at hf
    cases hf
  | succ k ih =>
    intro f_wet f_wide f_cells f_all f_firstColumn f_lastColumn x1 x2 x3 x4 r hf H locs ls hP hD hS hl
    rw [fX4_odds_47] at hf
    refine lv_iload hx hb dX4_odds_47 (lv_at hl 3 rfl) ?_
    refine lv_bipush (v := (12 : Int32)) hx hb dX4_odds_49 (by decide) ?_
    refine lv_icmp_ge (tgt := 79) hx hb dX4_odds_51 (by decide) (fun hc8 => ?_) (fun hc8 => ?_)
    · replace hf := (if_pos hc8).symm.trans hf
      exact bX4_odds_79 a_d a_f a_t a_r a_z a_f_kind a_f_wet a_g a_g_kind a_g_wet a_r_cells a_r_hours a_r_cracked a_s0 a_s0_row a_s1 a_s1_row a_s2 a_s2_row a_s3 a_s3_row d_hour d_traced d_latestFault f_kind f_rows f_sun t_hours t_opened t_firstWrong g_kind g_wet g_wide g_rows g_cells g_sun g_all g_firstColumn g_lastColumn r_cells r_hours r_cracked r_count S_row S_lane S_length Cc hK hA n _ _ _ _ _ _ _ _ _ _ hf _ _ _ hP hD hS (lv_sub hl [0, 1, 2] rfl)
    · replace hf := (if_neg hc8).symm.trans hf
      refine lv_iload_n hx hb dX4_odds_54 rfl (lv_at hl 2 rfl) ?_
      refine lv_iconst (v := (1 : Int32)) hx hb dX4_odds_55 (by decide) ?_
      refine lv_icmp_le (tgt := 79) hx hb dX4_odds_56 (by decide) (fun hc10 => ?_) (fun hc10 => ?_)
      · replace hf := (if_pos hc10).symm.trans hf
        exact bX4_odds_79 a_d a_f a_t a_r a_z a_f_kind a_f_wet a_g a_g_kind a_g_wet a_r_cells a_r_hours a_r_cracked a_s0 a_s0_row a_s1 a_s1_row a_s2 a_s2_row a_s3 a_s3_row d_hour d_traced d_latestFault f_kind f_rows f_sun t_hours t_opened t_firstWrong g_kind g_wet g_wide g_rows g_cells g_sun g_all g_firstColumn g_lastColumn r_cells r_hours r_cracked r_count S_row S_lane S_length Cc hK hA n _ _ _ _ _ _ _ _ _ _ hf _ _ _ hP hD hS (lv_sub hl [0, 1, 2] rfl)
      · replace hf := (if_neg hc10).symm.trans hf
        refine lv_iload_n hx hb dX4_odds_59 rfl (lv_at hl 1 rfl) ?_
        refine lv_iconst (v := (1 : Int32)) hx hb dX4_odds_60 (by decide) ?_
        refine lv_iand hx hb dX4_odds_61 ?_
        refine lv_if_ne (tgt := 79) hx hb dX4_odds_62 (by decide) (fun hc11 => ?_) (fun hc11 => ?_)
        · replace hf := (if_neg hc11).symm.trans hf
          exact bX4_odds_79 a_d a_f a_t a_r a_z a_f_kind a_f_wet a_g a_g_kind a_g_wet a_r_cells a_r_hours a_r_cracked a_s0 a_s0_row a_s1 a_s1_row a_s2 a_s2_row a_s3 a_s3_row d_hour d_traced d_latestFault f_kind f_rows f_sun t_hours t_opened t_firstWrong g_kind g_wet g_wide g_rows g_cells g_sun g_all g_firstColumn g_lastColumn r_cells r_hours r_cracked r_count S_row S_lane S_length Cc hK hA n _ _ _ _ _ _ _ _ _ _ hf _ _ _ hP hD hS (lv_sub hl [0, 1, 2] rfl)
        · replace hf := (if_pos hc11).symm.trans hf
          refine lv_iload_n hx hb dX4_odds_65 rfl (lv_at hl 1 rfl) ?_
          refine lv_iconst (v := (1 : Int32)) hx hb dX4_odds_66 (by decide) ?_
          refine lv_ishr hx hb dX4_odds_67 ?_
          refine lv_istore_n (lv' := [(2, .int (x2 >>> ((1 : Int32) &&& 31))), (1, .int x1), (3, .int x3), (4, .int x4)]) hx hb dX4_odds_68 rfl hl (by decide) rfl (fun ls hl => ?_)
          refine lv_iload_n hx hb dX4_odds_69 rfl (lv_at hl 2 rfl) ?_
          refine lv_iconst (v := (1 : Int32)) hx hb dX4_odds_70 (by decide) ?_
          refine lv_ishr hx hb dX4_odds_71 ?_
          refine lv_istore_n (lv' := [(3, .int (x3 >>> ((1 : Int32) &&& 31))), (2, .int (x2 >>> ((1 : Int32) &&& 31))), (1, .int x1), (4, .int x4)]) hx hb dX4_odds_72 rfl hl (by decide) rfl (fun ls hl => ?_)
          refine lv_iinc (v := (x4 + 1)) (lv' := [(4, .int (x4 + 1)), (3, .int (x3 >>> ((1 : Int32) &&& 31))), (2, .int (x2 >>> ((1 : Int32) &&& 31))), (1, .int x1)]) hx hb dX4_odds_73 hl (k := 3) rfl rfl (by decide) rfl (fun ls hl => ?_)
          refine lv_goto (tgt := 47) hx hb dX4_odds_76 (by decide) ?_
          exact ih _ _ _ _ _ _ _ _ _ _ _ hf _ _ _ hP hD hS (lv_sub hl [3, 2, 1, 0] rfl)
set_option maxHeartbeats 4000000 in
set_option maxRecDepth 100000 in
theorem ctX4_odds (l : Launch) (D : va_G) (cI cS : ClassId) (a_d a_f a_t a_r a_z a_f_kind a_f_wet a_g a_g_kind a_g_wet a_r_cells a_r_hours a_r_cracked a_s0 a_s0_row a_s1 a_s1_row a_s2 a_s2_row a_s3 a_s3_row : Nat) (d_hour : Int32) (d_traced : Int32) (d_latestFault : Int32) (f_kind : Nat → Int32) (f_wet : Nat → Int32) (f_wide : Int32) (f_rows : Int32) (f_cells : Int32) (f_sun : Int32) (f_all : Int32) (f_firstColumn : Int32) (f_lastColumn : Int32) (t_hours : Int32) (t_opened : Int32) (t_firstWrong : Int32) (g_kind : Nat → Int32) (g_wet : Nat → Int32) (g_wide : Int32) (g_rows : Int32) (g_cells : Int32) (g_sun : Int32) (g_all : Int32) (g_firstColumn : Int32) (g_lastColumn : Int32) (r_cells : Nat → Int32) (r_hours : Nat → Int32) (r_cracked : Nat → Int32) (r_count : Int32) (S_row : Nat → Nat → Int32) (S_lane : Nat → Int32) (S_length : Nat → Int32) (p1 : Int32) (n : Nat) (r : Int64) (hf : fX4_odds n f_wet f_wide f_cells f_all f_firstColumn f_lastColumn p1 = some (r)) : Ct l D (tysA cI cS) yX4_odds cX4_odds 5 (some .long) (Rm 4) [.ref a_d, .int p1] (W_D cI cS a_d a_f a_t a_r a_z a_f_kind a_f_wet a_g a_g_kind a_g_wet a_r_cells a_r_hours a_r_cracked a_s0 a_s0_row a_s1 a_s1_row a_s2 a_s2_row a_s3 a_s3_row d_hour d_traced d_latestFault f_kind f_wet f_wide f_rows f_cells f_sun f_all f_firstColumn f_lastColumn t_hours t_opened t_firstWrong g_kind g_wet g_wide g_rows g_cells g_sun g_all g_firstColumn g_lastColumn r_cells r_hours r_cracked r_count S_row S_lane S_length) (some (.long r)) (W_D cI cS a_d a_f a_t a_r a_z a_f_kind a_f_wet a_g a_g_kind a_g_wet a_r_cells a_r_hours a_r_cracked a_s0 a_s0_row a_s1 a_s1_row a_s2 a_s2_row a_s3 a_s3_row d_hour d_traced d_latestFault f_kind f_wet f_wide f_rows f_cells f_sun f_all f_firstColumn f_lastColumn t_hours t_opened t_firstWrong g_kind g_wet g_wide g_rows g_cells g_sun g_all g_firstColumn g_lastColumn r_cells r_hours r_cracked r_count S_row S_lane S_length) := by
  refine Ct_of (by decide) (Nat.le_of_ble_eq_true rfl) ?_
  intro p e s m args below meth c A ls Cc hK hA hP hD hS hl
  have hl : lv_has ls 5 [(0, .ref a_d), (1, .int p1)] := hl
  obtain ⟨hx, hb, hr, hml, hown, hts, hlk, hnw⟩ := id Cc
  unfold fX4_odds at hf
  refine lv_iload_n hx hb dX4_odds_0 rfl (lv_at hl 1 rfl) ?_
  refine lv_iconst (v := (0 : Int32)) hx hb dX4_odds_1 (by decide) ?_
  refine lv_iconst (v := (1 : Int32)) hx hb dX4_odds_2 (by decide) ?_
  obtain ⟨q3_1, hq1, hf⟩ := Option.bind_eq_some_iff.mp hf
  refine cSt (ws' := (W_D cI cS a_d a_f a_t a_r a_z a_f_kind a_f_wet a_g a_g_kind a_g_wet a_r_cells a_r_hours a_r_cracked a_s0 a_s0_row a_s1 a_s1_row a_s2 a_s2_row a_s3 a_s3_row d_hour d_traced d_latestFault f_kind f_wet f_wide f_rows f_cells f_sun f_all f_firstColumn f_lastColumn t_hours t_opened t_firstWrong g_kind g_wet g_wide g_rows g_cells g_sun g_all g_firstColumn g_lastColumn r_cells r_hours r_cracked r_count S_row S_lane S_length)) (rest := []) (st1 := [.int q3_1]) Cc hK hA hP hD hS hl.1 (ctX4_within l D cI cS   p1 (0 : Int32) (1 : Int32) n q3_1 hq1) ⟨tw_154, tw_152, tw_153, tw_1⟩ mdX4_within ⟨rfl, rfl, Nat.le_of_ble_eq_true rfl, Nat.le_of_ble_eq_true rfl⟩ rfl dX4_odds_3 rfl (Nat.le_of_ble_eq_true rfl) ⟨Nat.zero_le _, Nat.zero_le _⟩ rfl [] [0, 1, 2, 3, 4, 5, 6, 7, 8, 9, 10, 11, 12, 13, 14, 15, 16, 17, 18, 19, 20] [0, 1, 2, 3, 4, 5, 6, 7, 8, 9, 10, 11, 12, 13, 14, 15, 16, 17, 18, 19, 20] rfl rfl (by decide) rfl (fun H locs hP hD hS => ?_)
  refine lv_if_eq (tgt := 19) hx hb dX4_odds_6 (by decide) (fun hc2 => ?_) (fun hc2 => ?_)
  · replace hf := (if_pos hc2).symm.trans hf
    refine lv_ldc2 hx hb hown (hts _ tw_411) dX4_odds_19 ?_
    obtain rfl := Option.some.inj hf
    exact rt_l Cc hK hP hD hS dX4_odds_22
  · replace hf := (if_neg hc2).symm.trans hf
    refine lv_aload_n hx hb dX4_odds_9 rfl (lv_at hl 0 rfl) ?_
    refine va_get (D := D) (ci := 4) (v := .ref a_f) (C := RX4) (T := TX4) (N := 7) hx hb hts inX4 hown hK hP 0 rfl rfl 0 (by decide) (hts _ tw_123) (fun _ h9 => h9) rfl dX4_odds_10 ?_
    obtain ⟨q13_1, hq3, hf⟩ := Option.bind_eq_some_iff.mp hf
    refine cV (ws' := (W_D cI cS a_d a_f a_t a_r a_z a_f_kind a_f_wet a_g a_g_kind a_g_wet a_r_cells a_r_hours a_r_cracked a_s0 a_s0_row a_s1 a_s1_row a_s2 a_s2_row a_s3 a_s3_row d_hour d_traced d_latestFault f_kind f_wet f_wide f_rows f_cells f_sun f_all f_firstColumn f_lastColumn t_hours t_opened t_firstWrong g_kind g_wet g_wide g_rows g_cells g_sun g_all g_firstColumn g_lastColumn r_cells r_hours r_cracked r_count S_row S_lane S_length)) (rest := []) (st1 := [.int q13_1]) Cc hK hA hP hD hS hl.1 (ctX0_isThere l D cI cS a_f a_f_kind a_f_wet f_kind f_wet f_wide f_rows f_cells f_sun f_all f_firstColumn f_lastColumn  n q13_1 hq3) ⟨tw_252, tw_249, tw_250, tw_251, tw_2⟩ mdX0_isThere ⟨rfl, rfl, Nat.le_of_ble_eq_true rfl, Nat.le_of_ble_eq_true rfl⟩ rfl dX4_odds_13 rfl (Nat.le_of_ble_eq_true rfl) ⟨Nat.zero_le _, Nat.zero_le _⟩ rfl rfl rfl [1, 2, 3] [0, 4, 5, 6, 7, 8, 9, 10, 11, 12, 13, 14, 15, 16, 17, 18, 19, 20] [0, 18, 19, 20, 1, 2, 3, 4, 5, 6, 7, 8, 9, 10, 11, 12, 13, 14, 15, 16, 17] rfl rfl (by decide) rfl (fun H locs hP hD hS => ?_)
    refine lv_if_ne (tgt := 23) hx hb dX4_odds_16 (by decide) (fun hc4 => ?_) (fun hc4 => ?_)
    · replace hf := (if_neg hc4).symm.trans hf
      refine lv_aload_n hx hb dX4_odds_23 rfl (lv_at hl 0 rfl) ?_
      refine va_get (D := D) (ci := 4) (v := .ref a_f) (C := RX4) (T := TX4) (N := 7) hx hb hts inX4 hown hK hP 0 rfl rfl 0 (by decide) (hts _ tw_123) (fun _ h9 => h9) rfl dX4_odds_24 ?_
      obtain ⟨q27_1, hq5, hf⟩ := Option.bind_eq_some_iff.mp hf
      refine cV (ws' := (W_D cI cS a_d a_f a_t a_r a_z a_f_kind a_f_wet a_g a_g_kind a_g_wet a_r_cells a_r_hours a_r_cracked a_s0 a_s0_row a_s1 a_s1_row a_s2 a_s2_row a_s3 a_s3_row d_hour d_traced d_latestFault f_kind f_wet f_wide f_rows f_cells f_sun f_all f_firstColumn f_lastColumn t_hours t_opened t_firstWrong g_kind g_wet g_wide g_rows g_cells g_sun g_all g_firstColumn g_lastColumn r_cells r_hours r_cracked r_count S_row S_lane S_length)) (rest := []) (st1 := [.int q27_1]) Cc hK hA hP hD hS hl.1 (ctX0_openWays l D cI cS a_f a_f_kind a_f_wet f_kind f_wet f_wide f_rows f_cells f_sun f_all f_firstColumn f_lastColumn  n q27_1 hq5) ⟨tw_415, tw_412, tw_413, tw_414, tw_2⟩ mdX0_openWays ⟨rfl, rfl, Nat.le_of_ble_eq_true rfl, Nat.le_of_ble_eq_true rfl⟩ rfl dX4_odds_27 rfl (Nat.le_of_ble_eq_true rfl) ⟨Nat.zero_le _, Nat.zero_le _⟩ rfl rfl rfl [1, 2, 3] [0, 4, 5, 6, 7, 8, 9, 10, 11, 12, 13, 14, 15, 16, 17, 18, 19, 20] [0, 18, 19, 20, 1, 2, 3, 4, 5, 6, 7, 8, 9, 10, 11, 12, 13, 14, 15, 16, 17] rfl rfl (by decide) rfl (fun H locs hP hD hS => ?_)
      refine lv_istore_n (lv' := [(2, .int q27_1), (0, .ref a_d), (1, .int p1)]) hx hb dX4_odds_30 rfl hl (by decide) rfl (fun ls hl => ?_)
      refine lv_iconst (v := (1 : Int32)) hx hb dX4_odds_31 (by decide) ?_
      refine lv_aload_n hx hb dX4_odds_32 rfl (lv_at hl 1 rfl) ?_
      refine va_get (D := D) (ci := 4) (v := .ref a_f) (C := RX4) (T := TX4) (N := 7) hx hb hts inX4 hown hK hP 0 rfl rfl 0 (by decide) (hts _ tw_123) (fun _ h9 => h9) rfl dX4_odds_33 ?_
      obtain ⟨q36_2, hq6, hf⟩ := Option.bind_eq_some_iff.mp hf
      refine cV (ws' := (W_D cI cS a_d a_f a_t a_r a_z a_f_kind a_f_wet a_g a_g_kind a_g_wet a_r_cells a_r_hours a_r_cracked a_s0 a_s0_row a_s1 a_s1_row a_s2 a_s2_row a_s3 a_s3_row d_hour d_traced d_latestFault f_kind f_wet f_wide f_rows f_cells f_sun f_all f_firstColumn f_lastColumn t_hours t_opened t_firstWrong g_kind g_wet g_wide g_rows g_cells g_sun g_all g_firstColumn g_lastColumn r_cells r_hours r_cracked r_count S_row S_lane S_length)) (rest := [.int (1 : Int32)]) (st1 := [.int q36_2, .int (1 : Int32)]) Cc hK hA hP hD hS hl.1 (ctX0_wetSet l D cI cS a_f a_f_kind a_f_wet f_kind f_wet f_wide f_rows f_cells f_sun f_all f_firstColumn f_lastColumn  n q36_2 hq6) ⟨tw_226, tw_223, tw_224, tw_225, tw_2⟩ mdX0_wetSet ⟨rfl, rfl, Nat.le_of_ble_eq_true rfl, Nat.le_of_ble_eq_true rfl⟩ rfl dX4_odds_36 rfl (Nat.le_of_ble_eq_true rfl) ⟨Nat.zero_le _, Nat.zero_le _⟩ rfl rfl rfl [1, 2, 3] [0, 4, 5, 6, 7, 8, 9, 10, 11, 12, 13, 14, 15, 16, 17, 18, 19, 20] [0, 18, 19, 20, 1, 2, 3, 4, 5, 6, 7, 8, 9, 10, 11, 12, 13, 14, 15, 16, 17] rfl rfl (by decide) rfl (fun H locs hP hD hS => ?_)
      obtain ⟨q39_3, hq7, hf⟩ := Option.bind_eq_some_iff.mp hf
      refine cSt (ws' := (W_D cI cS a_d a_f a_t a_r a_z a_f_kind a_f_wet a_g a_g_kind a_g_wet a_r_cells a_r_hours a_r_cracked a_s0 a_s0_row a_s1 a_s1_row a_s2 a_s2_row a_s3 a_s3_row d_hour d_traced d_latestFault f_kind f_wet f_wide f_rows f_cells f_sun f_all f_firstColumn f_lastColumn t_hours t_opened t_firstWrong g_kind g_wet g_wide g_rows g_cells g_sun g_all g_firstColumn g_lastColumn r_cells r_hours r_cracked r_count S_row S_lane S_length)) (rest := [.int (1 : Int32)]) (st1 := [.int q39_3, .int (1 : Int32)]) Cc hK hA hP hD hS hl.1 (ctJ6_bitCount_0f7a4 l D cI cS   q36_2 n q39_3 hq7) ⟨tw_241, tw_239, tw_240, tw_8⟩ mdJ6_bitCount_0f7a4 ⟨rfl, rfl, Nat.le_of_ble_eq_true rfl, Nat.le_of_ble_eq_true rfl⟩ rfl dX4_odds_39 rfl (Nat.le_of_ble_eq_true rfl) ⟨Nat.zero_le _, Nat.zero_le _⟩ rfl [] [0, 1, 2, 3, 4, 5, 6, 7, 8, 9, 10, 11, 12, 13, 14, 15, 16, 17, 18, 19, 20] [0, 1, 2, 3, 4, 5, 6, 7, 8, 9, 10, 11, 12, 13, 14, 15, 16, 17, 18, 19, 20] rfl rfl (by decide) rfl (fun H locs hP hD hS => ?_)
      refine lv_ishl hx hb dX4_odds_42 ?_
      refine lv_istore_n (lv' := [(3, .int ((1 : Int32) <<< (q39_3 &&& 31))), (2, .int q27_1), (0, .ref a_d), (1, .int p1)]) hx hb dX4_odds_43 rfl hl (by decide) rfl (fun ls hl => ?_)
      refine lv_iconst (v := (0 : Int32)) hx hb dX4_odds_44 (by decide) ?_
      refine lv_istore (lv' := [(4, .int (0 : Int32)), (3, .int ((1 : Int32) <<< (q39_3 &&& 31))), (2, .int q27_1), (0, .ref a_d), (1, .int p1)]) hx hb dX4_odds_45 hl (by decide) rfl (fun ls hl => ?_)
      exact bX4_odds_47 a_d a_f a_t a_r a_z a_f_kind a_f_wet a_g a_g_kind a_g_wet a_r_cells a_r_hours a_r_cracked a_s0 a_s0_row a_s1 a_s1_row a_s2 a_s2_row a_s3 a_s3_row d_hour d_traced d_latestFault f_kind f_rows f_sun t_hours t_opened t_firstWrong g_kind g_wet g_wide g_rows g_cells g_sun g_all g_firstColumn g_lastColumn r_cells r_hours r_cracked r_count S_row S_lane S_length Cc hK hA n n _ _ _ _ _ _ _ _ _ _ _ hf _ _ _ hP hD hS (lv_sub hl [4, 2, 1, 0] rfl)
    · replace hf := (if_pos hc4).symm.trans hf
      refine lv_ldc2 hx hb hown (hts _ tw_411) dX4_odds_19 ?_
      obtain rfl := Option.some.inj hf
      exact rt_l Cc hK hP hD hS dX4_odds_22
-- X4_tell
def fX4_tell (n : Nat) (d_traced : Int32) (f_kind : Nat → Int32) (f_wet : Nat → Int32) (f_cells : Int32) (p1 : Int32) : Option (Int32 × Int32) := (fX0_isCell n f_cells p1).bind fun q5_1 => if q5_1 = 0 then some ((-1 : Int32), d_traced) else gd p1 12 (if (f_kind p1.toNatClampNeg) = 1 then (fX4_tellingOfSand n d_traced f_wet p1).bind fun q50_1 => some (q50_1.1, q50_1.2) else if (f_kind p1.toNatClampNeg) = 2 then (fX4_tellingOfClay n d_traced f_wet p1).bind fun q56_1 => some (q56_1.1, q56_1.2) else (fX4_tellingOfMud n d_traced f_wet p1).bind fun q62_1 => some (q62_1.1, q62_1.2))
theorem mdX4_tell : yX4_tell.cls = RX4 ∧ yX4_tell.cls ≠ "java/lang/invoke/MethodHandle" ∧ yX4_tell.cls ≠ "java/lang/invoke/VarHandle" ∧ (parseMethodDescriptor yX4_tell.desc).map (fun d => d.parameters.length) = some 1 := by decide +kernel
set_option maxHeartbeats 4000000 in
set_option maxRecDepth 100000 in
theorem ctX4_tell (l : Launch) (D : va_G) (cI cS : ClassId) (a_d a_f a_t a_r a_z a_f_kind a_f_wet a_g a_g_kind a_g_wet a_r_cells a_r_hours a_r_cracked a_s0 a_s0_row a_s1 a_s1_row a_s2 a_s2_row a_s3 a_s3_row : Nat) (d_hour : Int32) (d_traced : Int32) (d_latestFault : Int32) (f_kind : Nat → Int32) (f_wet : Nat → Int32) (f_wide : Int32) (f_rows : Int32) (f_cells : Int32) (f_sun : Int32) (f_all : Int32) (f_firstColumn : Int32) (f_lastColumn : Int32) (t_hours : Int32) (t_opened : Int32) (t_firstWrong : Int32) (g_kind : Nat → Int32) (g_wet : Nat → Int32) (g_wide : Int32) (g_rows : Int32) (g_cells : Int32) (g_sun : Int32) (g_all : Int32) (g_firstColumn : Int32) (g_lastColumn : Int32) (r_cells : Nat → Int32) (r_hours : Nat → Int32) (r_cracked : Nat → Int32) (r_count : Int32) (S_row : Nat → Nat → Int32) (S_lane : Nat → Int32) (S_length : Nat → Int32) (p1 : Int32) (n : Nat) (r : Int32) (d_traced' : Int32) (hf : fX4_tell n d_traced f_kind f_wet f_cells p1 = some (r, d_traced')) : Ct l D (tysA cI cS) yX4_tell cX4_tell 2 (some .int) (Rm 4) [.ref a_d, .int p1] (W_D cI cS a_d a_f a_t a_r a_z a_f_kind a_f_wet a_g a_g_kind a_g_wet a_r_cells a_r_hours a_r_cracked a_s0 a_s0_row a_s1 a_s1_row a_s2 a_s2_row a_s3 a_s3_row d_hour d_traced d_latestFault f_kind f_wet f_wide f_rows f_cells f_sun f_all f_firstColumn f_lastColumn t_hours t_opened t_firstWrong g_kind g_wet g_wide g_rows g_cells g_sun g_all g_firstColumn g_lastColumn r_cells r_hours r_cracked r_count S_row S_lane S_length) (some (.int r)) (W_D cI cS a_d a_f a_t a_r a_z a_f_kind a_f_wet a_g a_g_kind a_g_wet a_r_cells a_r_hours a_r_cracked a_s0 a_s0_row a_s1 a_s1_row a_s2 a_s2_row a_s3 a_s3_row d_hour d_traced' d_latestFault f_kind f_wet f_wide f_rows f_cells f_sun f_all f_firstColumn f_lastColumn t_hours t_opened t_firstWrong g_kind g_wet g_wide g_rows g_cells g_sun g_all g_firstColumn g_lastColumn r_cells r_hours r_cracked r_count S_row S_lane S_length) := by
  refine Ct_of (by decide) (Nat.le_of_ble_eq_true rfl) ?_
  intro p e s m args below meth c A ls Cc hK hA hP hD hS hl
  have hl : lv_has ls 2 [(0, .ref a_d), (1, .int p1)] := hl
  obtain ⟨hx, hb, hr, hml, hown, hts, hlk, hnw⟩ := id Cc
  unfold fX4_tell at hf
  refine lv_aload_n hx hb dX4_tell_0 rfl (lv_at hl 0 rfl) ?_
  refine va_get (D := D) (ci := 4) (v := .ref a_f) (C := RX4) (T := TX4) (N := 7) hx hb hts inX4 hown hK hP 0 rfl rfl 0 (by decide) (hts _ tw_123) (fun _ h9 => h9) rfl dX4_tell_1 ?_
  refine lv_iload_n hx hb dX4_tell_4 rfl (lv_at hl 1 rfl) ?_
  obtain ⟨q5_1, hq1, hf⟩ := Option.bind_eq_some_iff.mp hf
  refine cV (ws' := (W_D cI cS a_d a_f a_t a_r a_z a_f_kind a_f_wet a_g a_g_kind a_g_wet a_r_cells a_r_hours a_r_cracked a_s0 a_s0_row a_s1 a_s1_row a_s2 a_s2_row a_s3 a_s3_row d_hour d_traced d_latestFault f_kind f_wet f_wide f_rows f_cells f_sun f_all f_firstColumn f_lastColumn t_hours t_opened t_firstWrong g_kind g_wet g_wide g_rows g_cells g_sun g_all g_firstColumn g_lastColumn r_cells r_hours r_cracked r_count S_row S_lane S_length)) (rest := []) (st1 := [.int q5_1]) Cc hK hA hP hD hS hl.1 (ctX0_isCell l D cI cS a_f a_f_kind a_f_wet f_kind f_wet f_wide f_rows f_cells f_sun f_all f_firstColumn f_lastColumn p1 n q5_1 hq1) ⟨tw_218, tw_215, tw_216, tw_217, tw_2⟩ mdX0_isCell ⟨rfl, rfl, Nat.le_of_ble_eq_true rfl, Nat.le_of_ble_eq_true rfl⟩ rfl dX4_tell_5 rfl (Nat.le_of_ble_eq_true rfl) ⟨Nat.zero_le _, Nat.zero_le _⟩ rfl rfl rfl [1, 2, 3] [0, 4, 5, 6, 7, 8, 9, 10, 11, 12, 13, 14, 15, 16, 17, 18, 19, 20] [0, 18, 19, 20, 1, 2, 3, 4, 5, 6, 7, 8, 9, 10, 11, 12, 13, 14, 15, 16, 17] rfl rfl (by decide) rfl (fun H locs hP hD hS => ?_)
  refine lv_if_ne (tgt := 13) hx hb dX4_tell_8 (by decide) (fun hc2 => ?_) (fun hc2 => ?_)
  · replace hf := (if_neg hc2).symm.trans hf
    refine lv_aload_n hx hb dX4_tell_13 rfl (lv_at hl 0 rfl) ?_
    refine va_get (D := D) (ci := 4) (v := .ref a_f) (C := RX4) (T := TX4) (N := 7) hx hb hts inX4 hown hK hP 0 rfl rfl 0 (by decide) (hts _ tw_123) (fun _ h9 => h9) rfl dX4_tell_14 ?_
    refine va_getN (D := D) (ci := 0) (v := .ref a_f_kind) (C := RX0) (T := TX0) (N := 9) hx hb hts inX0 hown hK hP 1 rfl rfl 0 (by decide) (va_Nw.use rfl (hnw _ nn_0)) (fun _ h9 => h9) rfl dX4_tell_17 ?_
    refine lv_iload_n hx hb dX4_tell_20 rfl (lv_at hl 1 rfl) ?_
    obtain ⟨hin, hf⟩ := gd_some hf
    refine va_iald hx hb hK hP 2 0 rfl rfl hin dX4_tell_21 ?_
    by_cases hs3_0 : (f_kind p1.toNatClampNeg) = 1
    · replace hf := (if_pos hs3_0).symm.trans hf
      refine lv_lookup (tgt := 48) (off := 26) hx hb dX4_tell_22 (by decide) (by rw [hs3_0]; decide) (by decide) ?_
      refine lv_aload_n hx hb dX4_tell_48 rfl (lv_at hl 0 rfl) ?_
      refine lv_iload_n hx hb dX4_tell_49 rfl (lv_at hl 1 rfl) ?_
      obtain ⟨q50_1, hq4, hf⟩ := Option.bind_eq_some_iff.mp hf
      refine cV (ws' := (W_D cI cS a_d a_f a_t a_r a_z a_f_kind a_f_wet a_g a_g_kind a_g_wet a_r_cells a_r_hours a_r_cracked a_s0 a_s0_row a_s1 a_s1_row a_s2 a_s2_row a_s3 a_s3_row d_hour q50_1.2 d_latestFault f_kind f_wet f_wide f_rows f_cells f_sun f_all f_firstColumn f_lastColumn t_hours t_opened t_firstWrong g_kind g_wet g_wide g_rows g_cells g_sun g_all g_firstColumn g_lastColumn r_cells r_hours r_cracked r_count S_row S_lane S_length)) (rest := []) (st1 := [.int q50_1.1]) Cc hK hA hP hD hS hl.1 (ctX4_tellingOfSand l D cI cS a_d a_f a_t a_r a_z a_f_kind a_f_wet d_hour d_traced d_latestFault f_kind f_wet f_wide f_rows f_cells f_sun f_all f_firstColumn f_lastColumn p1 n q50_1.1 q50_1.2 hq4) ⟨tw_464, tw_461, tw_463, tp_7, tw_1⟩ mdX4_tellingOfSand ⟨rfl, rfl, Nat.le_of_ble_eq_true rfl, Nat.le_of_ble_eq_true rfl⟩ rfl dX4_tell_50 rfl (Nat.le_of_ble_eq_true rfl) ⟨Nat.zero_le _, Nat.zero_le _⟩ rfl rfl rfl [0, 1, 2, 3] [4, 5, 6, 7, 8, 9, 10, 11, 12, 13, 14, 15, 16, 17, 18, 19, 20] [17, 18, 19, 20, 0, 1, 2, 3, 4, 5, 6, 7, 8, 9, 10, 11, 12, 13, 14, 15, 16] rfl rfl (by decide) rfl (fun H locs hP hD hS => ?_)
      replace hf := Option.some.inj hf
      obtain ⟨er0, er1⟩ := Prod.mk.inj hf
      clear hf 
      subst er0
      subst er1
      exact rt_i Cc hK hP hD hS dX4_tell_53
    · replace hf := (if_neg hs3_0).symm.trans hf
      by_cases hs3_1 : (f_kind p1.toNatClampNeg) = 2
      · replace hf := (if_pos hs3_1).symm.trans hf
        refine lv_lookup (tgt := 54) (off := 32) hx hb dX4_tell_22 (by decide) (by rw [hs3_1]; decide) (by decide) ?_
        refine lv_aload_n hx hb dX4_tell_54 rfl (lv_at hl 0 rfl) ?_
        refine lv_iload_n hx hb dX4_tell_55 rfl (lv_at hl 1 rfl) ?_
        obtain ⟨q56_1, hq5, hf⟩ := Option.bind_eq_some_iff.mp hf
        refine cV (ws' := (W_D cI cS a_d a_f a_t a_r a_z a_f_kind a_f_wet a_g a_g_kind a_g_wet a_r_cells a_r_hours a_r_cracked a_s0 a_s0_row a_s1 a_s1_row a_s2 a_s2_row a_s3 a_s3_row d_hour q56_1.2 d_latestFault f_kind f_wet f_wide f_rows f_cells f_sun f_all f_firstColumn f_lastColumn t_hours t_opened t_firstWrong g_kind g_wet g_wide g_rows g_cells g_sun g_all g_firstColumn g_lastColumn r_cells r_hours r_cracked r_count S_row S_lane S_length)) (rest := []) (st1 := [.int q56_1.1]) Cc hK hA hP hD hS hl.1 (ctX4_tellingOfClay l D cI cS a_d a_f a_t a_r a_z a_f_kind a_f_wet d_hour d_traced d_latestFault f_kind f_wet f_wide f_rows f_cells f_sun f_all f_firstColumn f_lastColumn p1 n q56_1.1 q56_1.2 hq5) ⟨tw_476, tw_473, tw_475, tp_10, tw_1⟩ mdX4_tellingOfClay ⟨rfl, rfl, Nat.le_of_ble_eq_true rfl, Nat.le_of_ble_eq_true rfl⟩ rfl dX4_tell_56 rfl (Nat.le_of_ble_eq_true rfl) ⟨Nat.zero_le _, Nat.zero_le _⟩ rfl rfl rfl [0, 1, 2, 3] [4, 5, 6, 7, 8, 9, 10, 11, 12, 13, 14, 15, 16, 17, 18, 19, 20] [17, 18, 19, 20, 0, 1, 2, 3, 4, 5, 6, 7, 8, 9, 10, 11, 12, 13, 14, 15, 16] rfl rfl (by decide) rfl (fun H locs hP hD hS => ?_)
        replace hf := Option.some.inj hf
        obtain ⟨er0, er1⟩ := Prod.mk.inj hf
        clear hf 
        subst er0
        subst er1
        exact rt_i Cc hK hP hD hS dX4_tell_59
      · replace hf := (if_neg hs3_1).symm.trans hf
        refine lv_lookup (tgt := 60) (off := 38) hx hb dX4_tell_22 (by decide) (lk_out2 (k0 := 1) (k1 := 2) (nei hs3_0) (nei hs3_1)) (by decide) ?_
        refine lv_aload_n hx hb dX4_tell_60 rfl (lv_at hl 0 rfl) ?_
        refine lv_iload_n hx hb dX4_tell_61 rfl (lv_at hl 1 rfl) ?_
        obtain ⟨q62_1, hq6, hf⟩ := Option.bind_eq_some_iff.mp hf
        refine cV (ws' := (W_D cI cS a_d a_f a_t a_r a_z a_f_kind a_f_wet a_g a_g_kind a_g_wet a_r_cells a_r_hours a_r_cracked a_s0 a_s0_row a_s1 a_s1_row a_s2 a_s2_row a_s3 a_s3_row d_hour q62_1.2 d_latestFault f_kind f_wet f_wide f_rows f_cells f_sun f_all f_firstColumn f_lastColumn t_hours t_opened t_firstWrong g_kind g_wet g_wide g_rows g_cells g_sun g_all g_firstColumn g_lastColumn r_cells r_hours r_cracked r_count S_row S_lane S_length)) (rest := []) (st1 := [.int q62_1.1]) Cc hK hA hP hD hS hl.1 (ctX4_tellingOfMud l D cI cS a_d a_f a_t a_r a_z a_f_kind a_f_wet d_hour d_traced d_latestFault f_kind f_wet f_wide f_rows f_cells f_sun f_all f_firstColumn f_lastColumn p1 n q62_1.1 q62_1.2 hq6) ⟨tw_472, tw_469, tw_471, tp_9, tw_1⟩ mdX4_tellingOfMud ⟨rfl, rfl, Nat.le_of_ble_eq_true rfl, Nat.le_of_ble_eq_true rfl⟩ rfl dX4_tell_62 rfl (Nat.le_of_ble_eq_true rfl) ⟨Nat.zero_le _, Nat.zero_le _⟩ rfl rfl rfl [0, 1, 2, 3] [4, 5, 6, 7, 8, 9, 10, 11, 12, 13, 14, 15, 16, 17, 18, 19, 20] [17, 18, 19, 20, 0, 1, 2, 3, 4, 5, 6, 7, 8, 9, 10, 11, 12, 13, 14, 15, 16] rfl rfl (by decide) rfl (fun H locs hP hD hS => ?_)
        replace hf := Option.some.inj hf
        obtain ⟨er0, er1⟩ := Prod.mk.inj hf
        clear hf 
        subst er0
        subst er1
        exact rt_i Cc hK hP hD hS dX4_tell_65
  · replace hf := (if_pos hc2).symm.trans hf
    refine lv_iconst (v := (-1 : Int32)) hx hb dX4_tell_11 (by decide) ?_
    replace hf := Option.some.inj hf
    obtain ⟨er0, er1⟩ := Prod.mk.inj hf
    clear hf 
    subst er0
    subst er1
    exact rt_i Cc hK hP hD hS dX4_tell_12
-- X4_draw
def fX4_draw (n : Nat) (d_traced : Int32) (f_kind : Nat → Int32) (f_cells : Int32) (p1 : Int32) : Option (Int32 × Int32) := (fX0_isCell n f_cells p1).bind fun q5_1 => if q5_1 = 0 then some ((-1 : Int32), d_traced) else gd p1 12 (if (f_kind p1.toNatClampNeg) = (2 : Int32) then (fX4_leave n d_traced (5 : Int32)).bind fun q28_1 => some ((80 : Int32), q28_1) else (fX4_leave n d_traced (4 : Int32)).bind fun q36_1 => some (p1, q36_1))
theorem mdX4_draw : yX4_draw.cls = RX4 ∧ yX4_draw.cls ≠ "java/lang/invoke/MethodHandle" ∧ yX4_draw.cls ≠ "java/lang/invoke/VarHandle" ∧ (parseMethodDescriptor yX4_draw.desc).map (fun d => d.parameters.length) = some 1 := by decide +kernel
set_option maxHeartbeats 4000000 in
set_option maxRecDepth 100000 in
theorem ctX4_draw (l : Launch) (D : va_G) (cI cS : ClassId) (a_d a_f a_t a_r a_z a_f_kind a_f_wet a_g a_g_kind a_g_wet a_r_cells a_r_hours a_r_cracked a_s0 a_s0_row a_s1 a_s1_row a_s2 a_s2_row a_s3 a_s3_row : Nat) (d_hour : Int32) (d_traced : Int32) (d_latestFault : Int32) (f_kind : Nat → Int32) (f_wet : Nat → Int32) (f_wide : Int32) (f_rows : Int32) (f_cells : Int32) (f_sun : Int32) (f_all : Int32) (f_firstColumn : Int32) (f_lastColumn : Int32) (t_hours : Int32) (t_opened : Int32) (t_firstWrong : Int32) (g_kind : Nat → Int32) (g_wet : Nat → Int32) (g_wide : Int32) (g_rows : Int32) (g_cells : Int32) (g_sun : Int32) (g_all : Int32) (g_firstColumn : Int32) (g_lastColumn : Int32) (r_cells : Nat → Int32) (r_hours : Nat → Int32) (r_cracked : Nat → Int32) (r_count : Int32) (S_row : Nat → Nat → Int32) (S_lane : Nat → Int32) (S_length : Nat → Int32) (p1 : Int32) (n : Nat) (r : Int32) (d_traced' : Int32) (hf : fX4_draw n d_traced f_kind f_cells p1 = some (r, d_traced')) : Ct l D (tysA cI cS) yX4_draw cX4_draw 2 (some .int) (Rm 1) [.ref a_d, .int p1] (W_D cI cS a_d a_f a_t a_r a_z a_f_kind a_f_wet a_g a_g_kind a_g_wet a_r_cells a_r_hours a_r_cracked a_s0 a_s0_row a_s1 a_s1_row a_s2 a_s2_row a_s3 a_s3_row d_hour d_traced d_latestFault f_kind f_wet f_wide f_rows f_cells f_sun f_all f_firstColumn f_lastColumn t_hours t_opened t_firstWrong g_kind g_wet g_wide g_rows g_cells g_sun g_all g_firstColumn g_lastColumn r_cells r_hours r_cracked r_count S_row S_lane S_length) (some (.int r)) (W_D cI cS a_d a_f a_t a_r a_z a_f_kind a_f_wet a_g a_g_kind a_g_wet a_r_cells a_r_hours a_r_cracked a_s0 a_s0_row a_s1 a_s1_row a_s2 a_s2_row a_s3 a_s3_row d_hour d_traced' d_latestFault f_kind f_wet f_wide f_rows f_cells f_sun f_all f_firstColumn f_lastColumn t_hours t_opened t_firstWrong g_kind g_wet g_wide g_rows g_cells g_sun g_all g_firstColumn g_lastColumn r_cells r_hours r_cracked r_count S_row S_lane S_length) := by
  refine Ct_of (by decide) (Nat.le_of_ble_eq_true rfl) ?_
  intro p e s m args below meth c A ls Cc hK hA hP hD hS hl
  have hl : lv_has ls 2 [(0, .ref a_d), (1, .int p1)] := hl
  obtain ⟨hx, hb, hr, hml, hown, hts, hlk, hnw⟩ := id Cc
  unfold fX4_draw at hf
  refine lv_aload_n hx hb dX4_draw_0 rfl (lv_at hl 0 rfl) ?_
  refine va_get (D := D) (ci := 4) (v := .ref a_f) (C := RX4) (T := TX4) (N := 7) hx hb hts inX4 hown hK hP 0 rfl rfl 0 (by decide) (hts _ tw_123) (fun _ h9 => h9) rfl dX4_draw_1 ?_
  refine lv_iload_n hx hb dX4_draw_4 rfl (lv_at hl 1 rfl) ?_
  obtain ⟨q5_1, hq1, hf⟩ := Option.bind_eq_some_iff.mp hf
  refine cV (ws' := (W_D cI cS a_d a_f a_t a_r a_z a_f_kind a_f_wet a_g a_g_kind a_g_wet a_r_cells a_r_hours a_r_cracked a_s0 a_s0_row a_s1 a_s1_row a_s2 a_s2_row a_s3 a_s3_row d_hour d_traced d_latestFault f_kind f_wet f_wide f_rows f_cells f_sun f_all f_firstColumn f_lastColumn t_hours t_opened t_firstWrong g_kind g_wet g_wide g_rows g_cells g_sun g_all g_firstColumn g_lastColumn r_cells r_hours r_cracked r_count S_row S_lane S_length)) (rest := []) (st1 := [.int q5_1]) Cc hK hA hP hD hS hl.1 (ctX0_isCell l D cI cS a_f a_f_kind a_f_wet f_kind f_wet f_wide f_rows f_cells f_sun f_all f_firstColumn f_lastColumn p1 n q5_1 hq1) ⟨tw_218, tw_215, tw_216, tw_217, tw_2⟩ mdX0_isCell ⟨rfl, rfl, Nat.le_of_ble_eq_true rfl, Nat.le_of_ble_eq_true rfl⟩ rfl dX4_draw_5 rfl (Nat.le_of_ble_eq_true rfl) ⟨Nat.zero_le _, Nat.zero_le _⟩ rfl rfl rfl [1, 2, 3] [0, 4, 5, 6, 7, 8, 9, 10, 11, 12, 13, 14, 15, 16, 17, 18, 19, 20] [0, 18, 19, 20, 1, 2, 3, 4, 5, 6, 7, 8, 9, 10, 11, 12, 13, 14, 15, 16, 17] rfl rfl (by decide) rfl (fun H locs hP hD hS => ?_)
  refine lv_if_ne (tgt := 13) hx hb dX4_draw_8 (by decide) (fun hc2 => ?_) (fun hc2 => ?_)
  · replace hf := (if_neg hc2).symm.trans hf
    refine lv_aload_n hx hb dX4_draw_13 rfl (lv_at hl 0 rfl) ?_
    refine va_get (D := D) (ci := 4) (v := .ref a_f) (C := RX4) (T := TX4) (N := 7) hx hb hts inX4 hown hK hP 0 rfl rfl 0 (by decide) (hts _ tw_123) (fun _ h9 => h9) rfl dX4_draw_14 ?_
    refine va_getN (D := D) (ci := 0) (v := .ref a_f_kind) (C := RX0) (T := TX0) (N := 9) hx hb hts inX0 hown hK hP 1 rfl rfl 0 (by decide) (va_Nw.use rfl (hnw _ nn_0)) (fun _ h9 => h9) rfl dX4_draw_17 ?_
    refine lv_iload_n hx hb dX4_draw_20 rfl (lv_at hl 1 rfl) ?_
    obtain ⟨hin, hf⟩ := gd_some hf
    refine va_iald hx hb hK hP 2 0 rfl rfl hin dX4_draw_21 ?_
    refine lv_iconst (v := (2 : Int32)) hx hb dX4_draw_22 (by decide) ?_
    refine lv_icmp_ne (tgt := 34) hx hb dX4_draw_23 (by decide) (fun hc3 => ?_) (fun hc3 => ?_)
    · replace hf := (if_neg hc3).symm.trans hf
      refine lv_aload_n hx hb dX4_draw_34 rfl (lv_at hl 0 rfl) ?_
      refine lv_iconst (v := (4 : Int32)) hx hb dX4_draw_35 (by decide) ?_
      obtain ⟨q36_1, hq4, hf⟩ := Option.bind_eq_some_iff.mp hf
      refine cV (ws' := (W_D cI cS a_d a_f a_t a_r a_z a_f_kind a_f_wet a_g a_g_kind a_g_wet a_r_cells a_r_hours a_r_cracked a_s0 a_s0_row a_s1 a_s1_row a_s2 a_s2_row a_s3 a_s3_row d_hour q36_1 d_latestFault f_kind f_wet f_wide f_rows f_cells f_sun f_all f_firstColumn f_lastColumn t_hours t_opened t_firstWrong g_kind g_wet g_wide g_rows g_cells g_sun g_all g_firstColumn g_lastColumn r_cells r_hours r_cracked r_count S_row S_lane S_length)) (rest := []) (st1 := []) Cc hK hA hP hD hS hl.1 (ctX4_leave l D cI cS a_d a_f a_t a_r a_z d_hour d_traced d_latestFault (4 : Int32) n q36_1 hq4) ⟨tw_468, tw_465, tw_467, tp_8, tw_1⟩ mdX4_leave ⟨rfl, rfl, Nat.le_of_ble_eq_true rfl, Nat.le_of_ble_eq_true rfl⟩ rfl dX4_draw_36 rfl (Nat.le_of_ble_eq_true rfl) ⟨Nat.zero_le _, Nat.zero_le _⟩ rfl rfl rfl [0] [1, 2, 3, 4, 5, 6, 7, 8, 9, 10, 11, 12, 13, 14, 15, 16, 17, 18, 19, 20] [20, 0, 1, 2, 3, 4, 5, 6, 7, 8, 9, 10, 11, 12, 13, 14, 15, 16, 17, 18, 19] rfl rfl (by decide) rfl (fun H locs hP hD hS => ?_)
      refine lv_iload_n hx hb dX4_draw_39 rfl (lv_at hl 1 rfl) ?_
      replace hf := Option.some.inj hf
      obtain ⟨er0, er1⟩ := Prod.mk.inj hf
      clear hf 
      subst er0
      subst er1
      exact rt_i Cc hK hP hD hS dX4_draw_40
    · replace hf := (if_pos hc3).symm.trans hf
      refine lv_aload_n hx hb dX4_draw_26 rfl (lv_at hl 0 rfl) ?_
      refine lv_iconst (v := (5 : Int32)) hx hb dX4_draw_27 (by decide) ?_
      obtain ⟨q28_1, hq5, hf⟩ := Option.bind_eq_some_iff.mp hf
      refine cV (ws' := (W_D cI cS a_d a_f a_t a_r a_z a_f_kind a_f_wet a_g a_g_kind a_g_wet a_r_cells a_r_hours a_r_cracked a_s0 a_s0_row a_s1 a_s1_row a_s2 a_s2_row a_s3 a_s3_row d_hour q28_1 d_latestFault f_kind f_wet f_wide f_rows f_cells f_sun f_all f_firstColumn f_lastColumn t_hours t_opened t_firstWrong g_kind g_wet g_wide g_rows g_cells g_sun g_all g_firstColumn g_lastColumn r_cells r_hours r_cracked r_count S_row S_lane S_length)) (rest := []) (st1 := []) Cc hK hA hP hD hS hl.1 (ctX4_leave l D cI cS a_d a_f a_t a_r a_z d_hour d_traced d_latestFault (5 : Int32) n q28_1 hq5) ⟨tw_468, tw_465, tw_467, tp_8, tw_1⟩ mdX4_leave ⟨rfl, rfl, Nat.le_of_ble_eq_true rfl, Nat.le_of_ble_eq_true rfl⟩ rfl dX4_draw_28 rfl (Nat.le_of_ble_eq_true rfl) ⟨Nat.zero_le _, Nat.zero_le _⟩ rfl rfl rfl [0] [1, 2, 3, 4, 5, 6, 7, 8, 9, 10, 11, 12, 13, 14, 15, 16, 17, 18, 19, 20] [20, 0, 1, 2, 3, 4, 5, 6, 7, 8, 9, 10, 11, 12, 13, 14, 15, 16, 17, 18, 19] rfl rfl (by decide) rfl (fun H locs hP hD hS => ?_)
      refine lv_bipush (v := (80 : Int32)) hx hb dX4_draw_31 (by decide) ?_
      replace hf := Option.some.inj hf
      obtain ⟨er0, er1⟩ := Prod.mk.inj hf
      clear hf 
      subst er0
      subst er1
      exact rt_i Cc hK hP hD hS dX4_draw_33
  · replace hf := (if_pos hc2).symm.trans hf
    refine lv_iconst (v := (-1 : Int32)) hx hb dX4_draw_11 (by decide) ?_
    replace hf := Option.some.inj hf
    obtain ⟨er0, er1⟩ := Prod.mk.inj hf
    clear hf 
    subst er0
    subst er1
    exact rt_i Cc hK hP hD hS dX4_draw_12
-- X4_as
def fX4_as (n : Nat) (d_latestFault : Int32) (f_kind : Nat → Int32) (f_cells : Int32) (p1 : Int32) (p2 : Int32) : Option (Int32 × Int32) := (fX0_isCell n f_cells p1).bind fun q10_1 => if q10_1 = 0 then some ((-1 : Int32), (0 : Int32)) else (fX4_within n p2 (0 : Int32) (2 : Int32)).bind fun q21_1 => if q21_1 = 0 then some ((-2 : Int32), (0 : Int32)) else gd p1 12 (if p2 ≤ (f_kind p1.toNatClampNeg) then some ((1 : Int32), (0 : Int32)) else (fX4_faulted n (0 : Int32) (2 : Int32)).bind fun q45_1 => some (q45_1.1, q45_1.2))
theorem mdX4_as : yX4_as.cls = RX4 ∧ yX4_as.cls ≠ "java/lang/invoke/MethodHandle" ∧ yX4_as.cls ≠ "java/lang/invoke/VarHandle" ∧ (parseMethodDescriptor yX4_as.desc).map (fun d => d.parameters.length) = some 2 := by decide +kernel
set_option maxHeartbeats 4000000 in
set_option maxRecDepth 100000 in
theorem ctX4_as (l : Launch) (D : va_G) (cI cS : ClassId) (a_d a_f a_t a_r a_z a_f_kind a_f_wet a_g a_g_kind a_g_wet a_r_cells a_r_hours a_r_cracked a_s0 a_s0_row a_s1 a_s1_row a_s2 a_s2_row a_s3 a_s3_row : Nat) (d_hour : Int32) (d_traced : Int32) (d_latestFault : Int32) (f_kind : Nat → Int32) (f_wet : Nat → Int32) (f_wide : Int32) (f_rows : Int32) (f_cells : Int32) (f_sun : Int32) (f_all : Int32) (f_firstColumn : Int32) (f_lastColumn : Int32) (t_hours : Int32) (t_opened : Int32) (t_firstWrong : Int32) (g_kind : Nat → Int32) (g_wet : Nat → Int32) (g_wide : Int32) (g_rows : Int32) (g_cells : Int32) (g_sun : Int32) (g_all : Int32) (g_firstColumn : Int32) (g_lastColumn : Int32) (r_cells : Nat → Int32) (r_hours : Nat → Int32) (r_cracked : Nat → Int32) (r_count : Int32) (S_row : Nat → Nat → Int32) (S_lane : Nat → Int32) (S_length : Nat → Int32) (p1 : Int32) (p2 : Int32) (n : Nat) (r : Int32) (d_latestFault' : Int32) (hf : fX4_as n d_latestFault f_kind f_cells p1 p2 = some (r, d_latestFault')) : Ct l D (tysA cI cS) yX4_as cX4_as 3 (some .int) (Rm 1) [.ref a_d, .int p1, .int p2] (W_D cI cS a_d a_f a_t a_r a_z a_f_kind a_f_wet a_g a_g_kind a_g_wet a_r_cells a_r_hours a_r_cracked a_s0 a_s0_row a_s1 a_s1_row a_s2 a_s2_row a_s3 a_s3_row d_hour d_traced d_latestFault f_kind f_wet f_wide f_rows f_cells f_sun f_all f_firstColumn f_lastColumn t_hours t_opened t_firstWrong g_kind g_wet g_wide g_rows g_cells g_sun g_all g_firstColumn g_lastColumn r_cells r_hours r_cracked r_count S_row S_lane S_length) (some (.int r)) (W_D cI cS a_d a_f a_t a_r a_z a_f_kind a_f_wet a_g a_g_kind a_g_wet a_r_cells a_r_hours a_r_cracked a_s0 a_s0_row a_s1 a_s1_row a_s2 a_s2_row a_s3 a_s3_row d_hour d_traced d_latestFault' f_kind f_wet f_wide f_rows f_cells f_sun f_all f_firstColumn f_lastColumn t_hours t_opened t_firstWrong g_kind g_wet g_wide g_rows g_cells g_sun g_all g_firstColumn g_lastColumn r_cells r_hours r_cracked r_count S_row S_lane S_length) := by
  refine Ct_of (by decide) (Nat.le_of_ble_eq_true rfl) ?_
  intro p e s m args below meth c A ls Cc hK hA hP hD hS hl
  have hl : lv_has ls 3 [(0, .ref a_d), (1, .int p1), (2, .int p2)] := hl
  obtain ⟨hx, hb, hr, hml, hown, hts, hlk, hnw⟩ := id Cc
  unfold fX4_as at hf
  refine lv_aload_n hx hb dX4_as_0 rfl (lv_at hl 0 rfl) ?_
  refine lv_iconst (v := (0 : Int32)) hx hb dX4_as_1 (by decide) ?_
  refine va_put (D := D) (ci := 4) (v := .int (0 : Int32)) (ty := .int) (C := RX4) (T := TX4) (N := 7) hx hb hts inX4 tyX4 tyX4_ok nmX4 hown hK hP hD hS 0 rfl rfl 6 (by decide) (hts _ tw_129) (fun _ h9 => h9) rfl (tyX4_ok 6 (by decide)) rfl rfl (Nat.le_of_ble_eq_true rfl) dX4_as_2 (fun H locs hP hD hS => ?_)
  have hP : va_P D classes (W_D cI cS a_d a_f a_t a_r a_z a_f_kind a_f_wet a_g a_g_kind a_g_wet a_r_cells a_r_hours a_r_cracked a_s0 a_s0_row a_s1 a_s1_row a_s2 a_s2_row a_s3 a_s3_row d_hour d_traced (0 : Int32) f_kind f_wet f_wide f_rows f_cells f_sun f_all f_firstColumn f_lastColumn t_hours t_opened t_firstWrong g_kind g_wet g_wide g_rows g_cells g_sun g_all g_firstColumn g_lastColumn r_cells r_hours r_cracked r_count S_row S_lane S_length) H := hP
  have hD : va_D A (W_D cI cS a_d a_f a_t a_r a_z a_f_kind a_f_wet a_g a_g_kind a_g_wet a_r_cells a_r_hours a_r_cracked a_s0 a_s0_row a_s1 a_s1_row a_s2 a_s2_row a_s3 a_s3_row d_hour d_traced (0 : Int32) f_kind f_wet f_wide f_rows f_cells f_sun f_all f_firstColumn f_lastColumn t_hours t_opened t_firstWrong g_kind g_wet g_wide g_rows g_cells g_sun g_all g_firstColumn g_lastColumn r_cells r_hours r_cracked r_count S_row S_lane S_length) := hD
  refine lv_aload_n hx hb dX4_as_5 rfl (lv_at hl 0 rfl) ?_
  refine va_get (D := D) (ci := 4) (v := .ref a_f) (C := RX4) (T := TX4) (N := 7) hx hb hts inX4 hown hK hP 0 rfl rfl 0 (by decide) (hts _ tw_123) (fun _ h9 => h9) rfl dX4_as_6 ?_
  refine lv_iload_n hx hb dX4_as_9 rfl (lv_at hl 1 rfl) ?_
  obtain ⟨q10_1, hq1, hf⟩ := Option.bind_eq_some_iff.mp hf
  refine cV (ws' := (W_D cI cS a_d a_f a_t a_r a_z a_f_kind a_f_wet a_g a_g_kind a_g_wet a_r_cells a_r_hours a_r_cracked a_s0 a_s0_row a_s1 a_s1_row a_s2 a_s2_row a_s3 a_s3_row d_hour d_traced (0 : Int32) f_kind f_wet f_wide f_rows f_cells f_sun f_all f_firstColumn f_lastColumn t_hours t_opened t_firstWrong g_kind g_wet g_wide g_rows g_cells g_sun g_all g_firstColumn g_lastColumn r_cells r_hours r_cracked r_count S_row S_lane S_length)) (rest := []) (st1 := [.int q10_1]) Cc hK hA hP hD hS hl.1 (ctX0_isCell l D cI cS a_f a_f_kind a_f_wet f_kind f_wet f_wide f_rows f_cells f_sun f_all f_firstColumn f_lastColumn p1 n q10_1 hq1) ⟨tw_218, tw_215, tw_216, tw_217, tw_2⟩ mdX0_isCell ⟨rfl, rfl, Nat.le_of_ble_eq_true rfl, Nat.le_of_ble_eq_true rfl⟩ rfl dX4_as_10 rfl (Nat.le_of_ble_eq_true rfl) ⟨Nat.zero_le _, Nat.zero_le _⟩ rfl rfl rfl [1, 2, 3] [0, 4, 5, 6, 7, 8, 9, 10, 11, 12, 13, 14, 15, 16, 17, 18, 19, 20] [0, 18, 19, 20, 1, 2, 3, 4, 5, 6, 7, 8, 9, 10, 11, 12, 13, 14, 15, 16, 17] rfl rfl (by decide) rfl (fun H locs hP hD hS => ?_)
  refine lv_if_ne (tgt := 18) hx hb dX4_as_13 (by decide) (fun hc2 => ?_) (fun hc2 => ?_)
  · replace hf := (if_neg hc2).symm.trans hf
    refine lv_iload_n hx hb dX4_as_18 rfl (lv_at hl 2 rfl) ?_
    refine lv_iconst (v := (0 : Int32)) hx hb dX4_as_19 (by decide) ?_
    refine lv_iconst (v := (2 : Int32)) hx hb dX4_as_20 (by decide) ?_
    obtain ⟨q21_1, hq3, hf⟩ := Option.bind_eq_some_iff.mp hf
    refine cSt (ws' := (W_D cI cS a_d a_f a_t a_r a_z a_f_kind a_f_wet a_g a_g_kind a_g_wet a_r_cells a_r_hours a_r_cracked a_s0 a_s0_row a_s1 a_s1_row a_s2 a_s2_row a_s3 a_s3_row d_hour d_traced (0 : Int32) f_kind f_wet f_wide f_rows f_cells f_sun f_all f_firstColumn f_lastColumn t_hours t_opened t_firstWrong g_kind g_wet g_wide g_rows g_cells g_sun g_all g_firstColumn g_lastColumn r_cells r_hours r_cracked r_count S_row S_lane S_length)) (rest := []) (st1 := [.int q21_1]) Cc hK hA hP hD hS hl.1 (ctX4_within l D cI cS   p2 (0 : Int32) (2 : Int32) n q21_1 hq3) ⟨tw_154, tw_152, tw_153, tw_1⟩ mdX4_within ⟨rfl, rfl, Nat.le_of_ble_eq_true rfl, Nat.le_of_ble_eq_true rfl⟩ rfl dX4_as_21 rfl (Nat.le_of_ble_eq_true rfl) ⟨Nat.zero_le _, Nat.zero_le _⟩ rfl [] [0, 1, 2, 3, 4, 5, 6, 7, 8, 9, 10, 11, 12, 13, 14, 15, 16, 17, 18, 19, 20] [0, 1, 2, 3, 4, 5, 6, 7, 8, 9, 10, 11, 12, 13, 14, 15, 16, 17, 18, 19, 20] rfl rfl (by decide) rfl (fun H locs hP hD hS => ?_)
    refine lv_if_ne (tgt := 30) hx hb dX4_as_24 (by decide) (fun hc4 => ?_) (fun hc4 => ?_)
    · replace hf := (if_neg hc4).symm.trans hf
      refine lv_aload_n hx hb dX4_as_30 rfl (lv_at hl 0 rfl) ?_
      refine va_get (D := D) (ci := 4) (v := .ref a_f) (C := RX4) (T := TX4) (N := 7) hx hb hts inX4 hown hK hP 0 rfl rfl 0 (by decide) (hts _ tw_123) (fun _ h9 => h9) rfl dX4_as_31 ?_
      refine va_getN (D := D) (ci := 0) (v := .ref a_f_kind) (C := RX0) (T := TX0) (N := 9) hx hb hts inX0 hown hK hP 1 rfl rfl 0 (by decide) (va_Nw.use rfl (hnw _ nn_0)) (fun _ h9 => h9) rfl dX4_as_34 ?_
      refine lv_iload_n hx hb dX4_as_37 rfl (lv_at hl 1 rfl) ?_
      obtain ⟨hin, hf⟩ := gd_some hf
      refine va_iald hx hb hK hP 2 0 rfl rfl hin dX4_as_38 ?_
      refine lv_iload_n hx hb dX4_as_39 rfl (lv_at hl 2 rfl) ?_
      refine lv_icmp_ge (tgt := 49) hx hb dX4_as_40 (by decide) (fun hc5 => ?_) (fun hc5 => ?_)
      · replace hf := (if_pos hc5).symm.trans hf
        refine lv_iconst (v := (1 : Int32)) hx hb dX4_as_49 (by decide) ?_
        replace hf := Option.some.inj hf
        obtain ⟨er0, er1⟩ := Prod.mk.inj hf
        clear hf 
        subst er0
        subst er1
        exact rt_i Cc hK hP hD hS dX4_as_50
      · replace hf := (if_neg hc5).symm.trans hf
        refine lv_aload_n hx hb dX4_as_43 rfl (lv_at hl 0 rfl) ?_
        refine lv_iconst (v := (2 : Int32)) hx hb dX4_as_44 (by decide) ?_
        obtain ⟨q45_1, hq6, hf⟩ := Option.bind_eq_some_iff.mp hf
        refine cV (ws' := (W_D cI cS a_d a_f a_t a_r a_z a_f_kind a_f_wet a_g a_g_kind a_g_wet a_r_cells a_r_hours a_r_cracked a_s0 a_s0_row a_s1 a_s1_row a_s2 a_s2_row a_s3 a_s3_row d_hour d_traced q45_1.2 f_kind f_wet f_wide f_rows f_cells f_sun f_all f_firstColumn f_lastColumn t_hours t_opened t_firstWrong g_kind g_wet g_wide g_rows g_cells g_sun g_all g_firstColumn g_lastColumn r_cells r_hours r_cracked r_count S_row S_lane S_length)) (rest := []) (st1 := [.int q45_1.1]) Cc hK hA hP hD hS hl.1 (ctX4_faulted l D cI cS a_d a_f a_t a_r a_z d_hour d_traced (0 : Int32) (2 : Int32) n q45_1.1 q45_1.2 hq6) ⟨tw_173, tw_170, tw_172, tp_0, tw_1⟩ mdX4_faulted ⟨rfl, rfl, Nat.le_of_ble_eq_true rfl, Nat.le_of_ble_eq_true rfl⟩ rfl dX4_as_45 rfl (Nat.le_of_ble_eq_true rfl) ⟨Nat.zero_le _, Nat.zero_le _⟩ rfl rfl rfl [0] [1, 2, 3, 4, 5, 6, 7, 8, 9, 10, 11, 12, 13, 14, 15, 16, 17, 18, 19, 20] [20, 0, 1, 2, 3, 4, 5, 6, 7, 8, 9, 10, 11, 12, 13, 14, 15, 16, 17, 18, 19] rfl rfl (by decide) rfl (fun H locs hP hD hS => ?_)
        replace hf := Option.some.inj hf
        obtain ⟨er0, er1⟩ := Prod.mk.inj hf
        clear hf 
        subst er0
        subst er1
        exact rt_i Cc hK hP hD hS dX4_as_48
    · replace hf := (if_pos hc4).symm.trans hf
      refine lv_bipush (v := (-2 : Int32)) hx hb dX4_as_27 (by decide) ?_
      replace hf := Option.some.inj hf
      obtain ⟨er0, er1⟩ := Prod.mk.inj hf
      clear hf 
      subst er0
      subst er1
      exact rt_i Cc hK hP hD hS dX4_as_29
  · replace hf := (if_pos hc2).symm.trans hf
    refine lv_iconst (v := (-1 : Int32)) hx hb dX4_as_16 (by decide) ?_
    replace hf := Option.some.inj hf
    obtain ⟨er0, er1⟩ := Prod.mk.inj hf
    clear hf 
    subst er0
    subst er1
    exact rt_i Cc hK hP hD hS dX4_as_17
-- X4_trace
def fX4_trace (n : Nat) (d_traced : Int32)  : Option (Int32) := some (d_traced)
theorem mdX4_trace : yX4_trace.cls = RX4 ∧ yX4_trace.cls ≠ "java/lang/invoke/MethodHandle" ∧ yX4_trace.cls ≠ "java/lang/invoke/VarHandle" ∧ (parseMethodDescriptor yX4_trace.desc).map (fun d => d.parameters.length) = some 0 := by decide +kernel
set_option maxHeartbeats 4000000 in
set_option maxRecDepth 100000 in
theorem ctX4_trace (l : Launch) (D : va_G) (cI cS : ClassId) (a_d a_f a_t a_r a_z a_f_kind a_f_wet a_g a_g_kind a_g_wet a_r_cells a_r_hours a_r_cracked a_s0 a_s0_row a_s1 a_s1_row a_s2 a_s2_row a_s3 a_s3_row : Nat) (d_hour : Int32) (d_traced : Int32) (d_latestFault : Int32) (f_kind : Nat → Int32) (f_wet : Nat → Int32) (f_wide : Int32) (f_rows : Int32) (f_cells : Int32) (f_sun : Int32) (f_all : Int32) (f_firstColumn : Int32) (f_lastColumn : Int32) (t_hours : Int32) (t_opened : Int32) (t_firstWrong : Int32) (g_kind : Nat → Int32) (g_wet : Nat → Int32) (g_wide : Int32) (g_rows : Int32) (g_cells : Int32) (g_sun : Int32) (g_all : Int32) (g_firstColumn : Int32) (g_lastColumn : Int32) (r_cells : Nat → Int32) (r_hours : Nat → Int32) (r_cracked : Nat → Int32) (r_count : Int32) (S_row : Nat → Nat → Int32) (S_lane : Nat → Int32) (S_length : Nat → Int32)  (n : Nat) (r : Int32) (hf : fX4_trace n d_traced  = some (r)) : Ct l D (tysA cI cS) yX4_trace cX4_trace 1 (some .int) (Rm 0) [.ref a_d] (W_D cI cS a_d a_f a_t a_r a_z a_f_kind a_f_wet a_g a_g_kind a_g_wet a_r_cells a_r_hours a_r_cracked a_s0 a_s0_row a_s1 a_s1_row a_s2 a_s2_row a_s3 a_s3_row d_hour d_traced d_latestFault f_kind f_wet f_wide f_rows f_cells f_sun f_all f_firstColumn f_lastColumn t_hours t_opened t_firstWrong g_kind g_wet g_wide g_rows g_cells g_sun g_all g_firstColumn g_lastColumn r_cells r_hours r_cracked r_count S_row S_lane S_length) (some (.int r)) (W_D cI cS a_d a_f a_t a_r a_z a_f_kind a_f_wet a_g a_g_kind a_g_wet a_r_cells a_r_hours a_r_cracked a_s0 a_s0_row a_s1 a_s1_row a_s2 a_s2_row a_s3 a_s3_row d_hour d_traced d_latestFault f_kind f_wet f_wide f_rows f_cells f_sun f_all f_firstColumn f_lastColumn t_hours t_opened t_firstWrong g_kind g_wet g_wide g_rows g_cells g_sun g_all g_firstColumn g_lastColumn r_cells r_hours r_cracked r_count S_row S_lane S_length) := by
  refine Ct_of (by decide) (Nat.le_of_ble_eq_true rfl) ?_
  intro p e s m args below meth c A ls Cc hK hA hP hD hS hl
  have hl : lv_has ls 1 [(0, .ref a_d)] := hl
  obtain ⟨hx, hb, hr, hml, hown, hts, hlk, hnw⟩ := id Cc
  unfold fX4_trace at hf
  refine lv_aload_n hx hb dX4_trace_0 rfl (lv_at hl 0 rfl) ?_
  refine va_get (D := D) (ci := 4) (v := .int d_traced) (C := RX4) (T := TX4) (N := 7) hx hb hts inX4 hown hK hP 0 rfl rfl 5 (by decide) (hts _ tw_128) (fun _ h9 => h9) rfl dX4_trace_1 ?_
  obtain rfl := Option.some.inj hf
  exact rt_i Cc hK hP hD hS dX4_trace_4
-- X4_fault
def fX4_fault (n : Nat) (d_latestFault : Int32)  : Option (Int32) := some (d_latestFault)
theorem mdX4_fault : yX4_fault.cls = RX4 ∧ yX4_fault.cls ≠ "java/lang/invoke/MethodHandle" ∧ yX4_fault.cls ≠ "java/lang/invoke/VarHandle" ∧ (parseMethodDescriptor yX4_fault.desc).map (fun d => d.parameters.length) = some 0 := by decide +kernel
set_option maxHeartbeats 4000000 in
set_option maxRecDepth 100000 in
theorem ctX4_fault (l : Launch) (D : va_G) (cI cS : ClassId) (a_d a_f a_t a_r a_z a_f_kind a_f_wet a_g a_g_kind a_g_wet a_r_cells a_r_hours a_r_cracked a_s0 a_s0_row a_s1 a_s1_row a_s2 a_s2_row a_s3 a_s3_row : Nat) (d_hour : Int32) (d_traced : Int32) (d_latestFault : Int32) (f_kind : Nat → Int32) (f_wet : Nat → Int32) (f_wide : Int32) (f_rows : Int32) (f_cells : Int32) (f_sun : Int32) (f_all : Int32) (f_firstColumn : Int32) (f_lastColumn : Int32) (t_hours : Int32) (t_opened : Int32) (t_firstWrong : Int32) (g_kind : Nat → Int32) (g_wet : Nat → Int32) (g_wide : Int32) (g_rows : Int32) (g_cells : Int32) (g_sun : Int32) (g_all : Int32) (g_firstColumn : Int32) (g_lastColumn : Int32) (r_cells : Nat → Int32) (r_hours : Nat → Int32) (r_cracked : Nat → Int32) (r_count : Int32) (S_row : Nat → Nat → Int32) (S_lane : Nat → Int32) (S_length : Nat → Int32)  (n : Nat) (r : Int32) (hf : fX4_fault n d_latestFault  = some (r)) : Ct l D (tysA cI cS) yX4_fault cX4_fault 1 (some .int) (Rm 0) [.ref a_d] (W_D cI cS a_d a_f a_t a_r a_z a_f_kind a_f_wet a_g a_g_kind a_g_wet a_r_cells a_r_hours a_r_cracked a_s0 a_s0_row a_s1 a_s1_row a_s2 a_s2_row a_s3 a_s3_row d_hour d_traced d_latestFault f_kind f_wet f_wide f_rows f_cells f_sun f_all f_firstColumn f_lastColumn t_hours t_opened t_firstWrong g_kind g_wet g_wide g_rows g_cells g_sun g_all g_firstColumn g_lastColumn r_cells r_hours r_cracked r_count S_row S_lane S_length) (some (.int r)) (W_D cI cS a_d a_f a_t a_r a_z a_f_kind a_f_wet a_g a_g_kind a_g_wet a_r_cells a_r_hours a_r_cracked a_s0 a_s0_row a_s1 a_s1_row a_s2 a_s2_row a_s3 a_s3_row d_hour d_traced d_latestFault f_kind f_wet f_wide f_rows f_cells f_sun f_all f_firstColumn f_lastColumn t_hours t_opened t_firstWrong g_kind g_wet g_wide g_rows g_cells g_sun g_all g_firstColumn g_lastColumn r_cells r_hours r_cracked r_count S_row S_lane S_length) := by
  refine Ct_of (by decide) (Nat.le_of_ble_eq_true rfl) ?_
  intro p e s m args below meth c A ls Cc hK hA hP hD hS hl
  have hl : lv_has ls 1 [(0, .ref a_d)] := hl
  obtain ⟨hx, hb, hr, hml, hown, hts, hlk, hnw⟩ := id Cc
  unfold fX4_fault at hf
  refine lv_aload_n hx hb dX4_fault_0 rfl (lv_at hl 0 rfl) ?_
  refine va_get (D := D) (ci := 4) (v := .int d_latestFault) (C := RX4) (T := TX4) (N := 7) hx hb hts inX4 hown hK hP 0 rfl rfl 6 (by decide) (hts _ tw_129) (fun _ h9 => h9) rfl dX4_fault_1 ?_
  obtain rfl := Option.some.inj hf
  exact rt_i Cc hK hP hD hS dX4_fault_4
-- X4_many
def fX4_many (n : Nat) (d_hour : Int32) (f_wet : Nat → Int32) (f_wide : Int32) (f_rows : Int32) (f_cells : Int32) (f_sun : Int32) (r_count : Int32) (p1 : Int32) : Option (Int32) := if p1 = 0 then some (f_wide) else if p1 = 1 then some (f_rows) else if p1 = 2 then some (f_sun) else if p1 = 3 then some (d_hour) else if p1 = 4 then (fX0_crackedSet n f_wet f_cells).bind fun q73_1 => (fJ6_bitCount_0f7a4 n q73_1).bind fun q76_2 => some (q76_2) else if p1 = 5 then some (r_count) else some ((-2 : Int32))
theorem mdX4_many : yX4_many.cls = RX4 ∧ yX4_many.cls ≠ "java/lang/invoke/MethodHandle" ∧ yX4_many.cls ≠ "java/lang/invoke/VarHandle" ∧ (parseMethodDescriptor yX4_many.desc).map (fun d => d.parameters.length) = some 1 := by decide +kernel
set_option maxHeartbeats 4000000 in
set_option maxRecDepth 100000 in
theorem ctX4_many (l : Launch) (D : va_G) (cI cS : ClassId) (a_d a_f a_t a_r a_z a_f_kind a_f_wet a_g a_g_kind a_g_wet a_r_cells a_r_hours a_r_cracked a_s0 a_s0_row a_s1 a_s1_row a_s2 a_s2_row a_s3 a_s3_row : Nat) (d_hour : Int32) (d_traced : Int32) (d_latestFault : Int32) (f_kind : Nat → Int32) (f_wet : Nat → Int32) (f_wide : Int32) (f_rows : Int32) (f_cells : Int32) (f_sun : Int32) (f_all : Int32) (f_firstColumn : Int32) (f_lastColumn : Int32) (t_hours : Int32) (t_opened : Int32) (t_firstWrong : Int32) (g_kind : Nat → Int32) (g_wet : Nat → Int32) (g_wide : Int32) (g_rows : Int32) (g_cells : Int32) (g_sun : Int32) (g_all : Int32) (g_firstColumn : Int32) (g_lastColumn : Int32) (r_cells : Nat → Int32) (r_hours : Nat → Int32) (r_cracked : Nat → Int32) (r_count : Int32) (S_row : Nat → Nat → Int32) (S_lane : Nat → Int32) (S_length : Nat → Int32) (p1 : Int32) (n : Nat) (r : Int32) (hf : fX4_many n d_hour f_wet f_wide f_rows f_cells f_sun r_count p1 = some (r)) : Ct l D (tysA cI cS) yX4_many cX4_many 2 (some .int) (Rm 1) [.ref a_d, .int p1] (W_D cI cS a_d a_f a_t a_r a_z a_f_kind a_f_wet a_g a_g_kind a_g_wet a_r_cells a_r_hours a_r_cracked a_s0 a_s0_row a_s1 a_s1_row a_s2 a_s2_row a_s3 a_s3_row d_hour d_traced d_latestFault f_kind f_wet f_wide f_rows f_cells f_sun f_all f_firstColumn f_lastColumn t_hours t_opened t_firstWrong g_kind g_wet g_wide g_rows g_cells g_sun g_all g_firstColumn g_lastColumn r_cells r_hours r_cracked r_count S_row S_lane S_length) (some (.int r)) (W_D cI cS a_d a_f a_t a_r a_z a_f_kind a_f_wet a_g a_g_kind a_g_wet a_r_cells a_r_hours a_r_cracked a_s0 a_s0_row a_s1 a_s1_row a_s2 a_s2_row a_s3 a_s3_row d_hour d_traced d_latestFault f_kind f_wet f_wide f_rows f_cells f_sun f_all f_firstColumn f_lastColumn t_hours t_opened t_firstWrong g_kind g_wet g_wide g_rows g_cells g_sun g_all g_firstColumn g_lastColumn r_cells r_hours r_cracked r_count S_row S_lane S_length) := by
  refine Ct_of (by decide) (Nat.le_of_ble_eq_true rfl) ?_
  intro p e s m args below meth c A ls Cc hK hA hP hD hS hl
  have hl : lv_has ls 2 [(0, .ref a_d), (1, .int p1)] := hl
  obtain ⟨hx, hb, hr, hml, hown, hts, hlk, hnw⟩ := id Cc
  unfold fX4_many at hf
  refine lv_iload_n hx hb dX4_many_0 rfl (lv_at hl 1 rfl) ?_
  by_cases hs1_0 : p1 = 0
  · replace hf := (if_pos hs1_0).symm.trans hf
    refine lv_tableIn (tgt := 40) (off := 39) hx hb dX4_many_1 (by rw [hs1_0]; decide) (by rw [hs1_0]; decide) (by rw [hs1_0]; decide) (by decide) ?_
    refine lv_aload_n hx hb dX4_many_40 rfl (lv_at hl 0 rfl) ?_
    refine va_get (D := D) (ci := 4) (v := .ref a_f) (C := RX4) (T := TX4) (N := 7) hx hb hts inX4 hown hK hP 0 rfl rfl 0 (by decide) (hts _ tw_123) (fun _ h9 => h9) rfl dX4_many_41 ?_
    refine va_getN (D := D) (ci := 0) (v := .int f_wide) (C := RX0) (T := TX0) (N := 9) hx hb hts inX0 hown hK hP 1 rfl rfl 2 (by decide) (va_Nw.use rfl (hnw _ nn_3)) (fun _ h9 => h9) rfl dX4_many_44 ?_
    obtain rfl := Option.some.inj hf
    exact rt_i Cc hK hP hD hS dX4_many_47
  · replace hf := (if_neg hs1_0).symm.trans hf
    by_cases hs1_1 : p1 = 1
    · replace hf := (if_pos hs1_1).symm.trans hf
      refine lv_tableIn (tgt := 48) (off := 47) hx hb dX4_many_1 (by rw [hs1_1]; decide) (by rw [hs1_1]; decide) (by rw [hs1_1]; decide) (by decide) ?_
      refine lv_aload_n hx hb dX4_many_48 rfl (lv_at hl 0 rfl) ?_
      refine va_get (D := D) (ci := 4) (v := .ref a_f) (C := RX4) (T := TX4) (N := 7) hx hb hts inX4 hown hK hP 0 rfl rfl 0 (by decide) (hts _ tw_123) (fun _ h9 => h9) rfl dX4_many_49 ?_
      refine va_getN (D := D) (ci := 0) (v := .int f_rows) (C := RX0) (T := TX0) (N := 9) hx hb hts inX0 hown hK hP 1 rfl rfl 3 (by decide) (va_Nw.use rfl (hnw _ nn_4)) (fun _ h9 => h9) rfl dX4_many_52 ?_
      obtain rfl := Option.some.inj hf
      exact rt_i Cc hK hP hD hS dX4_many_55
    · replace hf := (if_neg hs1_1).symm.trans hf
      by_cases hs1_2 : p1 = 2
      · replace hf := (if_pos hs1_2).symm.trans hf
        refine lv_tableIn (tgt := 56) (off := 55) hx hb dX4_many_1 (by rw [hs1_2]; decide) (by rw [hs1_2]; decide) (by rw [hs1_2]; decide) (by decide) ?_
        refine lv_aload_n hx hb dX4_many_56 rfl (lv_at hl 0 rfl) ?_
        refine va_get (D := D) (ci := 4) (v := .ref a_f) (C := RX4) (T := TX4) (N := 7) hx hb hts inX4 hown hK hP 0 rfl rfl 0 (by decide) (hts _ tw_123) (fun _ h9 => h9) rfl dX4_many_57 ?_
        refine va_getN (D := D) (ci := 0) (v := .int f_sun) (C := RX0) (T := TX0) (N := 9) hx hb hts inX0 hown hK hP 1 rfl rfl 5 (by decide) (va_Nw.use rfl (hnw _ nn_7)) (fun _ h9 => h9) rfl dX4_many_60 ?_
        obtain rfl := Option.some.inj hf
        exact rt_i Cc hK hP hD hS dX4_many_63
      · replace hf := (if_neg hs1_2).symm.trans hf
        by_cases hs1_3 : p1 = 3
        · replace hf := (if_pos hs1_3).symm.trans hf
          refine lv_tableIn (tgt := 64) (off := 63) hx hb dX4_many_1 (by rw [hs1_3]; decide) (by rw [hs1_3]; decide) (by rw [hs1_3]; decide) (by decide) ?_
          refine lv_aload_n hx hb dX4_many_64 rfl (lv_at hl 0 rfl) ?_
          refine va_get (D := D) (ci := 4) (v := .int d_hour) (C := RX4) (T := TX4) (N := 7) hx hb hts inX4 hown hK hP 0 rfl rfl 4 (by decide) (hts _ tw_127) (fun _ h9 => h9) rfl dX4_many_65 ?_
          obtain rfl := Option.some.inj hf
          exact rt_i Cc hK hP hD hS dX4_many_68
        · replace hf := (if_neg hs1_3).symm.trans hf
          by_cases hs1_4 : p1 = 4
          · replace hf := (if_pos hs1_4).symm.trans hf
            refine lv_tableIn (tgt := 69) (off := 68) hx hb dX4_many_1 (by rw [hs1_4]; decide) (by rw [hs1_4]; decide) (by rw [hs1_4]; decide) (by decide) ?_
            refine lv_aload_n hx hb dX4_many_69 rfl (lv_at hl 0 rfl) ?_
            refine va_get (D := D) (ci := 4) (v := .ref a_f) (C := RX4) (T := TX4) (N := 7) hx hb hts inX4 hown hK hP 0 rfl rfl 0 (by decide) (hts _ tw_123) (fun _ h9 => h9) rfl dX4_many_70 ?_
            obtain ⟨q73_1, hq2, hf⟩ := Option.bind_eq_some_iff.mp hf
            refine cV (ws' := (W_D cI cS a_d a_f a_t a_r a_z a_f_kind a_f_wet a_g a_g_kind a_g_wet a_r_cells a_r_hours a_r_cracked a_s0 a_s0_row a_s1 a_s1_row a_s2 a_s2_row a_s3 a_s3_row d_hour d_traced d_latestFault f_kind f_wet f_wide f_rows f_cells f_sun f_all f_firstColumn f_lastColumn t_hours t_opened t_firstWrong g_kind g_wet g_wide g_rows g_cells g_sun g_all g_firstColumn g_lastColumn r_cells r_hours r_cracked r_count S_row S_lane S_length)) (rest := []) (st1 := [.int q73_1]) Cc hK hA hP hD hS hl.1 (ctX0_crackedSet l D cI cS a_f a_f_kind a_f_wet f_kind f_wet f_wide f_rows f_cells f_sun f_all f_firstColumn f_lastColumn  n q73_1 hq2) ⟨tw_230, tw_269, tw_228, tw_229, tw_2⟩ mdX0_crackedSet ⟨rfl, rfl, Nat.le_of_ble_eq_true rfl, Nat.le_of_ble_eq_true rfl⟩ rfl dX4_many_73 rfl (Nat.le_of_ble_eq_true rfl) ⟨Nat.zero_le _, Nat.zero_le _⟩ rfl rfl rfl [1, 2, 3] [0, 4, 5, 6, 7, 8, 9, 10, 11, 12, 13, 14, 15, 16, 17, 18, 19, 20] [0, 18, 19, 20, 1, 2, 3, 4, 5, 6, 7, 8, 9, 10, 11, 12, 13, 14, 15, 16, 17] rfl rfl (by decide) rfl (fun H locs hP hD hS => ?_)
            obtain ⟨q76_2, hq3, hf⟩ := Option.bind_eq_some_iff.mp hf
            refine cSt (ws' := (W_D cI cS a_d a_f a_t a_r a_z a_f_kind a_f_wet a_g a_g_kind a_g_wet a_r_cells a_r_hours a_r_cracked a_s0 a_s0_row a_s1 a_s1_row a_s2 a_s2_row a_s3 a_s3_row d_hour d_traced d_latestFault f_kind f_wet f_wide f_rows f_cells f_sun f_all f_firstColumn f_lastColumn t_hours t_opened t_firstWrong g_kind g_wet g_wide g_rows g_cells g_sun g_all g_firstColumn g_lastColumn r_cells r_hours r_cracked r_count S_row S_lane S_length)) (rest := []) (st1 := [.int q76_2]) Cc hK hA hP hD hS hl.1 (ctJ6_bitCount_0f7a4 l D cI cS   q73_1 n q76_2 hq3) ⟨tw_241, tw_239, tw_240, tw_8⟩ mdJ6_bitCount_0f7a4 ⟨rfl, rfl, Nat.le_of_ble_eq_true rfl, Nat.le_of_ble_eq_true rfl⟩ rfl dX4_many_76 rfl (Nat.le_of_ble_eq_true rfl) ⟨Nat.zero_le _, Nat.zero_le _⟩ rfl [] [0, 1, 2, 3, 4, 5, 6, 7, 8, 9, 10, 11, 12, 13, 14, 15, 16, 17, 18, 19, 20] [0, 1, 2, 3, 4, 5, 6, 7, 8, 9, 10, 11, 12, 13, 14, 15, 16, 17, 18, 19, 20] rfl rfl (by decide) rfl (fun H locs hP hD hS => ?_)
            obtain rfl := Option.some.inj hf
            exact rt_i Cc hK hP hD hS dX4_many_79
          · replace hf := (if_neg hs1_4).symm.trans hf
            by_cases hs1_5 : p1 = 5
            · replace hf := (if_pos hs1_5).symm.trans hf
              refine lv_tableIn (tgt := 80) (off := 79) hx hb dX4_many_1 (by rw [hs1_5]; decide) (by rw [hs1_5]; decide) (by rw [hs1_5]; decide) (by decide) ?_
              refine lv_aload_n hx hb dX4_many_80 rfl (lv_at hl 0 rfl) ?_
              refine va_get (D := D) (ci := 4) (v := .ref a_r) (C := RX4) (T := TX4) (N := 7) hx hb hts inX4 hown hK hP 0 rfl rfl 2 (by decide) (hts _ tw_125) (fun _ h9 => h9) rfl dX4_many_81 ?_
              refine va_getN (D := D) (ci := 1) (v := .int r_count) (C := RX1) (T := TX1) (N := 4) hx hb hts inX1 hown hK hP 8 rfl rfl 3 (by decide) (va_Nw.use rfl (hnw _ nn_10)) (fun _ h9 => h9) rfl dX4_many_84 ?_
              obtain rfl := Option.some.inj hf
              exact rt_i Cc hK hP hD hS dX4_many_87
            · replace hf := (if_neg hs1_5).symm.trans hf
              refine lv_tableOut (tgt := 88) hx hb dX4_many_1 (tb_out (N := 5) (by decide) (fun i hi => match i, hi with | 0, _ => hs1_0 | 1, _ => hs1_1 | 2, _ => hs1_2 | 3, _ => hs1_3 | 4, _ => hs1_4 | 5, _ => hs1_5 | i + 6, hi => absurd hi (by omega))) (by decide) ?_
              refine lv_bipush (v := (-2 : Int32)) hx hb dX4_many_88 (by decide) ?_
              obtain rfl := Option.some.inj hf
              exact rt_i Cc hK hP hD hS dX4_many_90
