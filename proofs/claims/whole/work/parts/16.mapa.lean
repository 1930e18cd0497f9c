-- X4_within
def fX4_within (n : Nat)  (p0 : Int32) (p1 : Int32) (p2 : Int32) : Option (Int32) := if p0 < p1 then some ((0 : Int32)) else if p2 < p0 then some ((0 : Int32)) else some ((1 : Int32))
theorem mdX4_within : yX4_within.cls ≠ "java/lang/invoke/MethodHandle" ∧ yX4_within.cls ≠ "java/lang/invoke/VarHandle" ∧ (parseMethodDescriptor yX4_within.desc).map (fun d => d.parameters.length) = some 3 := by decide +kernel
set_option maxHeartbeats 4000000 in
set_option maxRecDepth 100000 in
theorem ctX4_within (l : Launch) (D : va_G) (cI cS : ClassId)  (p0 : Int32) (p1 : Int32) (p2 : Int32) (n : Nat) (r : Int32) (hf : fX4_within n  p0 p1 p2 = some (r)) : Ct l D (tysA cI cS) yX4_within cX4_within 3 (some .boolean) (Rm 0) [.int p0, .int p1, .int p2] (W_0 cI cS) (some (.int r)) (W_0 cI cS) := by
  refine Ct_of (by decide) (Nat.le_of_ble_eq_true rfl) ?_
  intro p e s m args below meth c A ls Cc hK hA hP hD hS hl
  have hl : lv_has ls 3 [(0, .int p0), (1, .int p1), (2, .int p2)] := hl
  obtain ⟨hx, hb, hr, hml, hown, hts, hlk, hnw⟩ := id Cc
  unfold fX4_within at hf
  refine lv_iload_n hx hb dX4_within_0 rfl (lv_at hl 0 rfl) ?_
  refine lv_iload_n hx hb dX4_within_1 rfl (lv_at hl 1 rfl) ?_
  refine lv_icmp_lt (tgt := 14) hx hb dX4_within_2 (by decide) (fun hc1 => ?_) (fun hc1 => ?_)
  · replace hf := (if_pos hc1).symm.trans hf
    refine lv_iconst (v := (0 : Int32)) hx hb dX4_within_14 (by decide) ?_
    obtain rfl := Option.some.inj hf
    exact rt_z Cc (by decide) hK hP hD hS dX4_within_15
  · replace hf := (if_neg hc1).symm.trans hf
    refine lv_iload_n hx hb dX4_within_5 rfl (lv_at hl 0 rfl) ?_
    refine lv_iload_n hx hb dX4_within_6 rfl (lv_at hl 2 rfl) ?_
    refine lv_icmp_gt (tgt := 14) hx hb dX4_within_7 (by decide) (fun hc2 => ?_) (fun hc2 => ?_)
    · replace hf := (if_pos hc2).symm.trans hf
      refine lv_iconst (v := (0 : Int32)) hx hb dX4_within_14 (by decide) ?_
      obtain rfl := Option.some.inj hf
      exact rt_z Cc (by decide) hK hP hD hS dX4_within_15
    · replace hf := (if_neg hc2).symm.trans hf
      refine lv_iconst (v := (1 : Int32)) hx hb dX4_within_10 (by decide) ?_
      refine lv_goto (tgt := 15) hx hb dX4_within_11 (by decide) ?_
      obtain rfl := Option.some.inj hf
      exact rt_z Cc (by decide) hK hP hD hS dX4_within_15
-- X4_isSheet
def fX4_isSheet (n : Nat)  (p0 : Int32) : Option (Int32) := (fX4_within n p0 (0 : Int32) (3 : Int32)).bind fun q3_1 => bz q3_1 (some (q3_1))
theorem mdX4_isSheet : yX4_isSheet.cls ≠ "java/lang/invoke/MethodHandle" ∧ yX4_isSheet.cls ≠ "java/lang/invoke/VarHandle" ∧ (parseMethodDescriptor yX4_isSheet.desc).map (fun d => d.parameters.length) = some 1 := by decide +kernel
set_option maxHeartbeats 4000000 in
set_option maxRecDepth 100000 in
theorem ctX4_isSheet (l : Launch) (D : va_G) (cI cS : ClassId)  (p0 : Int32) (n : Nat) (r : Int32) (hf : fX4_isSheet n  p0 = some (r)) : Ct l D (tysA cI cS) yX4_isSheet cX4_isSheet 1 (some .boolean) (Rm 1) [.int p0] (W_0 cI cS) (some (.int r)) (W_0 cI cS) := by
  refine Ct_of (by decide) (Nat.le_of_ble_eq_true rfl) ?_
  intro p e s m args below meth c A ls Cc hK hA hP hD hS hl
  have hl : lv_has ls 1 [(0, .int p0)] := hl
  obtain ⟨hx, hb, hr, hml, hown, hts, hlk, hnw⟩ := id Cc
  unfold fX4_isSheet at hf
  refine lv_iload_n hx hb dX4_isSheet_0 rfl (lv_at hl 0 rfl) ?_
  refine lv_iconst (v := (0 : Int32)) hx hb dX4_isSheet_1 (by decide) ?_
  refine lv_iconst (v := (3 : Int32)) hx hb dX4_isSheet_2 (by decide) ?_
  obtain ⟨q3_1, hq1, hf⟩ := Option.bind_eq_some_iff.mp hf
  refine cSt (ws' := (W_0 cI cS)) (rest := []) (st1 := [.int q3_1]) Cc hK hA hP hD hS hl.1 (ctX4_within l D cI cS   p0 (0 : Int32) (3 : Int32) n q3_1 hq1) ⟨tw_154, tw_152, tw_153, tw_1⟩ mdX4_within ⟨rfl, rfl, Nat.le_of_ble_eq_true rfl, Nat.le_of_ble_eq_true rfl⟩ rfl dX4_isSheet_3 rfl (Nat.le_of_ble_eq_true rfl) ⟨Nat.zero_le _, Nat.zero_le _⟩ rfl [] [] [] rfl rfl (by decide) rfl (fun H locs hP hD hS => ?_)
  obtain ⟨hz, hf⟩ := bz_some hf
  obtain rfl := Option.some.inj hf
  exact rt_z Cc hz hK hP hD hS dX4_isSheet_6
-- X4_isLane
def fX4_isLane (n : Nat)  (p0 : Int32) : Option (Int32) := (fX4_within n p0 (0 : Int32) (2 : Int32)).bind fun q3_1 => bz q3_1 (some (q3_1))
theorem mdX4_isLane : yX4_isLane.cls ≠ "java/lang/invoke/MethodHandle" ∧ yX4_isLane.cls ≠ "java/lang/invoke/VarHandle" ∧ (parseMethodDescriptor yX4_isLane.desc).map (fun d => d.parameters.length) = some 1 := by decide +kernel
set_option maxHeartbeats 4000000 in
set_option maxRecDepth 100000 in
theorem ctX4_isLane (l : Launch) (D : va_G) (cI cS : ClassId)  (p0 : Int32) (n : Nat) (r : Int32) (hf : fX4_isLane n  p0 = some (r)) : Ct l D (tysA cI cS) yX4_isLane cX4_isLane 1 (some .boolean) (Rm 1) [.int p0] (W_0 cI cS) (some (.int r)) (W_0 cI cS) := by
  refine Ct_of (by decide) (Nat.le_of_ble_eq_true rfl) ?_
  intro p e s m args below meth c A ls Cc hK hA hP hD hS hl
  have hl : lv_has ls 1 [(0, .int p0)] := hl
  obtain ⟨hx, hb, hr, hml, hown, hts, hlk, hnw⟩ := id Cc
  unfold fX4_isLane at hf
  refine lv_iload_n hx hb dX4_isLane_0 rfl (lv_at hl 0 rfl) ?_
  refine lv_iconst (v := (0 : Int32)) hx hb dX4_isLane_1 (by decide) ?_
  refine lv_iconst (v := (2 : Int32)) hx hb dX4_isLane_2 (by decide) ?_
  obtain ⟨q3_1, hq1, hf⟩ := Option.bind_eq_some_iff.mp hf
  refine cSt (ws' := (W_0 cI cS)) (rest := []) (st1 := [.int q3_1]) Cc hK hA hP hD hS hl.1 (ctX4_within l D cI cS   p0 (0 : Int32) (2 : Int32) n q3_1 hq1) ⟨tw_154, tw_152, tw_153, tw_1⟩ mdX4_within ⟨rfl, rfl, Nat.le_of_ble_eq_true rfl, Nat.le_of_ble_eq_true rfl⟩ rfl dX4_isLane_3 rfl (Nat.le_of_ble_eq_true rfl) ⟨Nat.zero_le _, Nat.zero_le _⟩ rfl [] [] [] rfl rfl (by decide) rfl (fun H locs hP hD hS => ?_)
  obtain ⟨hz, hf⟩ := bz_some hf
  obtain rfl := Option.some.inj hf
  exact rt_z Cc hz hK hP hD hS dX4_isLane_6
-- X4_faulted
def fX4_faulted (n : Nat) (d_latestFault : Int32) (p1 : Int32) : Option (Int32 × Int32) := some (((-10 : Int32) - p1), p1)
theorem mdX4_faulted : yX4_faulted.cls = RX4 ∧ yX4_faulted.cls ≠ "java/lang/invoke/MethodHandle" ∧ yX4_faulted.cls ≠ "java/lang/invoke/VarHandle" ∧ (parseMethodDescriptor yX4_faulted.desc).map (fun d => d.parameters.length) = some 1 := by decide +kernel
set_option maxHeartbeats 4000000 in
set_option maxRecDepth 100000 in
theorem ctX4_faulted (l : Launch) (D : va_G) (cI cS : ClassId) (a_d a_f a_t a_r a_z : Nat) (d_hour : Int32) (d_traced : Int32) (d_latestFault : Int32) (p1 : Int32) (n : Nat) (r : Int32) (d_latestFault' : Int32) (hf : fX4_faulted n d_latestFault p1 = some (r, d_latestFault')) : Ct l D (tysA cI cS) yX4_faulted cX4_faulted 2 (some .int) (Rm 0) [.ref a_d, .int p1] (W_d cI cS a_d a_f a_t a_r a_z d_hour d_traced d_latestFault) (some (.int r)) (W_d cI cS a_d a_f a_t a_r a_z d_hour d_traced d_latestFault') := by
  refine Ct_of (by decide) (Nat.le_of_ble_eq_true rfl) ?_
  intro p e s m args below meth c A ls Cc hK hA hP hD hS hl
  have hl : lv_has ls 2 [(0, .ref a_d), (1, .int p1)] := hl
  obtain ⟨hx, hb, hr, hml, hown, hts, hlk, hnw⟩ := id Cc
  unfold fX4_faulted at hf
  refine lv_aload_n hx hb dX4_faulted_0 rfl (lv_at hl 0 rfl) ?_
  refine lv_iload_n hx hb dX4_faulted_1 rfl (lv_at hl 1 rfl) ?_
  refine va_put (D := D) (ci := 4) (v := .int p1) (ty := .int) (C := RX4) (T := TX4) (N := 7) hx hb hts inX4 tyX4 tyX4_ok nmX4 hown hK hP hD hS 0 rfl rfl 6 (by decide) (hts _ tw_129) (fun _ h9 => h9) rfl (tyX4_ok 6 (by decide)) rfl rfl (Nat.le_of_ble_eq_true rfl) dX4_faulted_2 (fun H locs hP hD hS => ?_)
  have hP : va_P D classes (W_d cI cS a_d a_f a_t a_r a_z d_hour d_traced p1) H := hP
  have hD : va_D A (W_d cI cS a_d a_f a_t a_r a_z d_hour d_traced p1) := hD
  refine lv_bipush (v := (-10 : Int32)) hx hb dX4_faulted_5 (by decide) ?_
  refine lv_iload_n hx hb dX4_faulted_7 rfl (lv_at hl 1 rfl) ?_
  refine lv_isub hx hb dX4_faulted_8 ?_
  replace hf := Option.some.inj hf
  obtain ⟨er0, er1⟩ := Prod.mk.inj hf
  clear hf 
  subst er0
  subst er1
  exact rt_i Cc hK hP hD hS dX4_faulted_9
-- X4_lengthOfText
def fX4_lengthOfText (n : Nat) (s_row : Nat → Int32) (s_length : Int32) (p1 : Int32) : Option (Int32) := (fX4_digitAt n s_row s_length (p1 + (2 : Int32))).bind fun q6_1 => (fX4_digitAt n s_row s_length (p1 + (3 : Int32))).bind fun q14_2 => some (((4 : Int32) + (((2 : Int32) * q6_1) * q14_2)))
theorem mdX4_lengthOfText : yX4_lengthOfText.cls ≠ "java/lang/invoke/MethodHandle" ∧ yX4_lengthOfText.cls ≠ "java/lang/invoke/VarHandle" ∧ (parseMethodDescriptor yX4_lengthOfText.desc).map (fun d => d.parameters.length) = some 2 := by decide +kernel
set_option maxHeartbeats 4000000 in
set_option maxRecDepth 100000 in
theorem ctX4_lengthOfText (l : Launch) (D : va_G) (cI cS : ClassId) (a_s a_s_row : Nat) (s_row : Nat → Int32) (s_lane : Int32) (s_length : Int32) (p1 : Int32) (n : Nat) (r : Int32) (hf : fX4_lengthOfText n s_row s_length p1 = some (r)) : Ct l D (tysA cI cS) yX4_lengthOfText cX4_lengthOfText 2 (some .int) (Rm 3) [.ref a_s, .int p1] (W_s cI cS a_s a_s_row s_row s_lane s_length) (some (.int r)) (W_s cI cS a_s a_s_row s_row s_lane s_length) := by
  refine Ct_of (by decide) (Nat.le_of_ble_eq_true rfl) ?_
  intro p e s m args below meth c A ls Cc hK hA hP hD hS hl
  have hl : lv_has ls 2 [(0, .ref a_s), (1, .int p1)] := hl
  obtain ⟨hx, hb, hr, hml, hown, hts, hlk, hnw⟩ := id Cc
  unfold fX4_lengthOfText at hf
  refine lv_iconst (v := (4 : Int32)) hx hb dX4_lengthOfText_0 (by decide) ?_
  refine lv_iconst (v := (2 : Int32)) hx hb dX4_lengthOfText_1 (by decide) ?_
  refine lv_aload_n hx hb dX4_lengthOfText_2 rfl (lv_at hl 0 rfl) ?_
  refine lv_iload_n hx hb dX4_lengthOfText_3 rfl (lv_at hl 1 rfl) ?_
  refine lv_iconst (v := (2 : Int32)) hx hb dX4_lengthOfText_4 (by decide) ?_
  refine lv_iadd hx hb dX4_lengthOfText_5 ?_
  obtain ⟨q6_1, hq1, hf⟩ := Option.bind_eq_some_iff.mp hf
  refine cSt (ws' := (W_s cI cS a_s a_s_row s_row s_lane s_length)) (rest := [.int (2 : Int32), .int (4 : Int32)]) (st1 := [.int q6_1, .int (2 : Int32), .int (4 : Int32)]) Cc hK hA hP hD hS hl.1 (ctX4_digitAt l D cI cS a_s a_s_row s_row s_lane s_length (p1 + (2 : Int32)) n q6_1 hq1) ⟨tw_193, tw_191, tw_192, tw_1⟩ mdX4_digitAt ⟨rfl, rfl, Nat.le_of_ble_eq_true rfl, Nat.le_of_ble_eq_true rfl⟩ rfl dX4_lengthOfText_6 rfl (Nat.le_of_ble_eq_true rfl) ⟨Nat.zero_le _, Nat.zero_le _⟩ rfl [0, 1] [] [0, 1] rfl rfl (by decide) rfl (fun H locs hP hD hS => ?_)
  refine lv_imul hx hb dX4_lengthOfText_9 ?_
  refine lv_aload_n hx hb dX4_lengthOfText_10 rfl (lv_at hl 0 rfl) ?_
  refine lv_iload_n hx hb dX4_lengthOfText_11 rfl (lv_at hl 1 rfl) ?_
  refine lv_iconst (v := (3 : Int32)) hx hb dX4_lengthOfText_12 (by decide) ?_
  refine lv_iadd hx hb dX4_lengthOfText_13 ?_
  obtain ⟨q14_2, hq2, hf⟩ := Option.bind_eq_some_iff.mp hf
  refine cSt (ws' := (W_s cI cS a_s a_s_row s_row s_lane s_length)) (rest := [.int ((2 : Int32) * q6_1), .int (4 : Int32)]) (st1 := [.int q14_2, .int ((2 : Int32) * q6_1), .int (4 : Int32)]) Cc hK hA hP hD hS hl.1 (ctX4_digitAt l D cI cS a_s a_s_row s_row s_lane s_length (p1 + (3 : Int32)) n q14_2 hq2) ⟨tw_193, tw_191, tw_192, tw_1⟩ mdX4_digitAt ⟨rfl, rfl, Nat.le_of_ble_eq_true rfl, Nat.le_of_ble_eq_true rfl⟩ rfl dX4_lengthOfText_14 rfl (Nat.le_of_ble_eq_true rfl) ⟨Nat.zero_le _, Nat.zero_le _⟩ rfl [0, 1] [] [0, 1] rfl rfl (by decide) rfl (fun H locs hP hD hS => ?_)
  refine lv_imul hx hb dX4_lengthOfText_17 ?_
  refine lv_iadd hx hb dX4_lengthOfText_18 ?_
  obtain rfl := Option.some.inj hf
  exact rt_i Cc hK hP hD hS dX4_lengthOfText_19
-- X4_goesOn
def fX4_goesOn (n : Nat) (s_row : Nat → Int32) (s_length : Int32) (p1 : Int32) (p2 : Int32) : Option (Int32) := (fX2_codeAt n s_row s_length (p1 + p2)).bind fun q4_1 => if p2 = 0 then if q4_1 = (98 : Int32) then some ((1 : Int32)) else some ((0 : Int32)) else if p2 = 1 then (fX4_within n q4_1 (48 : Int32) (57 : Int32)).bind fun q57_1 => bz q57_1 (some (q57_1)) else if p2 = 2 then (fX4_within n q4_1 (50 : Int32) (52 : Int32)).bind fun q66_1 => bz q66_1 (some (q66_1)) else if p2 = 3 then (fX4_within n q4_1 (50 : Int32) (51 : Int32)).bind fun q75_1 => bz q75_1 (some (q75_1)) else (fX4_lengthOfText n s_row s_length p1).bind fun q82_1 => if p2 < q82_1 then if (p2 &&& (1 : Int32)) = 0 then (fX4_kindByLetter n q4_1).bind fun q97_1 => if q97_1 = (-9 : Int32) then some ((0 : Int32)) else some ((1 : Int32)) else (fX4_within n q4_1 (48 : Int32) (57 : Int32)).bind fun q118_1 => bz q118_1 (some (q118_1)) else some ((0 : Int32))
theorem mdX4_goesOn : yX4_goesOn.cls ≠ "java/lang/invoke/MethodHandle" ∧ yX4_goesOn.cls ≠ "java/lang/invoke/VarHandle" ∧ (parseMethodDescriptor yX4_goesOn.desc).map (fun d => d.parameters.length) = some 3 := by decide +kernel
set_option maxHeartbeats 4000000 in
set_option maxRecDepth 100000 in
theorem ctX4_goesOn (l : Launch) (D : va_G) (cI cS : ClassId) (a_s a_s_row : Nat) (s_row : Nat → Int32) (s_lane : Int32) (s_length : Int32) (p1 : Int32) (p2 : Int32) (n : Nat) (r : Int32) (hf : fX4_goesOn n s_row s_length p1 p2 = some (r)) : Ct l D (tysA cI cS) yX4_goesOn cX4_goesOn 4 (some .boolean) (Rm 4) [.ref a_s, .int p1, .int p2] (W_s cI cS a_s a_s_row s_row s_lane s_length) (some (.int r)) (W_s cI cS a_s a_s_row s_row s_lane s_length) := by
  refine Ct_of (by decide) (Nat.le_of_ble_eq_true rfl) ?_
  intro p e s m args below meth c A ls Cc hK hA hP hD hS hl
  have hl : lv_has ls 4 [(0, .ref a_s), (1, .int p1), (2, .int p2)] := hl
  obtain ⟨hx, hb, hr, hml, hown, hts, hlk, hnw⟩ := id Cc
  unfold fX4_goesOn at hf
  refine lv_aload_n hx hb dX4_goesOn_0 rfl (lv_at hl 0 rfl) ?_
  refine lv_iload_n hx hb dX4_goesOn_1 rfl (lv_at hl 1 rfl) ?_
  refine lv_iload_n hx hb dX4_goesOn_2 rfl (lv_at hl 2 rfl) ?_
  refine lv_iadd hx hb dX4_goesOn_3 ?_
  obtain ⟨q4_1, hq1, hf⟩ := Option.bind_eq_some_iff.mp hf
  refine cV (ws' := (W_s cI cS a_s a_s_row s_row s_lane s_length)) (rest := []) (st1 := [.int q4_1]) Cc hK hA hP hD hS hl.1 (ctX2_codeAt l D cI cS a_s a_s_row s_row s_lane s_length (p1 + p2) n q4_1 hq1) ⟨tw_183, tw_180, tw_181, tw_182, tw_5⟩ mdX2_codeAt ⟨rfl, rfl, Nat.le_of_ble_eq_true rfl, Nat.le_of_ble_eq_true rfl⟩ rfl dX4_goesOn_4 rfl (Nat.le_of_ble_eq_true rfl) ⟨Nat.zero_le _, Nat.zero_le _⟩ rfl rfl rfl [0, 1] [] [0, 1] rfl rfl (by decide) rfl (fun H locs hP hD hS => ?_)
  refine lv_istore_n (lv' := [(3, .int q4_1), (0, .ref a_s), (1, .int p1), (2, .int p2)]) hx hb dX4_goesOn_7 rfl hl (by decide) rfl (fun ls hl => ?_)
  refine lv_iload_n hx hb dX4_goesOn_8 rfl (lv_at hl 3 rfl) ?_
  by_cases hs2_0 : p2 = 0
  · replace hf := (if_pos hs2_0).symm.trans hf
    refine lv_tableIn (tgt := 40) (off := 31) hx hb dX4_goesOn_9 (by rw [hs2_0]; decide) (by rw [hs2_0]; decide) (by rw [hs2_0]; decide) (by decide) ?_
    refine lv_iload_n hx hb dX4_goesOn_40 rfl (lv_at hl 0 rfl) ?_
    refine lv_bipush (v := (98 : Int32)) hx hb dX4_goesOn_41 (by decide) ?_
    refine lv_icmp_ne (tgt := 50) hx hb dX4_goesOn_43 (by decide) (fun hc3 => ?_) (fun hc3 => ?_)
    · replace hf := (if_neg hc3).symm.trans hf
      refine lv_iconst (v := (0 : Int32)) hx hb dX4_goesOn_50 (by decide) ?_
      obtain rfl := Option.some.inj hf
      exact rt_z Cc (by decide) hK hP hD hS dX4_goesOn_51
    · replace hf := (if_pos hc3).symm.trans hf
      refine lv_iconst (v := (1 : Int32)) hx hb dX4_goesOn_46 (by decide) ?_
      refine lv_goto (tgt := 51) hx hb dX4_goesOn_47 (by decide) ?_
      obtain rfl := Option.some.inj hf
      exact rt_z Cc (by decide) hK hP hD hS dX4_goesOn_51
  · replace hf := (if_neg hs2_0).symm.trans hf
    by_cases hs2_1 : p2 = 1
    · replace hf := (if_pos hs2_1).symm.trans hf
      refine lv_tableIn (tgt := 52) (off := 43) hx hb dX4_goesOn_9 (by rw [hs2_1]; decide) (by rw [hs2_1]; decide) (by rw [hs2_1]; decide) (by decide) ?_
      refine lv_iload_n hx hb dX4_goesOn_52 rfl (lv_at hl 0 rfl) ?_
      refine lv_bipush (v := (48 : Int32)) hx hb dX4_goesOn_53 (by decide) ?_
      refine lv_bipush (v := (57 : Int32)) hx hb dX4_goesOn_55 (by decide) ?_
      obtain ⟨q57_1, hq4, hf⟩ := Option.bind_eq_some_iff.mp hf
      refine cSt (ws' := (W_s cI cS a_s a_s_row s_row s_lane s_length)) (rest := []) (st1 := [.int q57_1]) Cc hK hA hP hD hS hl.1 (ctX4_within l D cI cS   q4_1 (48 : Int32) (57 : Int32) n q57_1 hq4) ⟨tw_154, tw_152, tw_153, tw_1⟩ mdX4_within ⟨rfl, rfl, Nat.le_of_ble_eq_true rfl, Nat.le_of_ble_eq_true rfl⟩ rfl dX4_goesOn_57 rfl (Nat.le_of_ble_eq_true rfl) ⟨Nat.zero_le _, Nat.zero_le _⟩ rfl [] [0, 1] [0, 1] rfl rfl (by decide) rfl (fun H locs hP hD hS => ?_)
      obtain ⟨hz, hf⟩ := bz_some hf
      obtain rfl := Option.some.inj hf
      exact rt_z Cc hz hK hP hD hS dX4_goesOn_60
    · replace hf := (if_neg hs2_1).symm.trans hf
      by_cases hs2_2 : p2 = 2
      · replace hf := (if_pos hs2_2).symm.trans hf
        refine lv_tableIn (tgt := 61) (off := 52) hx hb dX4_goesOn_9 (by rw [hs2_2]; decide) (by rw [hs2_2]; decide) (by rw [hs2_2]; decide) (by decide) ?_
        refine lv_iload_n hx hb dX4_goesOn_61 rfl (lv_at hl 0 rfl) ?_
        refine lv_bipush (v := (50 : Int32)) hx hb dX4_goesOn_62 (by decide) ?_
        refine lv_bipush (v := (52 : Int32)) hx hb dX4_goesOn_64 (by decide) ?_
        obtain ⟨q66_1, hq5, hf⟩ := Option.bind_eq_some_iff.mp hf
        refine cSt (ws' := (W_s cI cS a_s a_s_row s_row s_lane s_length)) (rest := []) (st1 := [.int q66_1]) Cc hK hA hP hD hS hl.1 (ctX4_within l D cI cS   q4_1 (50 : Int32) (52 : Int32) n q66_1 hq5) ⟨tw_154, tw_152, tw_153, tw_1⟩ mdX4_within ⟨rfl, rfl, Nat.le_of_ble_eq_true rfl, Nat.le_of_ble_eq_true rfl⟩ rfl dX4_goesOn_66 rfl (Nat.le_of_ble_eq_true rfl) ⟨Nat.zero_le _, Nat.zero_le _⟩ rfl [] [0, 1] [0, 1] rfl rfl (by decide) rfl (fun H locs hP hD hS => ?_)
        obtain ⟨hz, hf⟩ := bz_some hf
        obtain rfl := Option.some.inj hf
        exact rt_z Cc hz hK hP hD hS dX4_goesOn_69
      · replace hf := (if_neg hs2_2).symm.trans hf
        by_cases hs2_3 : p2 = 3
        · replace hf := (if_pos hs2_3).symm.trans hf
          refine lv_tableIn (tgt := 70) (off := 61) hx hb dX4_goesOn_9 (by rw [hs2_3]; decide) (by rw [hs2_3]; decide) (by rw [hs2_3]; decide) (by decide) ?_
          refine lv_iload_n hx hb dX4_goesOn_70 rfl (lv_at hl 0 rfl) ?_
          refine lv_bipush (v := (50 : Int32)) hx hb dX4_goesOn_71 (by decide) ?_
          refine lv_bipush (v := (51 : Int32)) hx hb dX4_goesOn_73 (by decide) ?_
          obtain ⟨q75_1, hq6, hf⟩ := Option.bind_eq_some_iff.mp hf
          refine cSt (ws' := (W_s cI cS a_s a_s_row s_row s_lane s_length)) (rest := []) (st1 := [.int q75_1]) Cc hK hA hP hD hS hl.1 (ctX4_within l D cI cS   q4_1 (50 : Int32) (51 : Int32) n q75_1 hq6) ⟨tw_154, tw_152, tw_153, tw_1⟩ mdX4_within ⟨rfl, rfl, Nat.le_of_ble_eq_true rfl, Nat.le_of_ble_eq_true rfl⟩ rfl dX4_goesOn_75 rfl (Nat.le_of_ble_eq_true rfl) ⟨Nat.zero_le _, Nat.zero_le _⟩ rfl [] [0, 1] [0, 1] rfl rfl (by decide) rfl (fun H locs hP hD hS => ?_)
          obtain ⟨hz, hf⟩ := bz_some hf
          obtain rfl := Option.some.inj hf
          exact rt_z Cc hz hK hP hD hS dX4_goesOn_78
        · replace hf := (if_neg hs2_3).symm.trans hf
          refine lv_tableOut (tgt := 79) hx hb dX4_goesOn_9 (tb_out (N := 3) (by decide) (fun i hi => match i, hi with | 0, _ => hs2_0 | 1, _ => hs2_1 | 2, _ => hs2_2 | 3, _ => hs2_3 | i + 4, hi => absurd hi (by omega))) (by decide) ?_
          refine lv_iload_n hx hb dX4_goesOn_79 rfl (lv_at hl 3 rfl) ?_
          refine lv_aload_n hx hb dX4_goesOn_80 rfl (lv_at hl 1 rfl) ?_
          refine lv_iload_n hx hb dX4_goesOn_81 rfl (lv_at hl 2 rfl) ?_
          obtain ⟨q82_1, hq7, hf⟩ := Option.bind_eq_some_iff.mp hf
          refine cSt (ws' := (W_s cI cS a_s a_s_row s_row s_lane s_length)) (rest := [.int p2]) (st1 := [.int q82_1, .int p2]) Cc hK hA hP hD hS hl.1 (ctX4_lengthOfText l D cI cS a_s a_s_row s_row s_lane s_length p1 n q82_1 hq7) ⟨tw_190, tw_188, tw_189, tw_1⟩ mdX4_lengthOfText ⟨rfl, rfl, Nat.le_of_ble_eq_true rfl, Nat.le_of_ble_eq_true rfl⟩ rfl dX4_goesOn_82 rfl (Nat.le_of_ble_eq_true rfl) ⟨Nat.zero_le _, Nat.zero_le _⟩ rfl [0, 1] [] [0, 1] rfl rfl (by decide) rfl (fun H locs hP hD hS => ?_)
          refine lv_icmp_lt (tgt := 90) hx hb dX4_goesOn_85 (by decide) (fun hc8 => ?_) (fun hc8 => ?_)
          · replace hf := (if_pos hc8).symm.trans hf
            refine lv_iload_n hx hb dX4_goesOn_90 rfl (lv_at hl 3 rfl) ?_
            refine lv_iconst (v := (1 : Int32)) hx hb dX4_goesOn_91 (by decide) ?_
            refine lv_iand hx hb dX4_goesOn_92 ?_
            refine lv_if_ne (tgt := 113) hx hb dX4_goesOn_93 (by decide) (fun hc9 => ?_) (fun hc9 => ?_)
            · replace hf := (if_neg hc9).symm.trans hf
              refine lv_iload_n hx hb dX4_goesOn_113 rfl (lv_at hl 0 rfl) ?_
              refine lv_bipush (v := (48 : Int32)) hx hb dX4_goesOn_114 (by decide) ?_
              refine lv_bipush (v := (57 : Int32)) hx hb dX4_goesOn_116 (by decide) ?_
              obtain ⟨q118_1, hq10, hf⟩ := Option.bind_eq_some_iff.mp hf
              refine cSt (ws' := (W_s cI cS a_s a_s_row s_row s_lane s_length)) (rest := []) (st1 := [.int q118_1]) Cc hK hA hP hD hS hl.1 (ctX4_within l D cI cS   q4_1 (48 : Int32) (57 : Int32) n q118_1 hq10) ⟨tw_154, tw_152, tw_153, tw_1⟩ mdX4_within ⟨rfl, rfl, Nat.le_of_ble_eq_true rfl, Nat.le_of_ble_eq_true rfl⟩ rfl dX4_goesOn_118 rfl (Nat.le_of_ble_eq_true rfl) ⟨Nat.zero_le _, Nat.zero_le _⟩ rfl [] [0, 1] [0, 1] rfl rfl (by decide) rfl (fun H locs hP hD hS => ?_)
              obtain ⟨hz, hf⟩ := bz_some hf
              obtain rfl := Option.some.inj hf
              exact rt_z Cc hz hK hP hD hS dX4_goesOn_121
            · replace hf := (if_pos hc9).symm.trans hf
              refine lv_iload_n hx hb dX4_goesOn_96 rfl (lv_at hl 0 rfl) ?_
              obtain ⟨q97_1, hq11, hf⟩ := Option.bind_eq_some_iff.mp hf
              refine cSt (ws' := (W_s cI cS a_s a_s_row s_row s_lane s_length)) (rest := []) (st1 := [.int q97_1]) Cc hK hA hP hD hS hl.1 (ctX4_kindByLetter l D cI cS   q4_1 n q97_1 hq11) ⟨tw_196, tw_194, tw_195, tw_1⟩ mdX4_kindByLetter ⟨rfl, rfl, Nat.le_of_ble_eq_true rfl, Nat.le_of_ble_eq_true rfl⟩ rfl dX4_goesOn_97 rfl (Nat.le_of_ble_eq_true rfl) ⟨Nat.zero_le _, Nat.zero_le _⟩ rfl [] [0, 1] [0, 1] rfl rfl (by decide) rfl (fun H locs hP hD hS => ?_)
              refine lv_bipush (v := (-9 : Int32)) hx hb dX4_goesOn_100 (by decide) ?_
              refine lv_icmp_eq (tgt := 109) hx hb dX4_goesOn_102 (by decide) (fun hc12 => ?_) (fun hc12 => ?_)
              · replace hf := (if_pos hc12).symm.trans hf
                refine lv_iconst (v := (0 : Int32)) hx hb dX4_goesOn_109 (by decide) ?_
                refine lv_goto (tgt := 121) hx hb dX4_goesOn_110 (by decide) ?_
                obtain rfl := Option.some.inj hf
                exact rt_z Cc (by decide) hK hP hD hS dX4_goesOn_121
              · replace hf := (if_neg hc12).symm.trans hf
                refine lv_iconst (v := (1 : Int32)) hx hb dX4_goesOn_105 (by decide) ?_
                refine lv_goto (tgt := 121) hx hb dX4_goesOn_106 (by decide) ?_
                obtain rfl := Option.some.inj hf
                exact rt_z Cc (by decide) hK hP hD hS dX4_goesOn_121
          · replace hf := (if_neg hc8).symm.trans hf
            refine lv_iconst (v := (0 : Int32)) hx hb dX4_goesOn_88 (by decide) ?_
            obtain rfl := Option.some.inj hf
            exact rt_z Cc (by decide) hK hP hD hS dX4_goesOn_89
-- X4_firstFault
def fX4_firstFault_2 (n : Nat) : Nat → (Nat → Int32) → Int32 → Int32 → Int32 → Int32 → Option (Int32)
  | 0, _, _, _, _, _ => none
  | k + 1, s_row, s_length, x1, x2, x3 => if x2 ≤ x3 then if x2 < (4 : Int32) then some (x2) else (fX4_lengthOfText n s_row s_length x1).bind fun q32_1 => if x2 = q32_1 then some ((-9 : Int32)) else some (x2) else (fX4_goesOn n s_row s_length x1 x3).bind fun q10_1 => if q10_1 = 0 then some (x3) else fX4_firstFault_2 n k s_row s_length x1 x2 (x3 + 1)
def fX4_firstFault (n : Nat) (s_row : Nat → Int32) (s_length : Int32) (p1 : Int32) (p2 : Int32) : Option (Int32) := fX4_firstFault_2 n n s_row s_length p1 p2 (0 : Int32)
theorem mdX4_firstFault : yX4_firstFault.cls ≠ "java/lang/invoke/MethodHandle" ∧ yX4_firstFault.cls ≠ "java/lang/invoke/VarHandle" ∧ (parseMethodDescriptor yX4_firstFault.desc).map (fun d => d.parameters.length) = some 3 := by decide +kernel
set_option maxHeartbeats 4000000 in
set_option maxRecDepth 100000 in
theorem bX4_firstFault_2 {p : Program} {l : Launch} {e : Env} {s : State} {m : MethodId} {args : Array Value} {below : List Frame} {meth : Method} {c : Code} {A : Nat → Prop} {D : va_G} {cI cS : ClassId} (a_s a_s_row : Nat) (s_lane : Int32) (Cc : Cx p s m args meth c RX4 cX4_firstFault 4 (some .int)) (hK : va_K D classes (tysA cI cS) s) (hA : ∀ q, s.heap.size ≤ q → A q) (n : Nat) : ∀ (k : Nat) (s_row : Nat → Int32) (s_length : Int32) (x1 : Int32) (x2 : Int32) (x3 : Int32) (r : Int32), fX4_firstFault_2 n k s_row s_length x1 x2 x3 = some (r) → ∀ (H : Heap) (locs : List Loc) (ls : Array Slot), va_P D classes (W_s cI cS a_s a_s_row s_row s_lane s_length) H → va_D A (W_s cI cS a_s a_s_row s_row s_lane s_length) → va_S A s.heap H locs → lv_has ls 4 [(0, .ref a_s), (1, .int x1), (2, .int x2), (3, .int x3)] → W p l e (Rm 5) s m args below meth c H locs 0 0 (MQ below (QW D (tysA cI cS) (some (.int r)) (W_s cI cS a_s a_s_row s_row s_lane s_length) A) args s 0 0 A) (F0 m 2 ls []) := by
  obtain ⟨hx, hb, hr, hml, hown, hts, hlk, hnw⟩ := id Cc
  intro k
  induction k with
  | zero =>
    intro s_row s_length x1 x2 x3 r hf
    rw [fX4_firstFault_2] at hf
    cases hf
  | succ k ih =>
    intro s_row s_length x1 x2 x3 r hf H locs ls hP hD hS hl
    rw [fX4_firstFault_2] at hf
    refine lv_iload_n hx hb dX4_firstFault_2 rfl (lv_at hl 3 rfl) ?_
    refine lv_iload_n hx hb dX4_firstFault_3 rfl (lv_at hl 2 rfl) ?_
    refine lv_icmp_ge (tgt := 24) hx hb dX4_firstFault_4 (by decide) (fun hc1 => ?_) (fun hc1 => ?_)
    · replace hf := (if_pos hc1).symm.trans hf
      refine lv_iload_n hx hb dX4_firstFault_24 rfl (lv_at hl 2 rfl) ?_
      refine lv_iconst (v := (4 : Int32)) hx hb dX4_firstFault_25 (by decide) ?_
      refine lv_icmp_lt (tgt := 43) hx hb dX4_firstFault_26 (by decide) (fun hc2 => ?_) (fun hc2 => ?_)
      · replace hf := (if_pos hc2).symm.trans hf
        refine lv_iload_n hx hb dX4_firstFault_43 rfl (lv_at hl 2 rfl) ?_
        obtain rfl := Option.some.inj hf
        exact rt_i Cc hK hP hD hS dX4_firstFault_44
      · replace hf := (if_neg hc2).symm.trans hf
        refine lv_iload_n hx hb dX4_firstFault_29 rfl (lv_at hl 2 rfl) ?_
        refine lv_aload_n hx hb dX4_firstFault_30 rfl (lv_at hl 0 rfl) ?_
        refine lv_iload_n hx hb dX4_firstFault_31 rfl (lv_at hl 1 rfl) ?_
        obtain ⟨q32_1, hq3, hf⟩ := Option.bind_eq_some_iff.mp hf
        refine cSt (ws' := (W_s cI cS a_s a_s_row s_row s_lane s_length)) (rest := [.int x2]) (st1 := [.int q32_1, .int x2]) Cc hK hA hP hD hS hl.1 (ctX4_lengthOfText l D cI cS a_s a_s_row s_row s_lane s_length x1 n q32_1 hq3) ⟨tw_190, tw_188, tw_189, tw_1⟩ mdX4_lengthOfText ⟨rfl, rfl, Nat.le_of_ble_eq_true rfl, Nat.le_of_ble_eq_true rfl⟩ rfl dX4_firstFault_32 rfl (Nat.le_of_ble_eq_true rfl) ⟨Nat.zero_le _, Nat.zero_le _⟩ rfl [0, 1] [] [0, 1] rfl rfl (by decide) rfl (fun H locs hP hD hS => ?_)
        refine lv_icmp_ne (tgt := 43) hx hb dX4_firstFault_35 (by decide) (fun hc4 => ?_) (fun hc4 => ?_)
        · replace hf := (if_neg hc4).symm.trans hf
          refine lv_iload_n hx hb dX4_firstFault_43 rfl (lv_at hl 2 rfl) ?_
          obtain rfl := Option.some.inj hf
          exact rt_i Cc hK hP hD hS dX4_firstFault_44
        · replace hf := (if_pos hc4).symm.trans hf
          refine lv_bipush (v := (-9 : Int32)) hx hb dX4_firstFault_38 (by decide) ?_
          refine lv_goto (tgt := 44) hx hb dX4_firstFault_40 (by decide) ?_
          obtain rfl := Option.some.inj hf
          exact rt_i Cc hK hP hD hS dX4_firstFault_44
    · replace hf := (if_neg hc1).symm.trans hf
      refine lv_aload_n hx hb dX4_firstFault_7 rfl (lv_at hl 0 rfl) ?_
      refine lv_iload_n hx hb dX4_firstFault_8 rfl (lv_at hl 1 rfl) ?_
      refine lv_iload_n hx hb dX4_firstFault_9 rfl (lv_at hl 3 rfl) ?_
      obtain ⟨q10_1, hq5, hf⟩ := Option.bind_eq_some_iff.mp hf
      refine cSt (ws' := (W_s cI cS a_s a_s_row s_row s_lane s_length)) (rest := []) (st1 := [.int q10_1]) Cc hK hA hP hD hS hl.1 (ctX4_goesOn l D cI cS a_s a_s_row s_row s_lane s_length x1 x3 n q10_1 hq5) ⟨tw_179, tw_177, tw_178, tw_1⟩ mdX4_goesOn ⟨rfl, rfl, Nat.le_of_ble_eq_true rfl, Nat.le_of_ble_eq_true rfl⟩ rfl dX4_firstFault_10 rfl (Nat.le_of_ble_eq_true rfl) ⟨Nat.zero_le _, Nat.zero_le _⟩ rfl [0, 1] [] [0, 1] rfl rfl (by decide) rfl (fun H locs hP hD hS => ?_)
      refine lv_if_ne (tgt := 18) hx hb dX4_firstFault_13 (by decide) (fun hc6 => ?_) (fun hc6 => ?_)
      · replace hf := (if_neg hc6).symm.trans hf
        refine lv_iinc (v := (x3 + 1)) (lv' := [(3, .int (x3 + 1)), (0, .ref a_s), (1, .int x1), (2, .int x2)]) hx hb dX4_firstFault_18 hl (k := 3) rfl rfl (by decide) rfl (fun ls hl => ?_)
        refine lv_goto (tgt := 2) hx hb dX4_firstFault_21 (by decide) ?_
        exact ih _ _ _ _ _ _ hf _ _ _ hP hD hS (lv_sub hl [1, 2, 3, 0] rfl)
      · replace hf := (if_pos hc6).symm.trans hf
        refine lv_iload_n hx hb dX4_firstFault_16 rfl (lv_at hl 3 rfl) ?_
        obtain rfl := Option.some.inj hf
        exact rt_i Cc hK hP hD hS dX4_firstFault_17
set_option maxHeartbeats 4000000 in
set_option maxRecDepth 100000 in
theorem ctX4_firstFault (l : Launch) (D : va_G) (cI cS : ClassId) (a_s a_s_row : Nat) (s_row : Nat → Int32) (s_lane : Int32) (s_length : Int32) (p1 : Int32) (p2 : Int32) (n : Nat) (r : Int32) (hf : fX4_firstFault n s_row s_length p1 p2 = some (r)) : Ct l D (tysA cI cS) yX4_firstFault cX4_firstFault 4 (some .int) (Rm 5) [.ref a_s, .int p1, .int p2] (W_s cI cS a_s a_s_row s_row s_lane s_length) (some (.int r)) (W_s cI cS a_s a_s_row s_row s_lane s_length) := by
  refine Ct_of (by decide) (Nat.le_of_ble_eq_true rfl) ?_
  intro p e s m args below meth c A ls Cc hK hA hP hD hS hl
  have hl : lv_has ls 4 [(0, .ref a_s), (1, .int p1), (2, .int p2)] := hl
  obtain ⟨hx, hb, hr, hml, hown, hts, hlk, hnw⟩ := id Cc
  unfold fX4_firstFault at hf
  refine lv_iconst (v := (0 : Int32)) hx hb dX4_firstFault_0 (by decide) ?_
  refine lv_istore_n (lv' := [(3, .int (0 : Int32)), (0, .ref a_s), (1, .int p1), (2, .int p2)]) hx hb dX4_firstFault_1 rfl hl (by decide) rfl (fun ls hl => ?_)
  exact bX4_firstFault_2 a_s a_s_row s_lane Cc hK hA n n _ _ _ _ _ _ hf _ _ _ hP hD hS (lv_sub hl [1, 2, 3, 0] rfl)
-- X4_ofCell
def fX4_ofCell (n : Nat) (f_kind : Nat → Int32) (f_wet : Nat → Int32) (f_wide : Int32) (f_cells : Int32) (f_sun : Int32) (f_all : Int32) (f_firstColumn : Int32) (f_lastColumn : Int32) (p1 : Int32) (p2 : Int32) : Option (Int32) := (fX0_isCell n f_cells p1).bind fun q5_1 => if q5_1 = 0 then some ((-1 : Int32)) else if p2 = 0 then gd p1 12 (some ((f_kind p1.toNatClampNeg))) else if p2 = 1 then gd p1 12 (some ((f_wet p1.toNatClampNeg))) else if p2 = 2 then (fX0_losesOf n f_kind f_sun p1).bind fun q73_1 => some (q73_1) else if p2 = 3 then gd p1 12 (if (f_wet p1.toNatClampNeg) = 0 then some ((1 : Int32)) else some ((0 : Int32))) else if p2 = 4 then (fX0_wetSet n f_wet f_cells f_all).bind fun q106_1 => (fX0_hanging n f_wide f_cells f_all f_firstColumn f_lastColumn ((1 : Int32) <<< (p1 &&& 31)) q106_1).bind fun q109_2 => (fJ6_bitCount_0f7a4 n q109_2).bind fun q112_3 => some (q112_3) else some ((-2 : Int32))
theorem mdX4_ofCell : yX4_ofCell.cls = RX4 ∧ yX4_ofCell.cls ≠ "java/lang/invoke/MethodHandle" ∧ yX4_ofCell.cls ≠ "java/lang/invoke/VarHandle" ∧ (parseMethodDescriptor yX4_ofCell.desc).map (fun d => d.parameters.length) = some 2 := by decide +kernel
set_option maxHeartbeats 4000000 in
set_option maxRecDepth 100000 in
theorem ctX4_ofCell (l : Launch) (D : va_G) (cI cS : ClassId) (a_d a_f a_t a_r a_z a_f_kind a_f_wet a_g a_g_kind a_g_wet a_r_cells a_r_hours a_r_cracked a_s0 a_s0_row a_s1 a_s1_row a_s2 a_s2_row a_s3 a_s3_row : Nat) (d_hour : Int32) (d_traced : Int32) (d_latestFault : Int32) (f_kind : Nat → Int32) (f_wet : Nat → Int32) (f_wide : Int32) (f_rows : Int32) (f_cells : Int32) (f_sun : Int32) (f_all : Int32) (f_firstColumn : Int32) (f_lastColumn : Int32) (t_hours : Int32) (t_opened : Int32) (t_firstWrong : Int32) (g_kind : Nat → Int32) (g_wet : Nat → Int32) (g_wide : Int32) (g_rows : Int32) (g_cells : Int32) (g_sun : Int32) (g_all : Int32) (g_firstColumn : Int32) (g_lastColumn : Int32) (r_cells : Nat → Int32) (r_hours : Nat → Int32) (r_cracked : Nat → Int32) (r_count : Int32) (S_row : Nat → Nat → Int32) (S_lane : Nat → Int32) (S_length : Nat → Int32) (p1 : Int32) (p2 : Int32) (n : Nat) (r : Int32) (hf : fX4_ofCell n f_kind f_wet f_wide f_cells f_sun f_all f_firstColumn f_lastColumn p1 p2 = some (r)) : Ct l D (tysA cI cS) yX4_ofCell cX4_ofCell 3 (some .int) (Rm 2) [.ref a_d, .int p1, .int p2] (W_D cI cS a_d a_f a_t a_r a_z a_f_kind a_f_wet a_g a_g_kind a_g_wet a_r_cells a_r_hours a_r_cracked a_s0 a_s0_row a_s1 a_s1_row a_s2 a_s2_row a_s3 a_s3_row d_hour d_traced d_latestFault f_kind f_wet f_wide f_rows f_cells f_sun f_all f_firstColumn f_lastColumn t_hours t_opened t_firstWrong g_kind g_wet g_wide g_rows g_cells g_sun g_all g_firstColumn g_lastColumn r_cells r_hours r_cracked r_count S_row S_lane S_length) (some (.int r)) (W_D cI cS a_d a_f a_t a_r a_z a_f_kind a_f_wet a_g a_g_kind a_g_wet a_r_cells a_r_hours a_r_cracked a_s0 a_s0_row a_s1 a_s1_row a_s2 a_s2_row a_s3 a_s3_row d_hour d_traced d_latestFault f_kind f_wet f_wide f_rows f_cells f_sun f_all f_firstColumn f_lastColumn t_hours t_opened t_firstWrong g_kind g_wet g_wide g_rows g_cells g_sun g_all g_firstColumn g_lastColumn r_cells r_hours r_cracked r_count S_row S_lane S_length) := by
  refine Ct_of (by decide) (Nat.le_of_ble_eq_true rfl) ?_
  intro p e s m args below meth c A ls Cc hK hA hP hD hS hl
  have hl : lv_has ls 3 [(0, .ref a_d), (1, .int p1), (2, .int p2)] := hl
  obtain ⟨hx, hb, hr, hml, hown, hts, hlk, hnw⟩ := id Cc
  unfold fX4_ofCell at hf
  refine lv_aload_n hx hb dX4_ofCell_0 rfl (lv_at hl 0 rfl) ?_
  refine va_get (D := D) (ci := 4) (v := .ref a_f) (C := RX4) (T := TX4) (N := 7) hx hb hts inX4 hown hK hP 0 rfl rfl 0 (by decide) (hts _ tw_123) (fun _ h9 => h9) rfl dX4_ofCell_1 ?_
  refine lv_iload_n hx hb dX4_ofCell_4 rfl (lv_at hl 1 rfl) ?_
  obtain ⟨q5_1, hq1, hf⟩ := Option.bind_eq_some_iff.mp hf
  refine cV (ws' := (W_D cI cS a_d a_f a_t a_r a_z a_f_kind a_f_wet a_g a_g_kind a_g_wet a_r_cells a_r_hours a_r_cracked a_s0 a_s0_row a_s1 a_s1_row a_s2 a_s2_row a_s3 a_s3_row d_hour d_traced d_latestFault f_kind f_wet f_wide f_rows f_cells f_sun f_all f_firstColumn f_lastColumn t_hours t_opened t_firstWrong g_kind g_wet g_wide g_rows g_cells g_sun g_all g_firstColumn g_lastColumn r_cells r_hours r_cracked r_count S_row S_lane S_length)) (rest := []) (st1 := [.int q5_1]) Cc hK hA hP hD hS hl.1 (ctX0_isCell l D cI cS a_f a_f_kind a_f_wet f_kind f_wet f_wide f_rows f_cells f_sun f_all f_firstColumn f_lastColumn p1 n q5_1 hq1) ⟨tw_218, tw_215, tw_216, tw_217, tw_2⟩ mdX0_isCell ⟨rfl, rfl, Nat.le_of_ble_eq_true rfl, Nat.le_of_ble_eq_true rfl⟩ rfl dX4_ofCell_5 rfl (Nat.le_of_ble_eq_true rfl) ⟨Nat.zero_le _, Nat.zero_le _⟩ rfl rfl rfl [1, 2, 3] [0, 4, 5, 6, 7, 8, 9, 10, 11, 12, 13, 14, 15, 16, 17, 18, 19, 20] [0, 18, 19, 20, 1, 2, 3, 4, 5, 6, 7, 8, 9, 10, 11, 12, 13, 14, 15, 16, 17] rfl rfl (by decide) rfl (fun H locs hP hD hS => ?_)
  refine lv_if_ne (tgt := 13) hx hb dX4_ofCell_8 (by decide) (fun hc2 => ?_) (fun hc2 => ?_)
  · replace hf := (if_neg hc2).symm.trans hf
    refine lv_iload_n hx hb dX4_ofCell_13 rfl (lv_at hl 2 rfl) ?_
    by_cases hs3_0 : p2 = 0
    · replace hf := (if_pos hs3_0).symm.trans hf
      refine lv_tableIn (tgt := 48) (off := 34) hx hb dX4_ofCell_14 (by rw [hs3_0]; decide) (by rw [hs3_0]; decide) (by rw [hs3_0]; decide) (by decide) ?_
      refine lv_aload_n hx hb dX4_ofCell_48 rfl (lv_at hl 0 rfl) ?_
      refine va_get (D := D) (ci := 4) (v := .ref a_f) (C := RX4) (T := TX4) (N := 7) hx hb hts inX4 hown hK hP 0 rfl rfl 0 (by decide) (hts _ tw_123) (fun _ h9 => h9) rfl dX4_ofCell_49 ?_
      refine va_getN (D := D) (ci := 0) (v := .ref a_f_kind) (C := RX0) (T := TX0) (N := 9) hx hb hts inX0 hown hK hP 1 rfl rfl 0 (by decide) (va_Nw.use rfl (hnw _ nn_0)) (fun _ h9 => h9) rfl dX4_ofCell_52 ?_
      refine lv_iload_n hx hb dX4_ofCell_55 rfl (lv_at hl 1 rfl) ?_
      obtain ⟨hin, hf⟩ := gd_some hf
      refine va_iald hx hb hK hP 2 0 rfl rfl hin dX4_ofCell_56 ?_
      obtain rfl := Option.some.inj hf
      exact rt_i Cc hK hP hD hS dX4_ofCell_57
    · replace hf := (if_neg hs3_0).symm.trans hf
      by_cases hs3_1 : p2 = 1
      · replace hf := (if_pos hs3_1).symm.trans hf
        refine lv_tableIn (tgt := 58) (off := 44) hx hb dX4_ofCell_14 (by rw [hs3_1]; decide) (by rw [hs3_1]; decide) (by rw [hs3_1]; decide) (by decide) ?_
        refine lv_aload_n hx hb dX4_ofCell_58 rfl (lv_at hl 0 rfl) ?_
        refine va_get (D := D) (ci := 4) (v := .ref a_f) (C := RX4) (T := TX4) (N := 7) hx hb hts inX4 hown hK hP 0 rfl rfl 0 (by decide) (hts _ tw_123) (fun _ h9 => h9) rfl dX4_ofCell_59 ?_
        refine va_getN (D := D) (ci := 0) (v := .ref a_f_wet) (C := RX0) (T := TX0) (N := 9) hx hb hts inX0 hown hK hP 1 rfl rfl 1 (by decide) (va_Nw.use rfl (hnw _ nn_1)) (fun _ h9 => h9) rfl dX4_ofCell_62 ?_
        refine lv_iload_n hx hb dX4_ofCell_65 rfl (lv_at hl 1 rfl) ?_
        obtain ⟨hin, hf⟩ := gd_some hf
        refine va_iald hx hb hK hP 3 0 rfl rfl hin dX4_ofCell_66 ?_
        obtain rfl := Option.some.inj hf
        exact rt_i Cc hK hP hD hS dX4_ofCell_67
      · replace hf := (if_neg hs3_1).symm.trans hf
        by_cases hs3_2 : p2 = 2
        · replace hf := (if_pos hs3_2).symm.trans hf
          refine lv_tableIn (tgt := 68) (off := 54) hx hb dX4_ofCell_14 (by rw [hs3_2]; decide) (by rw [hs3_2]; decide) (by rw [hs3_2]; decide) (by decide) ?_
          refine lv_aload_n hx hb dX4_ofCell_68 rfl (lv_at hl 0 rfl) ?_
          refine va_get (D := D) (ci := 4) (v := .ref a_f) (C := RX4) (T := TX4) (N := 7) hx hb hts inX4 hown hK hP 0 rfl rfl 0 (by decide) (hts _ tw_123) (fun _ h9 => h9) rfl dX4_ofCell_69 ?_
          refine lv_iload_n hx hb dX4_ofCell_72 rfl (lv_at hl 1 rfl) ?_
          obtain ⟨q73_1, hq4, hf⟩ := Option.bind_eq_some_iff.mp hf
          refine cV (ws' := (W_D cI cS a_d a_f a_t a_r a_z a_f_kind a_f_wet a_g a_g_kind a_g_wet a_r_cells a_r_hours a_r_cracked a_s0 a_s0_row a_s1 a_s1_row a_s2 a_s2_row a_s3 a_s3_row d_hour d_traced d_latestFault f_kind f_wet f_wide f_rows f_cells f_sun f_all f_firstColumn f_lastColumn t_hours t_opened t_firstWrong g_kind g_wet g_wide g_rows g_cells g_sun g_all g_firstColumn g_lastColumn r_cells r_hours r_cracked r_count S_row S_lane S_length)) (rest := []) (st1 := [.int q73_1]) Cc hK hA hP hD hS hl.1 (ctX0_losesOf l D cI cS a_f a_f_kind a_f_wet f_kind f_wet f_wide f_rows f_cells f_sun f_all f_firstColumn f_lastColumn p1 n q73_1 hq4) ⟨tw_222, tw_219, tw_220, tw_221, tw_2⟩ mdX0_losesOf ⟨rfl, rfl, Nat.le_of_ble_eq_true rfl, Nat.le_of_ble_eq_true rfl⟩ rfl dX4_ofCell_73 rfl (Nat.le_of_ble_eq_true rfl) ⟨Nat.zero_le _, Nat.zero_le _⟩ rfl rfl rfl [1, 2, 3] [0, 4, 5, 6, 7, 8, 9, 10, 11, 12, 13, 14, 15, 16, 17, 18, 19, 20] [0, 18, 19, 20, 1, 2, 3, 4, 5, 6, 7, 8, 9, 10, 11, 12, 13, 14, 15, 16, 17] rfl rfl (by decide) rfl (fun H locs hP hD hS => ?_)
          obtain rfl := Option.some.inj hf
          exact rt_i Cc hK hP hD hS dX4_ofCell_76
        · replace hf := (if_neg hs3_2).symm.trans hf
          by_cases hs3_3 : p2 = 3
          · replace hf := (if_pos hs3_3).symm.trans hf
            refine lv_tableIn (tgt := 77) (off := 63) hx hb dX4_ofCell_14 (by rw [hs3_3]; decide) (by rw [hs3_3]; decide) (by rw [hs3_3]; decide) (by decide) ?_
            refine lv_aload_n hx hb dX4_ofCell_77 rfl (lv_at hl 0 rfl) ?_
            refine va_get (D := D) (ci := 4) (v := .ref a_f) (C := RX4) (T := TX4) (N := 7) hx hb hts inX4 hown hK hP 0 rfl rfl 0 (by decide) (hts _ tw_123) (fun _ h9 => h9) rfl dX4_ofCell_78 ?_
            refine va_getN (D := D) (ci := 0) (v := .ref a_f_wet) (C := RX0) (T := TX0) (N := 9) hx hb hts inX0 hown hK hP 1 rfl rfl 1 (by decide) (va_Nw.use rfl (hnw _ nn_1)) (fun _ h9 => h9) rfl dX4_ofCell_81 ?_
            refine lv_iload_n hx hb dX4_ofCell_84 rfl (lv_at hl 1 rfl) ?_
            obtain ⟨hin, hf⟩ := gd_some hf
            refine va_iald hx hb hK hP 3 0 rfl rfl hin dX4_ofCell_85 ?_
            refine lv_if_ne (tgt := 93) hx hb dX4_ofCell_86 (by decide) (fun hc5 => ?_) (fun hc5 => ?_)
            · replace hf := (if_neg hc5).symm.trans hf
              refine lv_iconst (v := (0 : Int32)) hx hb dX4_ofCell_93 (by decide) ?_
              obtain rfl := Option.some.inj hf
              exact rt_i Cc hK hP hD hS dX4_ofCell_94
            · replace hf := (if_pos hc5).symm.trans hf
              refine lv_iconst (v := (1 : Int32)) hx hb dX4_ofCell_89 (by decide) ?_
              refine lv_goto (tgt := 94) hx hb dX4_ofCell_90 (by decide) ?_
              obtain rfl := Option.some.inj hf
              exact rt_i Cc hK hP hD hS dX4_ofCell_94
          · replace hf := (if_neg hs3_3).symm.trans hf
            by_cases hs3_4 : p2 = 4
            · replace hf := (if_pos hs3_4).symm.trans hf
              refine lv_tableIn (tgt := 95) (off := 81) hx hb dX4_ofCell_14 (by rw [hs3_4]; decide) (by rw [hs3_4]; decide) (by rw [hs3_4]; decide) (by decide) ?_
              refine lv_aload_n hx hb dX4_ofCell_95 rfl (lv_at hl 0 rfl) ?_
              refine va_get (D := D) (ci := 4) (v := .ref a_f) (C := RX4) (T := TX4) (N := 7) hx hb hts inX4 hown hK hP 0 rfl rfl 0 (by decide) (hts _ tw_123) (fun _ h9 => h9) rfl dX4_ofCell_96 ?_
              refine lv_iconst (v := (1 : Int32)) hx hb dX4_ofCell_99 (by decide) ?_
              refine lv_iload_n hx hb dX4_ofCell_100 rfl (lv_at hl 1 rfl) ?_
              refine lv_ishl hx hb dX4_ofCell_101 ?_
              refine lv_aload_n hx hb dX4_ofCell_102 rfl (lv_at hl 0 rfl) ?_
              refine va_get (D := D) (ci := 4) (v := .ref a_f) (C := RX4) (T := TX4) (N := 7) hx hb hts inX4 hown hK hP 0 rfl rfl 0 (by decide) (hts _ tw_123) (fun _ h9 => h9) rfl dX4_ofCell_103 ?_
              obtain ⟨q106_1, hq6, hf⟩ := Option.bind_eq_some_iff.mp hf
              refine cV (ws' := (W_D cI cS a_d a_f a_t a_r a_z a_f_kind a_f_wet a_g a_g_kind a_g_wet a_r_cells a_r_hours a_r_cracked a_s0 a_s0_row a_s1 a_s1_row a_s2 a_s2_row a_s3 a_s3_row d_hour d_traced d_latestFault f_kind f_wet f_wide f_rows f_cells f_sun f_all f_firstColumn f_lastColumn t_hours t_opened t_firstWrong g_kind g_wet g_wide g_rows g_cells g_sun g_all g_firstColumn g_lastColumn r_cells r_hours r_cracked r_count S_row S_lane S_length)) (rest := [.int ((1 : Int32) <<< (p1 &&& 31)), .ref a_f]) (st1 := [.int q106_1, .int ((1 : Int32) <<< (p1 &&& 31)), .ref a_f]) Cc hK hA hP hD hS hl.1 (ctX0_wetSet l D cI cS a_f a_f_kind a_f_wet f_kind f_wet f_wide f_rows f_cells f_sun f_all f_firstColumn f_lastColumn  n q106_1 hq6) ⟨tw_226, tw_223, tw_224, tw_225, tw_2⟩ mdX0_wetSet ⟨rfl, rfl, Nat.le_of_ble_eq_true rfl, Nat.le_of_ble_eq_true rfl⟩ rfl dX4_ofCell_106 rfl (Nat.le_of_ble_eq_true rfl) ⟨Nat.zero_le _, Nat.zero_le _⟩ rfl rfl rfl [1, 2, 3] [0, 4, 5, 6, 7, 8, 9, 10, 11, 12, 13, 14, 15, 16, 17, 18, 19, 20] [0, 18, 19, 20, 1, 2, 3, 4, 5, 6, 7, 8, 9, 10, 11, 12, 13, 14, 15, 16, 17] rfl rfl (by decide) rfl (fun H locs hP hD hS => ?_)
              obtain ⟨q109_2, hq7, hf⟩ := Option.bind_eq_some_iff.mp hf
              refine cV (ws' := (W_D cI cS a_d a_f a_t a_r a_z a_f_kind a_f_wet a_g a_g_kind a_g_wet a_r_cells a_r_hours a_r_cracked a_s0 a_s0_row a_s1 a_s1_row a_s2 a_s2_row a_s3 a_s3_row d_hour d_traced d_latestFault f_kind f_wet f_wide f_rows f_cells f_sun f_all f_firstColumn f_lastColumn t_hours t_opened t_firstWrong g_kind g_wet g_wide g_rows g_cells g_sun g_all g_firstColumn g_lastColumn r_cells r_hours r_cracked r_count S_row S_lane S_length)) (rest := []) (st1 := [.int q109_2]) Cc hK hA hP hD hS hl.1 (ctX0_hanging l D cI cS a_f a_f_kind a_f_wet f_kind f_wet f_wide f_rows f_cells f_sun f_all f_firstColumn f_lastColumn ((1 : Int32) <<< (p1 &&& 31)) q106_1 n q109_2 hq7) ⟨tw_234, tw_231, tw_232, tw_233, tw_2⟩ mdX0_hanging ⟨rfl, rfl, Nat.le_of_ble_eq_true rfl, Nat.le_of_ble_eq_true rfl⟩ rfl dX4_ofCell_109 rfl (Nat.le_of_ble_eq_true rfl) ⟨Nat.zero_le _, Nat.zero_le _⟩ rfl rfl rfl [1, 2, 3] [0, 4, 5, 6, 7, 8, 9, 10, 11, 12, 13, 14, 15, 16, 17, 18, 19, 20] [0, 18, 19, 20, 1, 2, 3, 4, 5, 6, 7, 8, 9, 10, 11, 12, 13, 14, 15, 16, 17] rfl rfl (by decide) rfl (fun H locs hP hD hS => ?_)
              obtain ⟨q112_3, hq8, hf⟩ := Option.bind_eq_some_iff.mp hf
              refine cSt (ws' := (W_D cI cS a_d a_f a_t a_r a_z a_f_kind a_f_wet a_g a_g_kind a_g_wet a_r_cells a_r_hours a_r_cracked a_s0 a_s0_row a_s1 a_s1_row a_s2 a_s2_row a_s3 a_s3_row d_hour d_traced d_latestFault f_kind f_wet f_wide f_rows f_cells f_sun f_all f_firstColumn f_lastColumn t_hours t_opened t_firstWrong g_kind g_wet g_wide g_rows g_cells g_sun g_all g_firstColumn g_lastColumn r_cells r_hours r_cracked r_count S_row S_lane S_length)) (rest := []) (st1 := [.int q112_3]) Cc hK hA hP hD hS hl.1 (ctJ6_bitCount_0f7a4 l D cI cS   q109_2 n q112_3 hq8) ⟨tw_241, tw_239, tw_240, tw_8⟩ mdJ6_bitCount_0f7a4 ⟨rfl, rfl, Nat.le_of_ble_eq_true rfl, Nat.le_of_ble_eq_true rfl⟩ rfl dX4_ofCell_112 rfl (Nat.le_of_ble_eq_true rfl) ⟨Nat.zero_le _, Nat.zero_le _⟩ rfl [] [0, 1, 2, 3, 4, 5, 6, 7, 8, 9, 10, 11, 12, 13, 14, 15, 16, 17, 18, 19, 20] [0, 1, 2, 3, 4, 5, 6, 7, 8, 9, 10, 11, 12, 13, 14, 15, 16, 17, 18, 19, 20] rfl rfl (by decide) rfl (fun H locs hP hD hS => ?_)
              obtain rfl := Option.some.inj hf
              exact rt_i Cc hK hP hD hS dX4_ofCell_115
            · replace hf := (if_neg hs3_4).symm.trans hf
              refine lv_tableOut (tgt := 116) hx hb dX4_ofCell_14 (tb_out (N := 4) (by decide) (fun i hi => match i, hi with | 0, _ => hs3_0 | 1, _ => hs3_1 | 2, _ => hs3_2 | 3, _ => hs3_3 | 4, _ => hs3_4 | i + 5, hi => absurd hi (by omega))) (by decide) ?_
              refine lv_bipush (v := (-2 : Int32)) hx hb dX4_ofCell_116 (by decide) ?_
              obtain rfl := Option.some.inj hf
              exact rt_i Cc hK hP hD hS dX4_ofCell_118
  · replace hf := (if_pos hc2).symm.trans hf
    refine lv_iconst (v := (-1 : Int32)) hx hb dX4_ofCell_11 (by decide) ?_
    obtain rfl := Option.some.inj hf
    exact rt_i Cc hK hP hD hS dX4_ofCell_12
-- X4_shine
def fX4_shine (n : Nat) (f_cells : Int32) (f_sun : Int32) (p1 : Int32) : Option (Int32 × Int32) := (fX4_within n p1 (0 : Int32) (9 : Int32)).bind fun q4_1 => if q4_1 = 0 then some ((-2 : Int32), f_sun) else (fX0_isThere n f_cells).bind fun q17_1 => if q17_1 = 0 then some ((-3 : Int32), f_sun) else some (f_sun, p1)
theorem mdX4_shine : yX4_shine.cls = RX4 ∧ yX4_shine.cls ≠ "java/lang/invoke/MethodHandle" ∧ yX4_shine.cls ≠ "java/lang/invoke/VarHandle" ∧ (parseMethodDescriptor yX4_shine.desc).map (fun d => d.parameters.length) = some 1 := by decide +kernel
set_option maxHeartbeats 4000000 in
set_option maxRecDepth 100000 in
theorem ctX4_shine (l : Launch) (D : va_G) (cI cS : ClassId) (a_d a_f a_t a_r a_z a_f_kind a_f_wet a_g a_g_kind a_g_wet a_r_cells a_r_hours a_r_cracked a_s0 a_s0_row a_s1 a_s1_row a_s2 a_s2_row a_s3 a_s3_row : Nat) (d_hour : Int32) (d_traced : Int32) (d_latestFault : Int32) (f_kind : Nat → Int32) (f_wet : Nat → Int32) (f_wide : Int32) (f_rows : Int32) (f_cells : Int32) (f_sun : Int32) (f_all : Int32) (f_firstColumn : Int32) (f_lastColumn : Int32) (t_hours : Int32) (t_opened : Int32) (t_firstWrong : Int32) (g_kind : Nat → Int32) (g_wet : Nat → Int32) (g_wide : Int32) (g_rows : Int32) (g_cells : Int32) (g_sun : Int32) (g_all : Int32) (g_firstColumn : Int32) (g_lastColumn : Int32) (r_cells : Nat → Int32) (r_hours : Nat → Int32) (r_cracked : Nat → Int32) (r_count : Int32) (S_row : Nat → Nat → Int32) (S_lane : Nat → Int32) (S_length : Nat → Int32) (p1 : Int32) (n : Nat) (r : Int32) (f_sun' : Int32) (hf : fX4_shine n f_cells f_sun p1 = some (r, f_sun')) : Ct l D (tysA cI cS) yX4_shine cX4_shine 3 (some .int) (Rm 1) [.ref a_d, .int p1] (W_D cI cS a_d a_f a_t a_r a_z a_f_kind a_f_wet a_g a_g_kind a_g_wet a_r_cells a_r_hours a_r_cracked a_s0 a_s0_row a_s1 a_s1_row a_s2 a_s2_row a_s3 a_s3_row d_hour d_traced d_latestFault f_kind f_wet f_wide f_rows f_cells f_sun f_all f_firstColumn f_lastColumn t_hours t_opened t_firstWrong g_kind g_wet g_wide g_rows g_cells g_sun g_all g_firstColumn g_lastColumn r_cells r_hours r_cracked r_count S_row S_lane S_length) (some (.int r)) (W_D cI cS a_d a_f a_t a_r a_z a_f_kind a_f_wet a_g a_g_kind a_g_wet a_r_cells a_r_hours a_r_cracked a_s0 a_s0_row a_s1 a_s1_row a_s2 a_s2_row a_s3 a_s3_row d_hour d_traced d_latestFault f_kind f_wet f_wide f_rows f_cells f_sun' f_all f_firstColumn f_lastColumn t_hours t_opened t_firstWrong g_kind g_wet g_wide g_rows g_cells g_sun g_all g_firstColumn g_lastColumn r_cells r_hours r_cracked r_count S_row S_lane S_length) := by
  refine Ct_of (by decide) (Nat.le_of_ble_eq_true rfl) ?_
  intro p e s m args below meth c A ls Cc hK hA hP hD hS hl
  have hl : lv_has ls 3 [(0, .ref a_d), (1, .int p1)] := hl
  obtain ⟨hx, hb, hr, hml, hown, hts, hlk, hnw⟩ := id Cc
  unfold fX4_shine at hf
  refine lv_iload_n hx hb dX4_shine_0 rfl (lv_at hl 1 rfl) ?_
  refine lv_iconst (v := (0 : Int32)) hx hb dX4_shine_1 (by decide) ?_
  refine lv_bipush (v := (9 : Int32)) hx hb dX4_shine_2 (by decide) ?_
  obtain ⟨q4_1, hq1, hf⟩ := Option.bind_eq_some_iff.mp hf
  refine cSt (ws' := (W_D cI cS a_d a_f a_t a_r a_z a_f_kind a_f_wet a_g a_g_kind a_g_wet a_r_cells a_r_hours a_r_cracked a_s0 a_s0_row a_s1 a_s1_row a_s2 a_s2_row a_s3 a_s3_row d_hour d_traced d_latestFault f_kind f_wet f_wide f_rows f_cells f_sun f_all f_firstColumn f_lastColumn t_hours t_opened t_firstWrong g_kind g_wet g_wide g_rows g_cells g_sun g_all g_firstColumn g_lastColumn r_cells r_hours r_cracked r_count S_row S_lane S_length)) (rest := []) (st1 := [.int q4_1]) Cc hK hA hP hD hS hl.1 (ctX4_within l D cI cS   p1 (0 : Int32) (9 : Int32) n q4_1 hq1) ⟨tw_154, tw_152, tw_153, tw_1⟩ mdX4_within ⟨rfl, rfl, Nat.le_of_ble_eq_true rfl, Nat.le_of_ble_eq_true rfl⟩ rfl dX4_shine_4 rfl (Nat.le_of_ble_eq_true rfl) ⟨Nat.zero_le _, Nat.zero_le _⟩ rfl [] [0, 1, 2, 3, 4, 5, 6, 7, 8, 9, 10, 11, 12, 13, 14, 15, 16, 17, 18, 19, 20] [0, 1, 2, 3, 4, 5, 6, 7, 8, 9, 10, 11, 12, 13, 14, 15, 16, 17, 18, 19, 20] rfl rfl (by decide) rfl (fun H locs hP hD hS => ?_)
  refine lv_if_ne (tgt := 13) hx hb dX4_shine_7 (by decide) (fun hc2 => ?_) (fun hc2 => ?_)
  · replace hf := (if_neg hc2).symm.trans hf
    refine lv_aload_n hx hb dX4_shine_13 rfl (lv_at hl 0 rfl) ?_
    refine va_get (D := D) (ci := 4) (v := .ref a_f) (C := RX4) (T := TX4) (N := 7) hx hb hts inX4 hown hK hP 0 rfl rfl 0 (by decide) (hts _ tw_123) (fun _ h9 => h9) rfl dX4_shine_14 ?_
    obtain ⟨q17_1, hq3, hf⟩ := Option.bind_eq_some_iff.mp hf
    refine cV (ws' := (W_D cI cS a_d a_f a_t a_r a_z a_f_kind a_f_wet a_g a_g_kind a_g_wet a_r_cells a_r_hours a_r_cracked a_s0 a_s0_row a_s1 a_s1_row a_s2 a_s2_row a_s3 a_s3_row d_hour d_traced d_latestFault f_kind f_wet f_wide f_rows f_cells f_sun f_all f_firstColumn f_lastColumn t_hours t_opened t_firstWrong g_kind g_wet g_wide g_rows g_cells g_sun g_all g_firstColumn g_lastColumn r_cells r_hours r_cracked r_count S_row S_lane S_length)) (rest := []) (st1 := [.int q17_1]) Cc hK hA hP hD hS hl.1 (ctX0_isThere l D cI cS a_f a_f_kind a_f_wet f_kind f_wet f_wide f_rows f_cells f_sun f_all f_firstColumn f_lastColumn  n q17_1 hq3) ⟨tw_252, tw_249, tw_250, tw_251, tw_2⟩ mdX0_isThere ⟨rfl, rfl, Nat.le_of_ble_eq_true rfl, Nat.le_of_ble_eq_true rfl⟩ rfl dX4_shine_17 rfl (Nat.le_of_ble_eq_true rfl) ⟨Nat.zero_le _, Nat.zero_le _⟩ rfl rfl rfl [1, 2, 3] [0, 4, 5, 6, 7, 8, 9, 10, 11, 12, 13, 14, 15, 16, 17, 18, 19, 20] [0, 18, 19, 20, 1, 2, 3, 4, 5, 6, 7, 8, 9, 10, 11, 12, 13, 14, 15, 16, 17] rfl rfl (by decide) rfl (fun H locs hP hD hS => ?_)
    refine lv_if_ne (tgt := 26) hx hb dX4_shine_20 (by decide) (fun hc4 => ?_) (fun hc4 => ?_)
    · replace hf := (if_neg hc4).symm.trans hf
      refine lv_aload_n hx hb dX4_shine_26 rfl (lv_at hl 0 rfl) ?_
      refine va_get (D := D) (ci := 4) (v := .ref a_f) (C := RX4) (T := TX4) (N := 7) hx hb hts inX4 hown hK hP 0 rfl rfl 0 (by decide) (hts _ tw_123) (fun _ h9 => h9) rfl dX4_shine_27 ?_
      refine va_getN (D := D) (ci := 0) (v := .int f_sun) (C := RX0) (T := TX0) (N := 9) hx hb hts inX0 hown hK hP 1 rfl rfl 5 (by decide) (va_Nw.use rfl (hnw _ nn_7)) (fun _ h9 => h9) rfl dX4_shine_30 ?_
      refine lv_istore_n (lv' := [(2, .int f_sun), (0, .ref a_d), (1, .int p1)]) hx hb dX4_shine_33 rfl hl (by decide) rfl (fun ls hl => ?_)
      refine lv_aload_n hx hb dX4_shine_34 rfl (lv_at hl 1 rfl) ?_
      refine va_get (D := D) (ci := 4) (v := .ref a_f) (C := RX4) (T := TX4) (N := 7) hx hb hts inX4 hown hK hP 0 rfl rfl 0 (by decide) (hts _ tw_123) (fun _ h9 => h9) rfl dX4_shine_35 ?_
      refine lv_iload_n hx hb dX4_shine_38 rfl (lv_at hl 2 rfl) ?_
      refine va_putN (D := D) (ci := 0) (v := .int p1) (ty := .int) (C := RX0) (T := TX0) (N := 9) hx hb hts inX0 tyX0 tyX0_ok nmX0 hown hK hP hD hS 1 rfl rfl 5 (by decide) (va_Nw.use rfl (hnw _ nn_7)) (fun _ h9 => h9) rfl (tyX0_ok 5 (by decide)) rfl rfl (Nat.le_of_ble_eq_true rfl) dX4_shine_39 (fun H locs hP hD hS => ?_)
      have hP : va_P D classes (W_D cI cS a_d a_f a_t a_r a_z a_f_kind a_f_wet a_g a_g_kind a_g_wet a_r_cells a_r_hours a_r_cracked a_s0 a_s0_row a_s1 a_s1_row a_s2 a_s2_row a_s3 a_s3_row d_hour d_traced d_latestFault f_kind f_wet f_wide f_rows f_cells p1 f_all f_firstColumn f_lastColumn t_hours t_opened t_firstWrong g_kind g_wet g_wide g_rows g_cells g_sun g_all g_firstColumn g_lastColumn r_cells r_hours r_cracked r_count S_row S_lane S_length) H := hP
      have hD : va_D A (W_D cI cS a_d a_f a_t a_r a_z a_f_kind a_f_wet a_g a_g_kind a_g_wet a_r_cells a_r_hours a_r_cracked a_s0 a_s0_row a_s1 a_s1_row a_s2 a_s2_row a_s3 a_s3_row d_hour d_traced d_latestFault f_kind f_wet f_wide f_rows f_cells p1 f_all f_firstColumn f_lastColumn t_hours t_opened t_firstWrong g_kind g_wet g_wide g_rows g_cells g_sun g_all g_firstColumn g_lastColumn r_cells r_hours r_cracked r_count S_row S_lane S_length) := hD
      refine lv_iload_n hx hb dX4_shine_42 rfl (lv_at hl 0 rfl) ?_
      replace hf := Option.some.inj hf
      obtain ⟨er0, er1⟩ := Prod.mk.inj hf
      clear hf 
      subst er0
      subst er1
      exact rt_i Cc hK hP hD hS dX4_shine_43
    · replace hf := (if_pos hc4).symm.trans hf
      refine lv_bipush (v := (-3 : Int32)) hx hb dX4_shine_23 (by decide) ?_
      replace hf := Option.some.inj hf
      obtain ⟨er0, er1⟩ := Prod.mk.inj hf
      clear hf 
      subst er0
      subst er1
      exact rt_i Cc hK hP hD hS dX4_shine_25
  · replace hf := (if_pos hc2).symm.trans hf
    refine lv_bipush (v := (-2 : Int32)) hx hb dX4_shine_10 (by decide) ?_
    replace hf := Option.some.inj hf
    obtain ⟨er0, er1⟩ := Prod.mk.inj hf
    clear hf 
    subst er0
    subst er1
    exact rt_i Cc hK hP hD hS dX4_shine_12
-- X4_silt
def fX4_silt (n : Nat) (f_kind : Nat → Int32) (f_cells : Int32) (p1 : Int32) (p2 : Int32) : Option (Int32 × (Nat → Int32)) := (fX0_isCell n f_cells p1).bind fun q5_1 => if q5_1 = 0 then some ((-1 : Int32), f_kind) else (fX4_within n p2 (0 : Int32) (2 : Int32)).bind fun q16_1 => if q16_1 = 0 then some ((-2 : Int32), f_kind) else gd p1 12 (gd p1 12 (some ((f_kind p1.toNatClampNeg), (upd f_kind p1.toNatClampNeg p2))))
theorem mdX4_silt : yX4_silt.cls = RX4 ∧ yX4_silt.cls ≠ "java/lang/invoke/MethodHandle" ∧ yX4_silt.cls ≠ "java/lang/invoke/VarHandle" ∧ (parseMethodDescriptor yX4_silt.desc).map (fun d => d.parameters.length) = some 2 := by decide +kernel
set_option maxHeartbeats 4000000 in
set_option maxRecDepth 100000 in
theorem ctX4_silt (l : Launch) (D : va_G) (cI cS : ClassId) (a_d a_f a_t a_r a_z a_f_kind a_f_wet a_g a_g_kind a_g_wet a_r_cells a_r_hours a_r_cracked a_s0 a_s0_row a_s1 a_s1_row a_s2 a_s2_row a_s3 a_s3_row : Nat) (d_hour : Int32) (d_traced : Int32) (d_latestFault : Int32) (f_kind : Nat → Int32) (f_wet : Nat → Int32) (f_wide : Int32) (f_rows : Int32) (f_cells : Int32) (f_sun : Int32) (f_all : Int32) (f_firstColumn : Int32) (f_lastColumn : Int32) (t_hours : Int32) (t_opened : Int32) (t_firstWrong : Int32) (g_kind : Nat → Int32) (g_wet : Nat → Int32) (g_wide : Int32) (g_rows : Int32) (g_cells : Int32) (g_sun : Int32) (g_all : Int32) (g_firstColumn : Int32) (g_lastColumn : Int32) (r_cells : Nat → Int32) (r_hours : Nat → Int32) (r_cracked : Nat → Int32) (r_count : Int32) (S_row : Nat → Nat → Int32) (S_lane : Nat → Int32) (S_length : Nat → Int32) (p1 : Int32) (p2 : Int32) (n : Nat) (r : Int32) (f_kind' : Nat → Int32) (hf : fX4_silt n f_kind f_cells p1 p2 = some (r, f_kind')) : Ct l D (tysA cI cS) yX4_silt cX4_silt 4 (some .int) (Rm 1) [.ref a_d, .int p1, .int p2] (W_D cI cS a_d a_f a_t a_r a_z a_f_kind a_f_wet a_g a_g_kind a_g_wet a_r_cells a_r_hours a_r_cracked a_s0 a_s0_row a_s1 a_s1_row a_s2 a_s2_row a_s3 a_s3_row d_hour d_traced d_latestFault f_kind f_wet f_wide f_rows f_cells f_sun f_all f_firstColumn f_lastColumn t_hours t_opened t_firstWrong g_kind g_wet g_wide g_rows g_cells g_sun g_all g_firstColumn g_lastColumn r_cells r_hours r_cracked r_count S_row S_lane S_length) (some (.int r)) (W_D cI cS a_d a_f a_t a_r a_z a_f_kind a_f_wet a_g a_g_kind a_g_wet a_r_cells a_r_hours a_r_cracked a_s0 a_s0_row a_s1 a_s1_row a_s2 a_s2_row a_s3 a_s3_row d_hour d_traced d_latestFault f_kind' f_wet f_wide f_rows f_cells f_sun f_all f_firstColumn f_lastColumn t_hours t_opened t_firstWrong g_kind g_wet g_wide g_rows g_cells g_sun g_all g_firstColumn g_lastColumn r_cells r_hours r_cracked r_count S_row S_lane S_length) := by
  refine Ct_of (by decide) (Nat.le_of_ble_eq_true rfl) ?_
  intro p e s m args below meth c A ls Cc hK hA hP hD hS hl
  have hl : lv_has ls 4 [(0, .ref a_d), (1, .int p1), (2, .int p2)] := hl
  obtain ⟨hx, hb, hr, hml, hown, hts, hlk, hnw⟩ := id Cc
  unfold fX4_silt at hf
  refine lv_aload_n hx hb dX4_silt_0 rfl (lv_at hl 0 rfl) ?_
  refine va_get (D := D) (ci := 4) (v := .ref a_f) (C := RX4) (T := TX4) (N := 7) hx hb hts inX4 hown hK hP 0 rfl rfl 0 (by decide) (hts _ tw_123) (fun _ h9 => h9) rfl dX4_silt_1 ?_
  refine lv_iload_n hx hb dX4_silt_4 rfl (lv_at hl 1 rfl) ?_
  obtain ⟨q5_1, hq1, hf⟩ := Option.bind_eq_some_iff.mp hf
  refine cV (ws' := (W_D cI cS a_d a_f a_t a_r a_z a_f_kind a_f_wet a_g a_g_kind a_g_wet a_r_cells a_r_hours a_r_cracked a_s0 a_s0_row a_s1 a_s1_row a_s2 a_s2_row a_s3 a_s3_row d_hour d_traced d_latestFault f_kind f_wet f_wide f_rows f_cells f_sun f_all f_firstColumn f_lastColumn t_hours t_opened t_firstWrong g_kind g_wet g_wide g_rows g_cells g_sun g_all g_firstColumn g_lastColumn r_cells r_hours r_cracked r_count S_row S_lane S_length)) (rest := []) (st1 := [.int q5_1]) Cc hK hA hP hD hS hl.1 (ctX0_isCell l D cI cS a_f a_f_kind a_f_wet f_kind f_wet f_wide f_rows f_cells f_sun f_all f_firstColumn f_lastColumn p1 n q5_1 hq1) ⟨tw_218, tw_215, tw_216, tw_217, tw_2⟩ mdX0_isCell ⟨rfl, rfl, Nat.le_of_ble_eq_true rfl, Nat.le_of_ble_eq_true rfl⟩ rfl dX4_silt_5 rfl (Nat.le_of_ble_eq_true rfl) ⟨Nat.zero_le _, Nat.zero_le _⟩ rfl rfl rfl [1, 2, 3] [0, 4, 5, 6, 7, 8, 9, 10, 11, 12, 13, 14, 15, 16, 17, 18, 19, 20] [0, 18, 19, 20, 1, 2, 3, 4, 5, 6, 7, 8, 9, 10, 11, 12, 13, 14, 15, 16, 17] rfl rfl (by decide) rfl (fun H locs hP hD hS => ?_)
  refine lv_if_ne (tgt := 13) hx hb dX4_silt_8 (by decide) (fun hc2 => ?_) (fun hc2 => ?_)
  · replace hf := (if_neg hc2).symm.trans hf
    refine lv_iload_n hx hb dX4_silt_13 rfl (lv_at hl 2 rfl) ?_
    refine lv_iconst (v := (0 : Int32)) hx hb dX4_silt_14 (by decide) ?_
    refine lv_iconst (v := (2 : Int32)) hx hb dX4_silt_15 (by decide) ?_
    obtain ⟨q16_1, hq3, hf⟩ := Option.bind_eq_some_iff.mp hf
    refine cSt (ws' := (W_D cI cS a_d a_f a_t a_r a_z a_f_kind a_f_wet a_g a_g_kind a_g_wet a_r_cells a_r_hours a_r_cracked a_s0 a_s0_row a_s1 a_s1_row a_s2 a_s2_row a_s3 a_s3_row d_hour d_traced d_latestFault f_kind f_wet f_wide f_rows f_cells f_sun f_all f_firstColumn f_lastColumn t_hours t_opened t_firstWrong g_kind g_wet g_wide g_rows g_cells g_sun g_all g_firstColumn g_lastColumn r_cells r_hours r_cracked r_count S_row S_lane S_length)) (rest := []) (st1 := [.int q16_1]) Cc hK hA hP hD hS hl.1 (ctX4_within l D cI cS   p2 (0 : Int32) (2 : Int32) n q16_1 hq3) ⟨tw_154, tw_152, tw_153, tw_1⟩ mdX4_within ⟨rfl, rfl, Nat.le_of_ble_eq_true rfl, Nat.le_of_ble_eq_true rfl⟩ rfl dX4_silt_16 rfl (Nat.le_of_ble_eq_true rfl) ⟨Nat.zero_le _, Nat.zero_le _⟩ rfl [] [0, 1, 2, 3, 4, 5, 6, 7, 8, 9, 10, 11, 12, 13, 14, 15, 16, 17, 18, 19, 20] [0, 1, 2, 3, 4, 5, 6, 7, 8, 9, 10, 11, 12, 13, 14, 15, 16, 17, 18, 19, 20] rfl rfl (by decide) rfl (fun H locs hP hD hS => ?_)
    refine lv_if_ne (tgt := 25) hx hb dX4_silt_19 (by decide) (fun hc4 => ?_) (fun hc4 => ?_)
    · replace hf := (if_neg hc4).symm.trans hf
      refine lv_aload_n hx hb dX4_silt_25 rfl (lv_at hl 0 rfl) ?_
      refine va_get (D := D) (ci := 4) (v := .ref a_f) (C := RX4) (T := TX4) (N := 7) hx hb hts inX4 hown hK hP 0 rfl rfl 0 (by decide) (hts _ tw_123) (fun _ h9 => h9) rfl dX4_silt_26 ?_
      refine va_getN (D := D) (ci := 0) (v := .ref a_f_kind) (C := RX0) (T := TX0) (N := 9) hx hb hts inX0 hown hK hP 1 rfl rfl 0 (by decide) (va_Nw.use rfl (hnw _ nn_0)) (fun _ h9 => h9) rfl dX4_silt_29 ?_
      refine lv_iload_n hx hb dX4_silt_32 rfl (lv_at hl 1 rfl) ?_
      obtain ⟨hin, hf⟩ := gd_some hf
      refine va_iald hx hb hK hP 2 0 rfl rfl hin dX4_silt_33 ?_
      refine lv_istore_n (lv' := [(3, .int (f_kind p1.toNatClampNeg)), (0, .ref a_d), (1, .int p1), (2, .int p2)]) hx hb dX4_silt_34 rfl hl (by decide) rfl (fun ls hl => ?_)
      refine lv_aload_n hx hb dX4_silt_35 rfl (lv_at hl 1 rfl) ?_
      refine va_get (D := D) (ci := 4) (v := .ref a_f) (C := RX4) (T := TX4) (N := 7) hx hb hts inX4 hown hK hP 0 rfl rfl 0 (by decide) (hts _ tw_123) (fun _ h9 => h9) rfl dX4_silt_36 ?_
      refine va_getN (D := D) (ci := 0) (v := .ref a_f_kind) (C := RX0) (T := TX0) (N := 9) hx hb hts inX0 hown hK hP 1 rfl rfl 0 (by decide) (va_Nw.use rfl (hnw _ nn_0)) (fun _ h9 => h9) rfl dX4_silt_39 ?_
      refine lv_iload_n hx hb dX4_silt_42 rfl (lv_at hl 2 rfl) ?_
      refine lv_iload_n hx hb dX4_silt_43 rfl (lv_at hl 3 rfl) ?_
      obtain ⟨hin, hf⟩ := gd_some hf
      refine va_iast hx hb hK hP hD hS 2 0 rfl rfl hin dX4_silt_44 (fun H locs hP hD hS => ?_)
      have hP : va_P D classes (W_D cI cS a_d a_f a_t a_r a_z a_f_kind a_f_wet a_g a_g_kind a_g_wet a_r_cells a_r_hours a_r_cracked a_s0 a_s0_row a_s1 a_s1_row a_s2 a_s2_row a_s3 a_s3_row d_hour d_traced d_latestFault (upd f_kind p1.toNatClampNeg p2) f_wet f_wide f_rows f_cells f_sun f_all f_firstColumn f_lastColumn t_hours t_opened t_firstWrong g_kind g_wet g_wide g_rows g_cells g_sun g_all g_firstColumn g_lastColumn r_cells r_hours r_cracked r_count S_row S_lane S_length) H := hP
      have hD : va_D A (W_D cI cS a_d a_f a_t a_r a_z a_f_kind a_f_wet a_g a_g_kind a_g_wet a_r_cells a_r_hours a_r_cracked a_s0 a_s0_row a_s1 a_s1_row a_s2 a_s2_row a_s3 a_s3_row d_hour d_traced d_latestFault (upd f_kind p1.toNatClampNeg p2) f_wet f_wide f_rows f_cells f_sun f_all f_firstColumn f_lastColumn t_hours t_opened t_firstWrong g_kind g_wet g_wide g_rows g_cells g_sun g_all g_firstColumn g_lastColumn r_cells r_hours r_cracked r_count S_row S_lane S_length) := hD
      refine lv_iload_n hx hb dX4_silt_45 rfl (lv_at hl 0 rfl) ?_
      replace hf := Option.some.inj hf
      obtain ⟨er0, er1⟩ := Prod.mk.inj hf
      clear hf 
      subst er0
      subst er1
      exact rt_i Cc hK hP hD hS dX4_silt_46
    · replace hf := (if_pos hc4).symm.trans hf
      refine lv_bipush (v := (-2 : Int32)) hx hb dX4_silt_22 (by decide) ?_
      replace hf := Option.some.inj hf
      obtain ⟨er0, er1⟩ := Prod.mk.inj hf
      clear hf 
      subst er0
      subst er1
      exact rt_i Cc hK hP hD hS dX4_silt_24
  · replace hf := (if_pos hc2).symm.trans hf
    refine lv_iconst (v := (-1 : Int32)) hx hb dX4_silt_11 (by decide) ?_
    replace hf := Option.some.inj hf
    obtain ⟨er0, er1⟩ := Prod.mk.inj hf
    clear hf 
    subst er0
    subst er1
    exact rt_i Cc hK hP hD hS dX4_silt_12
-- X4_dry
def fX4_dry (n : Nat) (d_hour : Int32) (f_kind : Nat → Int32) (f_wet : Nat → Int32) (f_cells : Int32) (f_sun : Int32) (f_all : Int32) (p1 : Int32) : Option (Int32 × Int32 × (Nat → Int32)) := (fX4_within n p1 (1 : Int32) (30 : Int32)).bind fun q4_1 => if q4_1 = 0 then some ((-2 : Int32), d_hour, f_wet) else (fX0_isThere n f_cells).bind fun q17_1 => if q17_1 = 0 then some ((-3 : Int32), d_hour, f_wet) else (fX0_wetSet n f_wet f_cells f_all).bind fun q30_1 => (fX0_passHours n f_kind f_wet f_cells f_sun p1).bind fun q39_2 => (fX0_crackedSet n q39_2 f_cells).bind fun q57_3 => (fJ6_bitCount_0f7a4 n (q30_1 &&& q57_3)).bind fun q61_4 => some (q61_4, (d_hour + p1), q39_2)
theorem mdX4_dry : yX4_dry.cls = RX4 ∧ yX4_dry.cls ≠ "java/lang/invoke/MethodHandle" ∧ yX4_dry.cls ≠ "java/lang/invoke/VarHandle" ∧ (parseMethodDescriptor yX4_dry.desc).map (fun d => d.parameters.length) = some 1 := by decide +kernel
set_option maxHeartbeats 4000000 in
set_option maxRecDepth 100000 in
theorem ctX4_dry (l : Launch) (D : va_G) (cI cS : ClassId) (a_d a_f a_t a_r a_z a_f_kind a_f_wet a_g a_g_kind a_g_wet a_r_cells a_r_hours a_r_cracked a_s0 a_s0_row a_s1 a_s1_row a_s2 a_s2_row a_s3 a_s3_row : Nat) (d_hour : Int32) (d_traced : Int32) (d_latestFault : Int32) (f_kind : Nat → Int32) (f_wet : Nat → Int32) (f_wide : Int32) (f_rows : Int32) (f_cells : Int32) (f_sun : Int32) (f_all : Int32) (f_firstColumn : Int32) (f_lastColumn : Int32) (t_hours : Int32) (t_opened : Int32) (t_firstWrong : Int32) (g_kind : Nat → Int32) (g_wet : Nat → Int32) (g_wide : Int32) (g_rows : Int32) (g_cells : Int32) (g_sun : Int32) (g_all : Int32) (g_firstColumn : Int32) (g_lastColumn : Int32) (r_cells : Nat → Int32) (r_hours : Nat → Int32) (r_cracked : Nat → Int32) (r_count : Int32) (S_row : Nat → Nat → Int32) (S_lane : Nat → Int32) (S_length : Nat → Int32) (p1 : Int32) (n : Nat) (r : Int32) (d_hour' : Int32) (f_wet' : Nat → Int32) (hf : fX4_dry n d_hour f_kind f_wet f_cells f_sun f_all p1 = some (r, d_hour', f_wet')) : Ct l D (tysA cI cS) yX4_dry cX4_dry 3 (some .int) (Rm 2) [.ref a_d, .int p1] (W_D cI cS a_d a_f a_t a_r a_z a_f_kind a_f_wet a_g a_g_kind a_g_wet a_r_cells a_r_hours a_r_cracked a_s0 a_s0_row a_s1 a_s1_row a_s2 a_s2_row a_s3 a_s3_row d_hour d_traced d_latestFault f_kind f_wet f_wide f_rows f_cells f_sun f_all f_firstColumn f_lastColumn t_hours t_opened t_firstWrong g_kind g_wet g_wide g_rows g_cells g_sun g_all g_firstColumn g_lastColumn r_cells r_hours r_cracked r_count S_row S_lane S_length) (some (.int r)) (W_D cI cS a_d a_f a_t a_r a_z a_f_kind a_f_wet a_g a_g_kind a_g_wet a_r_cells a_r_hours a_r_cracked a_s0 a_s0_row a_s1 a_s1_row a_s2 a_s2_row a_s3 a_s3_row d_hour' d_traced d_latestFault f_kind f_wet' f_wide f_rows f_cells f_sun f_all f_firstColumn f_lastColumn t_hours t_opened t_firstWrong g_kind g_wet g_wide g_rows g_cells g_sun g_all g_firstColumn g_lastColumn r_cells r_hours r_cracked r_count S_row S_lane S_length) := by
  refine Ct_of (by decide) (Nat.le_of_ble_eq_true rfl) ?_
  intro p e s m args below meth c A ls Cc hK hA hP hD hS hl
  have hl : lv_has ls 3 [(0, .ref a_d), (1, .int p1)] := hl
  obtain ⟨hx, hb, hr, hml, hown, hts, hlk, hnw⟩ := id Cc
  unfold fX4_dry at hf
  refine lv_iload_n hx hb dX4_dry_0 rfl (lv_at hl 1 rfl) ?_
  refine lv_iconst (v := (1 : Int32)) hx hb dX4_dry_1 (by decide) ?_
  refine lv_bipush (v := (30 : Int32)) hx hb dX4_dry_2 (by decide) ?_
  obtain ⟨q4_1, hq1, hf⟩ := Option.bind_eq_some_iff.mp hf
  refine cSt (ws' := (W_D cI cS a_d a_f a_t a_r a_z a_f_kind a_f_wet a_g a_g_kind a_g_wet a_r_cells a_r_hours a_r_cracked a_s0 a_s0_row a_s1 a_s1_row a_s2 a_s2_row a_s3 a_s3_row d_hour d_traced d_latestFault f_kind f_wet f_wide f_rows f_cells f_sun f_all f_firstColumn f_lastColumn t_hours t_opened t_firstWrong g_kind g_wet g_wide g_rows g_cells g_sun g_all g_firstColumn g_lastColumn r_cells r_hours r_cracked r_count S_row S_lane S_length)) (rest := []) (st1 := [.int q4_1]) Cc hK hA hP hD hS hl.1 (ctX4_within l D cI cS   p1 (1 : Int32) (30 : Int32) n q4_1 hq1) ⟨tw_154, tw_152, tw_153, tw_1⟩ mdX4_within ⟨rfl, rfl, Nat.le_of_ble_eq_true rfl, Nat.le_of_ble_eq_true rfl⟩ rfl dX4_dry_4 rfl (Nat.le_of_ble_eq_true rfl) ⟨Nat.zero_le _, Nat.zero_le _⟩ rfl [] [0, 1, 2, 3, 4, 5, 6, 7, 8, 9, 10, 11, 12, 13, 14, 15, 16, 17, 18, 19, 20] [0, 1, 2, 3, 4, 5, 6, 7, 8, 9, 10, 11, 12, 13, 14, 15, 16, 17, 18, 19, 20] rfl rfl (by decide) rfl (fun H locs hP hD hS => ?_)
  refine lv_if_ne (tgt := 13) hx hb dX4_dry_7 (by decide) (fun hc2 => ?_) (fun hc2 => ?_)
  · replace hf := (if_neg hc2).symm.trans hf
    refine lv_aload_n hx hb dX4_dry_13 rfl (lv_at hl 0 rfl) ?_
    refine va_get (D := D) (ci := 4) (v := .ref a_f) (C := RX4) (T := TX4) (N := 7) hx hb hts inX4 hown hK hP 0 rfl rfl 0 (by decide) (hts _ tw_123) (fun _ h9 => h9) rfl dX4_dry_14 ?_
    obtain ⟨q17_1, hq3, hf⟩ := Option.bind_eq_some_iff.mp hf
    refine cV (ws' := (W_D cI cS a_d a_f a_t a_r a_z a_f_kind a_f_wet a_g a_g_kind a_g_wet a_r_cells a_r_hours a_r_cracked a_s0 a_s0_row a_s1 a_s1_row a_s2 a_s2_row a_s3 a_s3_row d_hour d_traced d_latestFault f_kind f_wet f_wide f_rows f_cells f_sun f_all f_firstColumn f_lastColumn t_hours t_opened t_firstWrong g_kind g_wet g_wide g_rows g_cells g_sun g_all g_firstColumn g_lastColumn r_cells r_hours r_cracked r_count S_row S_lane S_length)) (rest := []) (st1 := [.int q17_1]) Cc hK hA hP hD hS hl.1 (ctX0_isThere l D cI cS a_f a_f_kind a_f_wet f_kind f_wet f_wide f_rows f_cells f_sun f_all f_firstColumn f_lastColumn  n q17_1 hq3) ⟨tw_252, tw_249, tw_250, tw_251, tw_2⟩ mdX0_isThere ⟨rfl, rfl, Nat.le_of_ble_eq_true rfl, Nat.le_of_ble_eq_true rfl⟩ rfl dX4_dry_17 rfl (Nat.le_of_ble_eq_true rfl) ⟨Nat.zero_le _, Nat.zero_le _⟩ rfl rfl rfl [1, 2, 3] [0, 4, 5, 6, 7, 8, 9, 10, 11, 12, 13, 14, 15, 16, 17, 18, 19, 20] [0, 18, 19, 20, 1, 2, 3, 4, 5, 6, 7, 8, 9, 10, 11, 12, 13, 14, 15, 16, 17] rfl rfl (by decide) rfl (fun H locs hP hD hS => ?_)
    refine lv_if_ne (tgt := 26) hx hb dX4_dry_20 (by decide) (fun hc4 => ?_) (fun hc4 => ?_)
    · replace hf := (if_neg hc4).symm.trans hf
      refine lv_aload_n hx hb dX4_dry_26 rfl (lv_at hl 0 rfl) ?_
      refine va_get (D := D) (ci := 4) (v := .ref a_f) (C := RX4) (T := TX4) (N := 7) hx hb hts inX4 hown hK hP 0 rfl rfl 0 (by decide) (hts _ tw_123) (fun _ h9 => h9) rfl dX4_dry_27 ?_
      obtain ⟨q30_1, hq5, hf⟩ := Option.bind_eq_some_iff.mp hf
      refine cV (ws' := (W_D cI cS a_d a_f a_t a_r a_z a_f_kind a_f_wet a_g a_g_kind a_g_wet a_r_cells a_r_hours a_r_cracked a_s0 a_s0_row a_s1 a_s1_row a_s2 a_s2_row a_s3 a_s3_row d_hour d_traced d_latestFault f_kind f_wet f_wide f_rows f_cells f_sun f_all f_firstColumn f_lastColumn t_hours t_opened t_firstWrong g_kind g_wet g_wide g_rows g_cells g_sun g_all g_firstColumn g_lastColumn r_cells r_hours r_cracked r_count S_row S_lane S_length)) (rest := []) (st1 := [.int q30_1]) Cc hK hA hP hD hS hl.1 (ctX0_wetSet l D cI cS a_f a_f_kind a_f_wet f_kind f_wet f_wide f_rows f_cells f_sun f_all f_firstColumn f_lastColumn  n q30_1 hq5) ⟨tw_226, tw_223, tw_224, tw_225, tw_2⟩ mdX0_wetSet ⟨rfl, rfl, Nat.le_of_ble_eq_true rfl, Nat.le_of_ble_eq_true rfl⟩ rfl dX4_dry_30 rfl (Nat.le_of_ble_eq_true rfl) ⟨Nat.zero_le _, Nat.zero_le _⟩ rfl rfl rfl [1, 2, 3] [0, 4, 5, 6, 7, 8, 9, 10, 11, 12, 13, 14, 15, 16, 17, 18, 19, 20] [0, 18, 19, 20, 1, 2, 3, 4, 5, 6, 7, 8, 9, 10, 11, 12, 13, 14, 15, 16, 17] rfl rfl (by decide) rfl (fun H locs hP hD hS => ?_)
      refine lv_istore_n (lv' := [(2, .int q30_1), (0, .ref a_d), (1, .int p1)]) hx hb dX4_dry_33 rfl hl (by decide) rfl (fun ls hl => ?_)
      refine lv_aload_n hx hb dX4_dry_34 rfl (lv_at hl 1 rfl) ?_
      refine va_get (D := D) (ci := 4) (v := .ref a_f) (C := RX4) (T := TX4) (N := 7) hx hb hts inX4 hown hK hP 0 rfl rfl 0 (by decide) (hts _ tw_123) (fun _ h9 => h9) rfl dX4_dry_35 ?_
      refine lv_iload_n hx hb dX4_dry_38 rfl (lv_at hl 2 rfl) ?_
      obtain ⟨q39_2, hq6, hf⟩ := Option.bind_eq_some_iff.mp hf
      refine cV (ws' := (W_D cI cS a_d a_f a_t a_r a_z a_f_kind a_f_wet a_g a_g_kind a_g_wet a_r_cells a_r_hours a_r_cracked a_s0 a_s0_row a_s1 a_s1_row a_s2 a_s2_row a_s3 a_s3_row d_hour d_traced d_latestFault f_kind q39_2 f_wide f_rows f_cells f_sun f_all f_firstColumn f_lastColumn t_hours t_opened t_firstWrong g_kind g_wet g_wide g_rows g_cells g_sun g_all g_firstColumn g_lastColumn r_cells r_hours r_cracked r_count S_row S_lane S_length)) (rest := []) (st1 := []) Cc hK hA hP hD hS hl.1 (ctX0_passHours l D cI cS a_f a_f_kind a_f_wet f_kind f_wet f_wide f_rows f_cells f_sun f_all f_firstColumn f_lastColumn p1 n q39_2 hq6) ⟨tw_264, tw_261, tw_262, tw_263, tw_2⟩ mdX0_passHours ⟨rfl, rfl, Nat.le_of_ble_eq_true rfl, Nat.le_of_ble_eq_true rfl⟩ rfl dX4_dry_39 rfl (Nat.le_of_ble_eq_true rfl) ⟨Nat.zero_le _, Nat.zero_le _⟩ rfl rfl rfl [1, 2, 3] [0, 4, 5, 6, 7, 8, 9, 10, 11, 12, 13, 14, 15, 16, 17, 18, 19, 20] [0, 18, 19, 20, 1, 2, 3, 4, 5, 6, 7, 8, 9, 10, 11, 12, 13, 14, 15, 16, 17] rfl rfl (by decide) rfl (fun H locs hP hD hS => ?_)
      refine lv_aload_n hx hb dX4_dry_42 rfl (lv_at hl 1 rfl) ?_
      refine lv_dup hx hb dX4_dry_43 rfl ?_
      refine va_get (D := D) (ci := 4) (v := .int d_hour) (C := RX4) (T := TX4) (N := 7) hx hb hts inX4 hown hK hP 0 rfl rfl 4 (by decide) (hts _ tw_127) (fun _ h9 => h9) rfl dX4_dry_44 ?_
      refine lv_iload_n hx hb dX4_dry_47 rfl (lv_at hl 2 rfl) ?_
      refine lv_iadd hx hb dX4_dry_48 ?_
      refine va_put (D := D) (ci := 4) (v := .int (d_hour + p1)) (ty := .int) (C := RX4) (T := TX4) (N := 7) hx hb hts inX4 tyX4 tyX4_ok nmX4 hown hK hP hD hS 0 rfl rfl 4 (by decide) (hts _ tw_127) (fun _ h9 => h9) rfl (tyX4_ok 4 (by decide)) rfl rfl (Nat.le_of_ble_eq_true rfl) dX4_dry_49 (fun H locs hP hD hS => ?_)
      have hP : va_P D classes (W_D cI cS a_d a_f a_t a_r a_z a_f_kind a_f_wet a_g a_g_kind a_g_wet a_r_cells a_r_hours a_r_cracked a_s0 a_s0_row a_s1 a_s1_row a_s2 a_s2_row a_s3 a_s3_row (d_hour + p1) d_traced d_latestFault f_kind q39_2 f_wide f_rows f_cells f_sun f_all f_firstColumn f_lastColumn t_hours t_opened t_firstWrong g_kind g_wet g_wide g_rows g_cells g_sun g_all g_firstColumn g_lastColumn r_cells r_hours r_cracked r_count S_row S_lane S_length) H := hP
      have hD : va_D A (W_D cI cS a_d a_f a_t a_r a_z a_f_kind a_f_wet a_g a_g_kind a_g_wet a_r_cells a_r_hours a_r_cracked a_s0 a_s0_row a_s1 a_s1_row a_s2 a_s2_row a_s3 a_s3_row (d_hour + p1) d_traced d_latestFault f_kind q39_2 f_wide f_rows f_cells f_sun f_all f_firstColumn f_lastColumn t_hours t_opened t_firstWrong g_kind g_wet g_wide g_rows g_cells g_sun g_all g_firstColumn g_lastColumn r_cells r_hours r_cracked r_count S_row S_lane S_length) := hD
      refine lv_iload_n hx hb dX4_dry_52 rfl (lv_at hl 0 rfl) ?_
      refine lv_aload_n hx hb dX4_dry_53 rfl (lv_at hl 1 rfl) ?_
      refine va_get (D := D) (ci := 4) (v := .ref a_f) (C := RX4) (T := TX4) (N := 7) hx hb hts inX4 hown hK hP 0 rfl rfl 0 (by decide) (hts _ tw_123) (fun _ h9 => h9) rfl dX4_dry_54 ?_
      obtain ⟨q57_3, hq7, hf⟩ := Option.bind_eq_some_iff.mp hf
      refine cV (ws' := (W_D cI cS a_d a_f a_t a_r a_z a_f_kind a_f_wet a_g a_g_kind a_g_wet a_r_cells a_r_hours a_r_cracked a_s0 a_s0_row a_s1 a_s1_row a_s2 a_s2_row a_s3 a_s3_row (d_hour + p1) d_traced d_latestFault f_kind q39_2 f_wide f_rows f_cells f_sun f_all f_firstColumn f_lastColumn t_hours t_opened t_firstWrong g_kind g_wet g_wide g_rows g_cells g_sun g_all g_firstColumn g_lastColumn r_cells r_hours r_cracked r_count S_row S_lane S_length)) (rest := [.int q30_1]) (st1 := [.int q57_3, .int q30_1]) Cc hK hA hP hD hS hl.1 (ctX0_crackedSet l D cI cS a_f a_f_kind a_f_wet f_kind q39_2 f_wide f_rows f_cells f_sun f_all f_firstColumn f_lastColumn  n q57_3 hq7) ⟨tw_230, tw_269, tw_228, tw_229, tw_2⟩ mdX0_crackedSet ⟨rfl, rfl, Nat.le_of_ble_eq_true rfl, Nat.le_of_ble_eq_true rfl⟩ rfl dX4_dry_57 rfl (Nat.le_of_ble_eq_true rfl) ⟨Nat.zero_le _, Nat.zero_le _⟩ rfl rfl rfl [1, 2, 3] [0, 4, 5, 6, 7, 8, 9, 10, 11, 12, 13, 14, 15, 16, 17, 18, 19, 20] [0, 18, 19, 20, 1, 2, 3, 4, 5, 6, 7, 8, 9, 10, 11, 12, 13, 14, 15, 16, 17] rfl rfl (by decide) rfl (fun H locs hP hD hS => ?_)
      refine lv_iand hx hb dX4_dry_60 ?_
      obtain ⟨q61_4, hq8, hf⟩ := Option.bind_eq_some_iff.mp hf
      refine cSt (ws' := (W_D cI cS a_d a_f a_t a_r a_z a_f_kind a_f_wet a_g a_g_kind a_g_wet a_r_cells a_r_hours a_r_cracked a_s0 a_s0_row a_s1 a_s1_row a_s2 a_s2_row a_s3 a_s3_row (d_hour + p1) d_traced d_latestFault f_kind q39_2 f_wide f_rows f_cells f_sun f_all f_firstColumn f_lastColumn t_hours t_opened t_firstWrong g_kind g_wet g_wide g_rows g_cells g_sun g_all g_firstColumn g_lastColumn r_cells r_hours r_cracked r_count S_row S_lane S_length)) (rest := []) (st1 := [.int q61_4]) Cc hK hA hP hD hS hl.1 (ctJ6_bitCount_0f7a4 l D cI cS   (q30_1 &&& q57_3) n q61_4 hq8) ⟨tw_241, tw_239, tw_240, tw_8⟩ mdJ6_bitCount_0f7a4 ⟨rfl, rfl, Nat.le_of_ble_eq_true rfl, Nat.le_of_ble_eq_true rfl⟩ rfl dX4_dry_61 rfl (Nat.le_of_ble_eq_true rfl) ⟨Nat.zero_le _, Nat.zero_le _⟩ rfl [] [0, 1, 2, 3, 4, 5, 6, 7, 8, 9, 10, 11, 12, 13, 14, 15, 16, 17, 18, 19, 20] [0, 1, 2, 3, 4, 5, 6, 7, 8, 9, 10, 11, 12, 13, 14, 15, 16, 17, 18, 19, 20] rfl rfl (by decide) rfl (fun H locs hP hD hS => ?_)
      replace hf := Option.some.inj hf
      obtain ⟨er0, er1⟩ := Prod.mk.inj hf
      obtain ⟨er2, er3⟩ := Prod.mk.inj er1
      clear hf er1
      subst er0
      subst er2
      subst er3
      exact rt_i Cc hK hP hD hS dX4_dry_64
    · replace hf := (if_pos hc4).symm.trans hf
      refine lv_bipush (v := (-3 : Int32)) hx hb dX4_dry_23 (by decide) ?_
      replace hf := Option.some.inj hf
      obtain ⟨er0, er1⟩ := Prod.mk.inj hf
      obtain ⟨er2, er3⟩ := Prod.mk.inj er1
      clear hf er1
      subst er0
      subst er2
      subst er3
      exact rt_i Cc hK hP hD hS dX4_dry_25
  · replace hf := (if_pos hc2).symm.trans hf
    refine lv_bipush (v := (-2 : Int32)) hx hb dX4_dry_10 (by decide) ?_
    replace hf := Option.some.inj hf
    obtain ⟨er0, er1⟩ := Prod.mk.inj hf
    obtain ⟨er2, er3⟩ := Prod.mk.inj er1
    clear hf er1
    subst er0
    subst er2
    subst er3
    exact rt_i Cc hK hP hD hS dX4_dry_12
-- X4_pour
def fX4_pour (n : Nat) (f_wet : Nat → Int32) (f_cells : Int32) (p1 : Int32) (p2 : Int32) : Option (Int32 × (Nat → Int32)) := (fX0_isCell n f_cells p1).bind fun q5_1 => if q5_1 = 0 then some ((-1 : Int32), f_wet) else (fX4_within n p2 (1 : Int32) (9 : Int32)).bind fun q17_1 => if q17_1 = 0 then some ((-2 : Int32), f_wet) else (fX0_pourOn n f_wet f_cells p1 p2).bind fun q32_1 => if q32_1.1 = 0 then some ((-3 : Int32), q32_1.2) else gd p1 12 (some ((q32_1.2 p1.toNatClampNeg), q32_1.2))
theorem mdX4_pour : yX4_pour.cls = RX4 ∧ yX4_pour.cls ≠ "java/lang/invoke/MethodHandle" ∧ yX4_pour.cls ≠ "java/lang/invoke/VarHandle" ∧ (parseMethodDescriptor yX4_pour.desc).map (fun d => d.parameters.length) = some 2 := by decide +kernel
set_option maxHeartbeats 4000000 in
set_option maxRecDepth 100000 in
theorem ctX4_pour (l : Launch) (D : va_G) (cI cS : ClassId) (a_d a_f a_t a_r a_z a_f_kind a_f_wet a_g a_g_kind a_g_wet a_r_cells a_r_hours a_r_cracked a_s0 a_s0_row a_s1 a_s1_row a_s2 a_s2_row a_s3 a_s3_row : Nat) (d_hour : Int32) (d_traced : Int32) (d_latestFault : Int32) (f_kind : Nat → Int32) (f_wet : Nat → Int32) (f_wide : Int32) (f_rows : Int32) (f_cells : Int32) (f_sun : Int32) (f_all : Int32) (f_firstColumn : Int32) (f_lastColumn : Int32) (t_hours : Int32) (t_opened : Int32) (t_firstWrong : Int32) (g_kind : Nat → Int32) (g_wet : Nat → Int32) (g_wide : Int32) (g_rows : Int32) (g_cells : Int32) (g_sun : Int32) (g_all : Int32) (g_firstColumn : Int32) (g_lastColumn : Int32) (r_cells : Nat → Int32) (r_hours : Nat → Int32) (r_cracked : Nat → Int32) (r_count : Int32) (S_row : Nat → Nat → Int32) (S_lane : Nat → Int32) (S_length : Nat → Int32) (p1 : Int32) (p2 : Int32) (n : Nat) (r : Int32) (f_wet' : Nat → Int32) (hf : fX4_pour n f_wet f_cells p1 p2 = some (r, f_wet')) : Ct l D (tysA cI cS) yX4_pour cX4_pour 3 (some .int) (Rm 2) [.ref a_d, .int p1, .int p2] (W_D cI cS a_d a_f a_t a_r a_z a_f_kind a_f_wet a_g a_g_kind a_g_wet a_r_cells a_r_hours a_r_cracked a_s0 a_s0_row a_s1 a_s1_row a_s2 a_s2_row a_s3 a_s3_row d_hour d_traced d_latestFault f_kind f_wet f_wide f_rows f_cells f_sun f_all f_firstColumn f_lastColumn t_hours t_opened t_firstWrong g_kind g_wet g_wide g_rows g_cells g_sun g_all g_firstColumn g_lastColumn r_cells r_hours r_cracked r_count S_row S_lane S_length) (some (.int r)) (W_D cI cS a_d a_f a_t a_r a_z a_f_kind a_f_wet a_g a_g_kind a_g_wet a_r_cells a_r_hours a_r_cracked a_s0 a_s0_row a_s1 a_s1_row a_s2 a_s2_row a_s3 a_s3_row d_hour d_traced d_latestFault f_kind f_wet' f_wide f_rows f_cells f_sun f_all f_firstColumn f_lastColumn t_hours t_opened t_firstWrong g_kind g_wet g_wide g_rows g_cells g_sun g_all g_firstColumn g_lastColumn r_cells r_hours r_cracked r_count S_row S_lane S_length) := by
  refine Ct_of (by decide) (Nat.le_of_ble_eq_true rfl) ?_
  intro p e s m args below meth c A ls Cc hK hA hP hD hS hl
  have hl : lv_has ls 3 [(0, .ref a_d), (1, .int p1), (2, .int p2)] := hl
  obtain ⟨hx, hb, hr, hml, hown, hts, hlk, hnw⟩ := id Cc
  unfold fX4_pour at hf
  refine lv_aload_n hx hb dX4_pour_0 rfl (lv_at hl 0 rfl) ?_
  refine va_get (D := D) (ci := 4) (v := .ref a_f) (C := RX4) (T := TX4) (N := 7) hx hb hts inX4 hown hK hP 0 rfl rfl 0 (by decide) (hts _ tw_123) (fun _ h9 => h9) rfl dX4_pour_1 ?_
  refine lv_iload_n hx hb dX4_pour_4 rfl (lv_at hl 1 rfl) ?_
  obtain ⟨q5_1, hq1, hf⟩ := Option.bind_eq_some_iff.mp hf
  refine cV (ws' := (W_D cI cS a_d a_f a_t a_r a_z a_f_kind a_f_wet a_g a_g_kind a_g_wet a_r_cells a_r_hours a_r_cracked a_s0 a_s0_row a_s1 a_s1_row a_s2 a_s2_row a_s3 a_s3_row d_hour d_traced d_latestFault f_kind f_wet f_wide f_rows f_cells f_sun f_all f_firstColumn f_lastColumn t_hours t_opened t_firstWrong g_kind g_wet g_wide g_rows g_cells g_sun g_all g_firstColumn g_lastColumn r_cells r_hours r_cracked r_count S_row S_lane S_length)) (rest := []) (st1 := [.int q5_1]) Cc hK hA hP hD hS hl.1 (ctX0_isCell l D cI cS a_f a_f_kind a_f_wet f_kind f_wet f_wide f_rows f_cells f_sun f_all f_firstColumn f_lastColumn p1 n q5_1 hq1) ⟨tw_218, tw_215, tw_216, tw_217, tw_2⟩ mdX0_isCell ⟨rfl, rfl, Nat.le_of_ble_eq_true rfl, Nat.le_of_ble_eq_true rfl⟩ rfl dX4_pour_5 rfl (Nat.le_of_ble_eq_true rfl) ⟨Nat.zero_le _, Nat.zero_le _⟩ rfl rfl rfl [1, 2, 3] [0, 4, 5, 6, 7, 8, 9, 10, 11, 12, 13, 14, 15, 16, 17, 18, 19, 20] [0, 18, 19, 20, 1, 2, 3, 4, 5, 6, 7, 8, 9, 10, 11, 12, 13, 14, 15, 16, 17] rfl rfl (by decide) rfl (fun H locs hP hD hS => ?_)
  refine lv_if_ne (tgt := 13) hx hb dX4_pour_8 (by decide) (fun hc2 => ?_) (fun hc2 => ?_)
  · replace hf := (if_neg hc2).symm.trans hf
    refine lv_iload_n hx hb dX4_pour_13 rfl (lv_at hl 2 rfl) ?_
    refine lv_iconst (v := (1 : Int32)) hx hb dX4_pour_14 (by decide) ?_
    refine lv_bipush (v := (9 : Int32)) hx hb dX4_pour_15 (by decide) ?_
    obtain ⟨q17_1, hq3, hf⟩ := Option.bind_eq_some_iff.mp hf
    refine cSt (ws' := (W_D cI cS a_d a_f a_t a_r a_z a_f_kind a_f_wet a_g a_g_kind a_g_wet a_r_cells a_r_hours a_r_cracked a_s0 a_s0_row a_s1 a_s1_row a_s2 a_s2_row a_s3 a_s3_row d_hour d_traced d_latestFault f_kind f_wet f_wide f_rows f_cells f_sun f_all f_firstColumn f_lastColumn t_hours t_opened t_firstWrong g_kind g_wet g_wide g_rows g_cells g_sun g_all g_firstColumn g_lastColumn r_cells r_hours r_cracked r_count S_row S_lane S_length)) (rest := []) (st1 := [.int q17_1]) Cc hK hA hP hD hS hl.1 (ctX4_within l D cI cS   p2 (1 : Int32) (9 : Int32) n q17_1 hq3) ⟨tw_154, tw_152, tw_153, tw_1⟩ mdX4_within ⟨rfl, rfl, Nat.le_of_ble_eq_true rfl, Nat.le_of_ble_eq_true rfl⟩ rfl dX4_pour_17 rfl (Nat.le_of_ble_eq_true rfl) ⟨Nat.zero_le _, Nat.zero_le _⟩ rfl [] [0, 1, 2, 3, 4, 5, 6, 7, 8, 9, 10, 11, 12, 13, 14, 15, 16, 17, 18, 19, 20] [0, 1, 2, 3, 4, 5, 6, 7, 8, 9, 10, 11, 12, 13, 14, 15, 16, 17, 18, 19, 20] rfl rfl (by decide) rfl (fun H locs hP hD hS => ?_)
    refine lv_if_ne (tgt := 26) hx hb dX4_pour_20 (by decide) (fun hc4 => ?_) (fun hc4 => ?_)
    · replace hf := (if_neg hc4).symm.trans hf
      refine lv_aload_n hx hb dX4_pour_26 rfl (lv_at hl 0 rfl) ?_
      refine va_get (D := D) (ci := 4) (v := .ref a_f) (C := RX4) (T := TX4) (N := 7) hx hb hts inX4 hown hK hP 0 rfl rfl 0 (by decide) (hts _ tw_123) (fun _ h9 => h9) rfl dX4_pour_27 ?_
      refine lv_iload_n hx hb dX4_pour_30 rfl (lv_at hl 1 rfl) ?_
      refine lv_iload_n hx hb dX4_pour_31 rfl (lv_at hl 2 rfl) ?_
      obtain ⟨q32_1, hq5, hf⟩ := Option.bind_eq_some_iff.mp hf
      refine cV (ws' := (W_D cI cS a_d a_f a_t a_r a_z a_f_kind a_f_wet a_g a_g_kind a_g_wet a_r_cells a_r_hours a_r_cracked a_s0 a_s0_row a_s1 a_s1_row a_s2 a_s2_row a_s3 a_s3_row d_hour d_traced d_latestFault f_kind q32_1.2 f_wide f_rows f_cells f_sun f_all f_firstColumn f_lastColumn t_hours t_opened t_firstWrong g_kind g_wet g_wide g_rows g_cells g_sun g_all g_firstColumn g_lastColumn r_cells r_hours r_cracked r_count S_row S_lane S_length)) (rest := []) (st1 := [.int q32_1.1]) Cc hK hA hP hD hS hl.1 (ctX0_pourOn l D cI cS a_f a_f_kind a_f_wet f_kind f_wet f_wide f_rows f_cells f_sun f_all f_firstColumn f_lastColumn p1 p2 n q32_1.1 q32_1.2 hq5) ⟨tw_277, tw_274, tw_275, tw_276, tw_2⟩ mdX0_pourOn ⟨rfl, rfl, Nat.le_of_ble_eq_true rfl, Nat.le_of_ble_eq_true rfl⟩ rfl dX4_pour_32 rfl (Nat.le_of_ble_eq_true rfl) ⟨Nat.zero_le _, Nat.zero_le _⟩ rfl rfl rfl [1, 2, 3] [0, 4, 5, 6, 7, 8, 9, 10, 11, 12, 13, 14, 15, 16, 17, 18, 19, 20] [0, 18, 19, 20, 1, 2, 3, 4, 5, 6, 7, 8, 9, 10, 11, 12, 13, 14, 15, 16, 17] rfl rfl (by decide) rfl (fun H locs hP hD hS => ?_)
      refine lv_if_ne (tgt := 41) hx hb dX4_pour_35 (by decide) (fun hc6 => ?_) (fun hc6 => ?_)
      · replace hf := (if_neg hc6).symm.trans hf
        refine lv_aload_n hx hb dX4_pour_41 rfl (lv_at hl 0 rfl) ?_
        refine va_get (D := D) (ci := 4) (v := .ref a_f) (C := RX4) (T := TX4) (N := 7) hx hb hts inX4 hown hK hP 0 rfl rfl 0 (by decide) (hts _ tw_123) (fun _ h9 => h9) rfl dX4_pour_42 ?_
        refine va_getN (D := D) (ci := 0) (v := .ref a_f_wet) (C := RX0) (T := TX0) (N := 9) hx hb hts inX0 hown hK hP 1 rfl rfl 1 (by decide) (va_Nw.use rfl (hnw _ nn_1)) (fun _ h9 => h9) rfl dX4_pour_45 ?_
        refine lv_iload_n hx hb dX4_pour_48 rfl (lv_at hl 1 rfl) ?_
        obtain ⟨hin, hf⟩ := gd_some hf
        refine va_iald hx hb hK hP 3 0 rfl rfl hin dX4_pour_49 ?_
        replace hf := Option.some.inj hf
        obtain ⟨er0, er1⟩ := Prod.mk.inj hf
        clear hf 
        subst er0
        subst er1
        exact rt_i Cc hK hP hD hS dX4_pour_50
      · replace hf := (if_pos hc6).symm.trans hf
        refine lv_bipush (v := (-3 : Int32)) hx hb dX4_pour_38 (by decide) ?_
        replace hf := Option.some.inj hf
        obtain ⟨er0, er1⟩ := Prod.mk.inj hf
        clear hf 
        subst er0
        subst er1
        exact rt_i Cc hK hP hD hS dX4_pour_40
    · replace hf := (if_pos hc4).symm.trans hf
      refine lv_bipush (v := (-2 : Int32)) hx hb dX4_pour_23 (by decide) ?_
      replace hf := Option.some.inj hf
      obtain ⟨er0, er1⟩ := Prod.mk.inj hf
      clear hf 
      subst er0
      subst er1
      exact rt_i Cc hK hP hD hS dX4_pour_25
  · replace hf := (if_pos hc2).symm.trans hf
    refine lv_iconst (v := (-1 : Int32)) hx hb dX4_pour_11 (by decide) ?_
    replace hf := Option.some.inj hf
    obtain ⟨er0, er1⟩ := Prod.mk.inj hf
    clear hf 
    subst er0
    subst er1
    exact rt_i Cc hK hP hD hS dX4_pour_12
-- X4_cracks
def fX4_cracks (n : Nat) (f_wet : Nat → Int32) (f_wide : Int32) (f_cells : Int32) (f_all : Int32) (f_firstColumn : Int32) (f_lastColumn : Int32) (p1 : Int32) : Option (Int32) := (fX4_within n p1 (0 : Int32) (3 : Int32)).bind fun q3_1 => if q3_1 = 0 then some ((-2 : Int32)) else (fX0_isThere n f_cells).bind fun q16_1 => if q16_1 = 0 then some ((-3 : Int32)) else if p1 = 0 then (fX0_crackedSet n f_wet f_cells).bind fun q56_1 => some (q56_1) else if p1 = 1 then (fX0_crackedSet n f_wet f_cells).bind fun q68_1 => (fX0_isOpenBy n f_wide f_cells f_all f_firstColumn f_lastColumn q68_1).bind fun q71_2 => if q71_2 = 0 then some ((0 : Int32)) else some ((1 : Int32)) else if p1 = 2 then (fX0_howManyPieces n f_wet f_wide f_cells f_all f_firstColumn f_lastColumn).bind fun q87_1 => some (q87_1) else (fX0_greatestPiece n f_wet f_wide f_cells f_all f_firstColumn f_lastColumn).bind fun q95_1 => some (q95_1)
theorem mdX4_cracks : yX4_cracks.cls = RX4 ∧ yX4_cracks.cls ≠ "java/lang/invoke/MethodHandle" ∧ yX4_cracks.cls ≠ "java/lang/invoke/VarHandle" ∧ (parseMethodDescriptor yX4_cracks.desc).map (fun d => d.parameters.length) = some 1 := by decide +kernel
set_option maxHeartbeats 4000000 in
set_option maxRecDepth 100000 in
theorem ctX4_cracks (l : Launch) (D : va_G) (cI cS : ClassId) (a_d a_f a_t a_r a_z a_f_kind a_f_wet a_g a_g_kind a_g_wet a_r_cells a_r_hours a_r_cracked a_s0 a_s0_row a_s1 a_s1_row a_s2 a_s2_row a_s3 a_s3_row : Nat) (d_hour : Int32) (d_traced : Int32) (d_latestFault : Int32) (f_kind : Nat → Int32) (f_wet : Nat → Int32) (f_wide : Int32) (f_rows : Int32) (f_cells : Int32) (f_sun : Int32) (f_all : Int32) (f_firstColumn : Int32) (f_lastColumn : Int32) (t_hours : Int32) (t_opened : Int32) (t_firstWrong : Int32) (g_kind : Nat → Int32) (g_wet : Nat → Int32) (g_wide : Int32) (g_rows : Int32) (g_cells : Int32) (g_sun : Int32) (g_all : Int32) (g_firstColumn : Int32) (g_lastColumn : Int32) (r_cells : Nat → Int32) (r_hours : Nat → Int32) (r_cracked : Nat → Int32) (r_count : Int32) (S_row : Nat → Nat → Int32) (S_lane : Nat → Int32) (S_length : Nat → Int32) (p1 : Int32) (n : Nat) (r : Int32) (hf : fX4_cracks n f_wet f_wide f_cells f_all f_firstColumn f_lastColumn p1 = some (r)) : Ct l D (tysA cI cS) yX4_cracks cX4_cracks 2 (some .int) (Rm 3) [.ref a_d, .int p1] (W_D cI cS a_d a_f a_t a_r a_z a_f_kind a_f_wet a_g a_g_kind a_g_wet a_r_cells a_r_hours a_r_cracked a_s0 a_s0_row a_s1 a_s1_row a_s2 a_s2_row a_s3 a_s3_row d_hour d_traced d_latestFault f_kind f_wet f_wide f_rows f_cells f_sun f_all f_firstColumn f_lastColumn t_hours t_opened t_firstWrong g_kind g_wet g_wide g_rows g_cells g_sun g_all g_firstColumn g_lastColumn r_cells r_hours r_cracked r_count S_row S_lane S_length) (some (.int r)) (W_D cI cS a_d a_f a_t a_r a_z a_f_kind a_f_wet a_g a_g_kind a_g_wet a_r_cells a_r_hours a_r_cracked a_s0 a_s0_row a_s1 a_s1_row a_s2 a_s2_row a_s3 a_s3_row d_hour d_traced d_latestFault f_kind f_wet f_wide f_rows f_cells f_sun f_all f_firstColumn f_lastColumn t_hours t_opened t_firstWrong g_kind g_wet g_wide g_rows g_cells g_sun g_all g_firstColumn g_lastColumn r_cells r_hours r_cracked r_count S_row S_lane S_length) := by
  refine Ct_of (by decide) (Nat.le_of_ble_eq_true rfl) ?_
  intro p e s m args below meth c A ls Cc hK hA hP hD hS hl
  have hl : lv_has ls 2 [(0, .ref a_d), (1, .int p1)] := hl
  obtain ⟨hx, hb, hr, hml, hown, hts, hlk, hnw⟩ := id Cc
  unfold fX4_cracks at hf
  refine lv_iload_n hx hb dX4_cracks_0 rfl (lv_at hl 1 rfl) ?_
  refine lv_iconst (v := (0 : Int32)) hx hb dX4_cracks_1 (by decide) ?_
  refine lv_iconst (v := (3 : Int32)) hx hb dX4_cracks_2 (by decide) ?_
  obtain ⟨q3_1, hq1, hf⟩ := Option.bind_eq_some_iff.mp hf
  refine cSt (ws' := (W_D cI cS a_d a_f a_t a_r a_z a_f_kind a_f_wet a_g a_g_kind a_g_wet a_r_cells a_r_hours a_r_cracked a_s0 a_s0_row a_s1 a_s1_row a_s2 a_s2_row a_s3 a_s3_row d_hour d_traced d_latestFault f_kind f_wet f_wide f_rows f_cells f_sun f_all f_firstColumn f_lastColumn t_hours t_opened t_firstWrong g_kind g_wet g_wide g_rows g_cells g_sun g_all g_firstColumn g_lastColumn r_cells r_hours r_cracked r_count S_row S_lane S_length)) (rest := []) (st1 := [.int q3_1]) Cc hK hA hP hD hS hl.1 (ctX4_within l D cI cS   p1 (0 : Int32) (3 : Int32) n q3_1 hq1) ⟨tw_154, tw_152, tw_153, tw_1⟩ mdX4_within ⟨rfl, rfl, Nat.le_of_ble_eq_true rfl, Nat.le_of_ble_eq_true rfl⟩ rfl dX4_cracks_3 rfl (Nat.le_of_ble_eq_true rfl) ⟨Nat.zero_le _, Nat.zero_le _⟩ rfl [] [0, 1, 2, 3, 4, 5, 6, 7, 8, 9, 10, 11, 12, 13, 14, 15, 16, 17, 18, 19, 20] [0, 1, 2, 3, 4, 5, 6, 7, 8, 9, 10, 11, 12, 13, 14, 15, 16, 17, 18, 19, 20] rfl rfl (by decide) rfl (fun H locs hP hD hS => ?_)
  refine lv_if_ne (tgt := 12) hx hb dX4_cracks_6 (by decide) (fun hc2 => ?_) (fun hc2 => ?_)
  · replace hf := (if_neg hc2).symm.trans hf
    refine lv_aload_n hx hb dX4_cracks_12 rfl (lv_at hl 0 rfl) ?_
    refine va_get (D := D) (ci := 4) (v := .ref a_f) (C := RX4) (T := TX4) (N := 7) hx hb hts inX4 hown hK hP 0 rfl rfl 0 (by decide) (hts _ tw_123) (fun _ h9 => h9) rfl dX4_cracks_13 ?_
    obtain ⟨q16_1, hq3, hf⟩ := Option.bind_eq_some_iff.mp hf
    refine cV (ws' := (W_D cI cS a_d a_f a_t a_r a_z a_f_kind a_f_wet a_g a_g_kind a_g_wet a_r_cells a_r_hours a_r_cracked a_s0 a_s0_row a_s1 a_s1_row a_s2 a_s2_row a_s3 a_s3_row d_hour d_traced d_latestFault f_kind f_wet f_wide f_rows f_cells f_sun f_all f_firstColumn f_lastColumn t_hours t_opened t_firstWrong g_kind g_wet g_wide g_rows g_cells g_sun g_all g_firstColumn g_lastColumn r_cells r_hours r_cracked r_count S_row S_lane S_length)) (rest := []) (st1 := [.int q16_1]) Cc hK hA hP hD hS hl.1 (ctX0_isThere l D cI cS a_f a_f_kind a_f_wet f_kind f_wet f_wide f_rows f_cells f_sun f_all f_firstColumn f_lastColumn  n q16_1 hq3) ⟨tw_252, tw_249, tw_250, tw_251, tw_2⟩ mdX0_isThere ⟨rfl, rfl, Nat.le_of_ble_eq_true rfl, Nat.le_of_ble_eq_true rfl⟩ rfl dX4_cracks_16 rfl (Nat.le_of_ble_eq_true rfl) ⟨Nat.zero_le _, Nat.zero_le _⟩ rfl rfl rfl [1, 2, 3] [0, 4, 5, 6, 7, 8, 9, 10, 11, 12, 13, 14, 15, 16, 17, 18, 19, 20] [0, 18, 19, 20, 1, 2, 3, 4, 5, 6, 7, 8, 9, 10, 11, 12, 13, 14, 15, 16, 17] rfl rfl (by decide) rfl (fun H locs hP hD hS => ?_)
    refine lv_if_ne (tgt := 25) hx hb dX4_cracks_19 (by decide) (fun hc4 => ?_) (fun hc4 => ?_)
    · replace hf := (if_neg hc4).symm.trans hf
      refine lv_iload_n hx hb dX4_cracks_25 rfl (lv_at hl 1 rfl) ?_
      by_cases hs5_0 : p1 = 0
      · replace hf := (if_pos hs5_0).symm.trans hf
        refine lv_tableIn (tgt := 52) (off := 26) hx hb dX4_cracks_26 (by rw [hs5_0]; decide) (by rw [hs5_0]; decide) (by rw [hs5_0]; decide) (by decide) ?_
        refine lv_aload_n hx hb dX4_cracks_52 rfl (lv_at hl 0 rfl) ?_
        refine va_get (D := D) (ci := 4) (v := .ref a_f) (C := RX4) (T := TX4) (N := 7) hx hb hts inX4 hown hK hP 0 rfl rfl 0 (by decide) (hts _ tw_123) (fun _ h9 => h9) rfl dX4_cracks_53 ?_
        obtain ⟨q56_1, hq6, hf⟩ := Option.bind_eq_some_iff.mp hf
        refine cV (ws' := (W_D cI cS a_d a_f a_t a_r a_z a_f_kind a_f_wet a_g a_g_kind a_g_wet a_r_cells a_r_hours a_r_cracked a_s0 a_s0_row a_s1 a_s1_row a_s2 a_s2_row a_s3 a_s3_row d_hour d_traced d_latestFault f_kind f_wet f_wide f_rows f_cells f_sun f_all f_firstColumn f_lastColumn t_hours t_opened t_firstWrong g_kind g_wet g_wide g_rows g_cells g_sun g_all g_firstColumn g_lastColumn r_cells r_hours r_cracked r_count S_row S_lane S_length)) (rest := []) (st1 := [.int q56_1]) Cc hK hA hP hD hS hl.1 (ctX0_crackedSet l D cI cS a_f a_f_kind a_f_wet f_kind f_wet f_wide f_rows f_cells f_sun f_all f_firstColumn f_lastColumn  n q56_1 hq6) ⟨tw_230, tw_269, tw_228, tw_229, tw_2⟩ mdX0_crackedSet ⟨rfl, rfl, Nat.le_of_ble_eq_true rfl, Nat.le_of_ble_eq_true rfl⟩ rfl dX4_cracks_56 rfl (Nat.le_of_ble_eq_true rfl) ⟨Nat.zero_le _, Nat.zero_le _⟩ rfl rfl rfl [1, 2, 3] [0, 4, 5, 6, 7, 8, 9, 10, 11, 12, 13, 14, 15, 16, 17, 18, 19, 20] [0, 18, 19, 20, 1, 2, 3, 4, 5, 6, 7, 8, 9, 10, 11, 12, 13, 14, 15, 16, 17] rfl rfl (by decide) rfl (fun H locs hP hD hS => ?_)
        obtain rfl := Option.some.inj hf
        exact rt_i Cc hK hP hD hS dX4_cracks_59
      · replace hf := (if_neg hs5_0).symm.trans hf
        by_cases hs5_1 : p1 = 1
        · replace hf := (if_pos hs5_1).symm.trans hf
          refine lv_tableIn (tgt := 60) (off := 34) hx hb dX4_cracks_26 (by rw [hs5_1]; decide) (by rw [hs5_1]; decide) (by rw [hs5_1]; decide) (by decide) ?_
          refine lv_aload_n hx hb dX4_cracks_60 rfl (lv_at hl 0 rfl) ?_
          refine va_get (D := D) (ci := 4) (v := .ref a_f) (C := RX4) (T := TX4) (N := 7) hx hb hts inX4 hown hK hP 0 rfl rfl 0 (by decide) (hts _ tw_123) (fun _ h9 => h9) rfl dX4_cracks_61 ?_
          refine lv_aload_n hx hb dX4_cracks_64 rfl (lv_at hl 0 rfl) ?_
          refine va_get (D := D) (ci := 4) (v := .ref a_f) (C := RX4) (T := TX4) (N := 7) hx hb hts inX4 hown hK hP 0 rfl rfl 0 (by decide) (hts _ tw_123) (fun _ h9 => h9) rfl dX4_cracks_65 ?_
          obtain ⟨q68_1, hq7, hf⟩ := Option.bind_eq_some_iff.mp hf
          refine cV (ws' := (W_D cI cS a_d a_f a_t a_r a_z a_f_kind a_f_wet a_g a_g_kind a_g_wet a_r_cells a_r_hours a_r_cracked a_s0 a_s0_row a_s1 a_s1_row a_s2 a_s2_row a_s3 a_s3_row d_hour d_traced d_latestFault f_kind f_wet f_wide f_rows f_cells f_sun f_all f_firstColumn f_lastColumn t_hours t_opened t_firstWrong g_kind g_wet g_wide g_rows g_cells g_sun g_all g_firstColumn g_lastColumn r_cells r_hours r_cracked r_count S_row S_lane S_length)) (rest := [.ref a_f]) (st1 := [.int q68_1, .ref a_f]) Cc hK hA hP hD hS hl.1 (ctX0_crackedSet l D cI cS a_f a_f_kind a_f_wet f_kind f_wet f_wide f_rows f_cells f_sun f_all f_firstColumn f_lastColumn  n q68_1 hq7) ⟨tw_230, tw_269, tw_228, tw_229, tw_2⟩ mdX0_crackedSet ⟨rfl, rfl, Nat.le_of_ble_eq_true rfl, Nat.le_of_ble_eq_true rfl⟩ rfl dX4_cracks_68 rfl (Nat.le_of_ble_eq_true rfl) ⟨Nat.zero_le _, Nat.zero_le _⟩ rfl rfl rfl [1, 2, 3] [0, 4, 5, 6, 7, 8, 9, 10, 11, 12, 13, 14, 15, 16, 17, 18, 19, 20] [0, 18, 19, 20, 1, 2, 3, 4, 5, 6, 7, 8, 9, 10, 11, 12, 13, 14, 15, 16, 17] rfl rfl (by decide) rfl (fun H locs hP hD hS => ?_)
          obtain ⟨q71_2, hq8, hf⟩ := Option.bind_eq_some_iff.mp hf
          refine cV (ws' := (W_D cI cS a_d a_f a_t a_r a_z a_f_kind a_f_wet a_g a_g_kind a_g_wet a_r_cells a_r_hours a_r_cracked a_s0 a_s0_row a_s1 a_s1_row a_s2 a_s2_row a_s3 a_s3_row d_hour d_traced d_latestFault f_kind f_wet f_wide f_rows f_cells f_sun f_all f_firstColumn f_lastColumn t_hours t_opened t_firstWrong g_kind g_wet g_wide g_rows g_cells g_sun g_all g_firstColumn g_lastColumn r_cells r_hours r_cracked r_count S_row S_lane S_length)) (rest := []) (st1 := [.int q71_2]) Cc hK hA hP hD hS hl.1 (ctX0_isOpenBy l D cI cS a_f a_f_kind a_f_wet f_kind f_wet f_wide f_rows f_cells f_sun f_all f_firstColumn f_lastColumn q68_1 n q71_2 hq8) ⟨tw_286, tw_283, tw_284, tw_285, tw_2⟩ mdX0_isOpenBy ⟨rfl, rfl, Nat.le_of_ble_eq_true rfl, Nat.le_of_ble_eq_true rfl⟩ rfl dX4_cracks_71 rfl (Nat.le_of_ble_eq_true rfl) ⟨Nat.zero_le _, Nat.zero_le _⟩ rfl rfl rfl [1, 2, 3] [0, 4, 5, 6, 7, 8, 9, 10, 11, 12, 13, 14, 15, 16, 17, 18, 19, 20] [0, 18, 19, 20, 1, 2, 3, 4, 5, 6, 7, 8, 9, 10, 11, 12, 13, 14, 15, 16, 17] rfl rfl (by decide) rfl (fun H locs hP hD hS => ?_)
          refine lv_if_eq (tgt := 81) hx hb dX4_cracks_74 (by decide) (fun hc9 => ?_) (fun hc9 => ?_)
          · replace hf := (if_pos hc9).symm.trans hf
            refine lv_iconst (v := (0 : Int32)) hx hb dX4_cracks_81 (by decide) ?_
            obtain rfl := Option.some.inj hf
            exact rt_i Cc hK hP hD hS dX4_cracks_82
          · replace hf := (if_neg hc9).symm.trans hf
            refine lv_iconst (v := (1 : Int32)) hx hb dX4_cracks_77 (by decide) ?_
            refine lv_goto (tgt := 82) hx hb dX4_cracks_78 (by decide) ?_
            obtain rfl := Option.some.inj hf
            exact rt_i Cc hK hP hD hS dX4_cracks_82
        · replace hf := (if_neg hs5_1).symm.trans hf
          by_cases hs5_2 : p1 = 2
          · replace hf := (if_pos hs5_2).symm.trans hf
            refine lv_tableIn (tgt := 83) (off := 57) hx hb dX4_cracks_26 (by rw [hs5_2]; decide) (by rw [hs5_2]; decide) (by rw [hs5_2]; decide) (by decide) ?_
            refine lv_aload_n hx hb dX4_cracks_83 rfl (lv_at hl 0 rfl) ?_
            refine va_get (D := D) (ci := 4) (v := .ref a_f) (C := RX4) (T := TX4) (N := 7) hx hb hts inX4 hown hK hP 0 rfl rfl 0 (by decide) (hts _ tw_123) (fun _ h9 => h9) rfl dX4_cracks_84 ?_
            obtain ⟨q87_1, hq10, hf⟩ := Option.bind_eq_some_iff.mp hf
            refine cV (ws' := (W_D cI cS a_d a_f a_t a_r a_z a_f_kind a_f_wet a_g a_g_kind a_g_wet a_r_cells a_r_hours a_r_cracked a_s0 a_s0_row a_s1 a_s1_row a_s2 a_s2_row a_s3 a_s3_row d_hour d_traced d_latestFault f_kind f_wet f_wide f_rows f_cells f_sun f_all f_firstColumn f_lastColumn t_hours t_opened t_firstWrong g_kind g_wet g_wide g_rows g_cells g_sun g_all g_firstColumn g_lastColumn r_cells r_hours r_cracked r_count S_row S_lane S_length)) (rest := []) (st1 := [.int q87_1]) Cc hK hA hP hD hS hl.1 (ctX0_howManyPieces l D cI cS a_f a_f_kind a_f_wet f_kind f_wet f_wide f_rows f_cells f_sun f_all f_firstColumn f_lastColumn  n q87_1 hq10) ⟨tw_291, tw_288, tw_289, tw_290, tw_2⟩ mdX0_howManyPieces ⟨rfl, rfl, Nat.le_of_ble_eq_true rfl, Nat.le_of_ble_eq_true rfl⟩ rfl dX4_cracks_87 rfl (Nat.le_of_ble_eq_true rfl) ⟨Nat.zero_le _, Nat.zero_le _⟩ rfl rfl rfl [1, 2, 3] [0, 4, 5, 6, 7, 8, 9, 10, 11, 12, 13, 14, 15, 16, 17, 18, 19, 20] [0, 18, 19, 20, 1, 2, 3, 4, 5, 6, 7, 8, 9, 10, 11, 12, 13, 14, 15, 16, 17] rfl rfl (by decide) rfl (fun H locs hP hD hS => ?_)
            obtain rfl := Option.some.inj hf
            exact rt_i Cc hK hP hD hS dX4_cracks_90
          · replace hf := (if_neg hs5_2).symm.trans hf
            refine lv_tableOut (tgt := 91) hx hb dX4_cracks_26 (tb_out (N := 2) (by decide) (fun i hi => match i, hi with | 0, _ => hs5_0 | 1, _ => hs5_1 | 2, _ => hs5_2 | i + 3, hi => absurd hi (by omega))) (by decide) ?_
            refine lv_aload_n hx hb dX4_cracks_91 rfl (lv_at hl 0 rfl) ?_
            refine va_get (D := D) (ci := 4) (v := .ref a_f) (C := RX4) (T := TX4) (N := 7) hx hb hts inX4 hown hK hP 0 rfl rfl 0 (by decide) (hts _ tw_123) (fun _ h9 => h9) rfl dX4_cracks_92 ?_
            obtain ⟨q95_1, hq11, hf⟩ := Option.bind_eq_some_iff.mp hf
            refine cV (ws' := (W_D cI cS a_d a_f a_t a_r a_z a_f_kind a_f_wet a_g a_g_kind a_g_wet a_r_cells a_r_hours a_r_cracked a_s0 a_s0_row a_s1 a_s1_row a_s2 a_s2_row a_s3 a_s3_row d_hour d_traced d_latestFault f_kind f_wet f_wide f_rows f_cells f_sun f_all f_firstColumn f_lastColumn t_hours t_opened t_firstWrong g_kind g_wet g_wide g_rows g_cells g_sun g_all g_firstColumn g_lastColumn r_cells r_hours r_cracked r_count S_row S_lane S_length)) (rest := []) (st1 := [.int q95_1]) Cc hK hA hP hD hS hl.1 (ctX0_greatestPiece l D cI cS a_f a_f_kind a_f_wet f_kind f_wet f_wide f_rows f_cells f_sun f_all f_firstColumn f_lastColumn  n q95_1 hq11) ⟨tw_299, tw_296, tw_297, tw_298, tw_2⟩ mdX0_greatestPiece ⟨rfl, rfl, Nat.le_of_ble_eq_true rfl, Nat.le_of_ble_eq_true rfl⟩ rfl dX4_cracks_95 rfl (Nat.le_of_ble_eq_true rfl) ⟨Nat.zero_le _, Nat.zero_le _⟩ rfl rfl rfl [1, 2, 3] [0, 4, 5, 6, 7, 8, 9, 10, 11, 12, 13, 14, 15, 16, 17, 18, 19, 20] [0, 18, 19, 20, 1, 2, 3, 4, 5, 6, 7, 8, 9, 10, 11, 12, 13, 14, 15, 16, 17] rfl rfl (by decide) rfl (fun H locs hP hD hS => ?_)
            obtain rfl := Option.some.inj hf
            exact rt_i Cc hK hP hD hS dX4_cracks_98
    · replace hf := (if_pos hc4).symm.trans hf
      refine lv_bipush (v := (-3 : Int32)) hx hb dX4_cracks_22 (by decide) ?_
      obtain rfl := Option.some.inj hf
      exact rt_i Cc hK hP hD hS dX4_cracks_24
  · replace hf := (if_pos hc2).symm.trans hf
    refine lv_bipush (v := (-2 : Int32)) hx hb dX4_cracks_9 (by decide) ?_
    obtain rfl := Option.some.inj hf
    exact rt_i Cc hK hP hD hS dX4_cracks_11
-- X4_way
def fX4_way (n : Nat) (f_wet : Nat → Int32) (f_wide : Int32) (f_cells : Int32) (f_all : Int32) (f_firstColumn : Int32) (f_lastColumn : Int32) (p1 : Int32) (p2 : Int32) : Option (Int32) := (fX0_isCell n f_cells p1).bind fun q5_1 => if q5_1 = 0 then some ((-1 : Int32)) else (fX0_isCell n f_cells p2).bind fun q16_1 => if q16_1 = 0 then some ((-1 : Int32)) else (fX0_fewestSteps n f_wet f_wide f_cells f_all f_firstColumn f_lastColumn p1 p2).bind fun q30_1 => some (q30_1)
theorem mdX4_way : yX4_way.cls = RX4 ∧ yX4_way.cls ≠ "java/lang/invoke/MethodHandle" ∧ yX4_way.cls ≠ "java/lang/invoke/VarHandle" ∧ (parseMethodDescriptor yX4_way.desc).map (fun d => d.parameters.length) = some 2 := by decide +kernel
set_option maxHeartbeats 4000000 in
set_option maxRecDepth 100000 in
theorem ctX4_way (l : Launch) (D : va_G) (cI cS : ClassId) (a_d a_f a_t a_r a_z a_f_kind a_f_wet a_g a_g_kind a_g_wet a_r_cells a_r_hours a_r_cracked a_s0 a_s0_row a_s1 a_s1_row a_s2 a_s2_row a_s3 a_s3_row : Nat) (d_hour : Int32) (d_traced : Int32) (d_latestFault : Int32) (f_kind : Nat → Int32) (f_wet : Nat → Int32) (f_wide : Int32) (f_rows : Int32) (f_cells : Int32) (f_sun : Int32) (f_all : Int32) (f_firstColumn : Int32) (f_lastColumn : Int32) (t_hours : Int32) (t_opened : Int32) (t_firstWrong : Int32) (g_kind : Nat → Int32) (g_wet : Nat → Int32) (g_wide : Int32) (g_rows : Int32) (g_cells : Int32) (g_sun : Int32) (g_all : Int32) (g_firstColumn : Int32) (g_lastColumn : Int32) (r_cells : Nat → Int32) (r_hours : Nat → Int32) (r_cracked : Nat → Int32) (r_count : Int32) (S_row : Nat → Nat → Int32) (S_lane : Nat → Int32) (S_length : Nat → Int32) (p1 : Int32) (p2 : Int32) (n : Nat) (r : Int32) (hf : fX4_way n f_wet f_wide f_cells f_all f_firstColumn f_lastColumn p1 p2 = some (r)) : Ct l D (tysA cI cS) yX4_way cX4_way 3 (some .int) (Rm 2) [.ref a_d, .int p1, .int p2] (W_D cI cS a_d a_f a_t a_r a_z a_f_kind a_f_wet a_g a_g_kind a_g_wet a_r_cells a_r_hours a_r_cracked a_s0 a_s0_row a_s1 a_s1_row a_s2 a_s2_row a_s3 a_s3_row d_hour d_traced d_latestFault f_kind f_wet f_wide f_rows f_cells f_sun f_all f_firstColumn f_lastColumn t_hours t_opened t_firstWrong g_kind g_wet g_wide g_rows g_cells g_sun g_all g_firstColumn g_lastColumn r_cells r_hours r_cracked r_count S_row S_lane S_length) (some (.int r)) (W_D cI cS a_d a_f a_t a_r a_z a_f_kind a_f_wet a_g a_g_kind a_g_wet a_r_cells a_r_hours a_r_cracked a_s0 a_s0_row a_s1 a_s1_row a_s2 a_s2_row a_s3 a_s3_row d_hour d_traced d_latestFault f_kind f_wet f_wide f_rows f_cells f_sun f_all f_firstColumn f_lastColumn t_hours t_opened t_firstWrong g_kind g_wet g_wide g_rows g_cells g_sun g_all g_firstColumn g_lastColumn r_cells r_hours r_cracked r_count S_row S_lane S_length) := by
  refine Ct_of (by decide) (Nat.le_of_ble_eq_true rfl) ?_
  intro p e s m args below meth c A ls Cc hK hA hP hD hS hl
  have hl : lv_has ls 3 [(0, .ref a_d), (1, .int p1), (2, .int p2)] := hl
  obtain ⟨hx, hb, hr, hml, hown, hts, hlk, hnw⟩ := id Cc
  unfold fX4_way at hf
  refine lv_aload_n hx hb dX4_way_0 rfl (lv_at hl 0 rfl) ?_
  refine va_get (D := D) (ci := 4) (v := .ref a_f) (C := RX4) (T := TX4) (N := 7) hx hb hts inX4 hown hK hP 0 rfl rfl 0 (by decide) (hts _ tw_123) (fun _ h9 => h9) rfl dX4_way_1 ?_
  refine lv_iload_n hx hb dX4_way_4 rfl (lv_at hl 1 rfl) ?_
  obtain ⟨q5_1, hq1, hf⟩ := Option.bind_eq_some_iff.mp hf
  refine cV (ws' := (W_D cI cS a_d a_f a_t a_r a_z a_f_kind a_f_wet a_g a_g_kind a_g_wet a_r_cells a_r_hours a_r_cracked a_s0 a_s0_row a_s1 a_s1_row a_s2 a_s2_row a_s3 a_s3_row d_hour d_traced d_latestFault f_kind f_wet f_wide f_rows f_cells f_sun f_all f_firstColumn f_lastColumn t_hours t_opened t_firstWrong g_kind g_wet g_wide g_rows g_cells g_sun g_all g_firstColumn g_lastColumn r_cells r_hours r_cracked r_count S_row S_lane S_length)) (rest := []) (st1 := [.int q5_1]) Cc hK hA hP hD hS hl.1 (ctX0_isCell l D cI cS a_f a_f_kind a_f_wet f_kind f_wet f_wide f_rows f_cells f_sun f_all f_firstColumn f_lastColumn p1 n q5_1 hq1) ⟨tw_218, tw_215, tw_216, tw_217, tw_2⟩ mdX0_isCell ⟨rfl, rfl, Nat.le_of_ble_eq_true rfl, Nat.le_of_ble_eq_true rfl⟩ rfl dX4_way_5 rfl (Nat.le_of_ble_eq_true rfl) ⟨Nat.zero_le _, Nat.zero_le _⟩ rfl rfl rfl [1, 2, 3] [0, 4, 5, 6, 7, 8, 9, 10, 11, 12, 13, 14, 15, 16, 17, 18, 19, 20] [0, 18, 19, 20, 1, 2, 3, 4, 5, 6, 7, 8, 9, 10, 11, 12, 13, 14, 15, 16, 17] rfl rfl (by decide) rfl (fun H locs hP hD hS => ?_)
  refine lv_if_eq (tgt := 22) hx hb dX4_way_8 (by decide) (fun hc2 => ?_) (fun hc2 => ?_)
  · replace hf := (if_pos hc2).symm.trans hf
    refine lv_iconst (v := (-1 : Int32)) hx hb dX4_way_22 (by decide) ?_
    obtain rfl := Option.some.inj hf
    exact rt_i Cc hK hP hD hS dX4_way_23
  · replace hf := (if_neg hc2).symm.trans hf
    refine lv_aload_n hx hb dX4_way_11 rfl (lv_at hl 0 rfl) ?_
    refine va_get (D := D) (ci := 4) (v := .ref a_f) (C := RX4) (T := TX4) (N := 7) hx hb hts inX4 hown hK hP 0 rfl rfl 0 (by decide) (hts _ tw_123) (fun _ h9 => h9) rfl dX4_way_12 ?_
    refine lv_iload_n hx hb dX4_way_15 rfl (lv_at hl 2 rfl) ?_
    obtain ⟨q16_1, hq3, hf⟩ := Option.bind_eq_some_iff.mp hf
    refine cV (ws' := (W_D cI cS a_d a_f a_t a_r a_z a_f_kind a_f_wet a_g a_g_kind a_g_wet a_r_cells a_r_hours a_r_cracked a_s0 a_s0_row a_s1 a_s1_row a_s2 a_s2_row a_s3 a_s3_row d_hour d_traced d_latestFault f_kind f_wet f_wide f_rows f_cells f_sun f_all f_firstColumn f_lastColumn t_hours t_opened t_firstWrong g_kind g_wet g_wide g_rows g_cells g_sun g_all g_firstColumn g_lastColumn r_cells r_hours r_cracked r_count S_row S_lane S_length)) (rest := []) (st1 := [.int q16_1]) Cc hK hA hP hD hS hl.1 (ctX0_isCell l D cI cS a_f a_f_kind a_f_wet f_kind f_wet f_wide f_rows f_cells f_sun f_all f_firstColumn f_lastColumn p2 n q16_1 hq3) ⟨tw_218, tw_215, tw_216, tw_217, tw_2⟩ mdX0_isCell ⟨rfl, rfl, Nat.le_of_ble_eq_true rfl, Nat.le_of_ble_eq_true rfl⟩ rfl dX4_way_16 rfl (Nat.le_of_ble_eq_true rfl) ⟨Nat.zero_le _, Nat.zero_le _⟩ rfl rfl rfl [1, 2, 3] [0, 4, 5, 6, 7, 8, 9, 10, 11, 12, 13, 14, 15, 16, 17, 18, 19, 20] [0, 18, 19, 20, 1, 2, 3, 4, 5, 6, 7, 8, 9, 10, 11, 12, 13, 14, 15, 16, 17] rfl rfl (by decide) rfl (fun H locs hP hD hS => ?_)
    refine lv_if_ne (tgt := 24) hx hb dX4_way_19 (by decide) (fun hc4 => ?_) (fun hc4 => ?_)
    · replace hf := (if_neg hc4).symm.trans hf
      refine lv_aload_n hx hb dX4_way_24 rfl (lv_at hl 0 rfl) ?_
      refine va_get (D := D) (ci := 4) (v := .ref a_f) (C := RX4) (T := TX4) (N := 7) hx hb hts inX4 hown hK hP 0 rfl rfl 0 (by decide) (hts _ tw_123) (fun _ h9 => h9) rfl dX4_way_25 ?_
      refine lv_iload_n hx hb dX4_way_28 rfl (lv_at hl 1 rfl) ?_
      refine lv_iload_n hx hb dX4_way_29 rfl (lv_at hl 2 rfl) ?_
      obtain ⟨q30_1, hq5, hf⟩ := Option.bind_eq_some_iff.mp hf
      refine cV (ws' := (W_D cI cS a_d a_f a_t a_r a_z a_f_kind a_f_wet a_g a_g_kind a_g_wet a_r_cells a_r_hours a_r_cracked a_s0 a_s0_row a_s1 a_s1_row a_s2 a_s2_row a_s3 a_s3_row d_hour d_traced d_latestFault f_kind f_wet f_wide f_rows f_cells f_sun f_all f_firstColumn f_lastColumn t_hours t_opened t_firstWrong g_kind g_wet g_wide g_rows g_cells g_sun g_all g_firstColumn g_lastColumn r_cells r_hours r_cracked r_count S_row S_lane S_length)) (rest := []) (st1 := [.int q30_1]) Cc hK hA hP hD hS hl.1 (ctX0_fewestSteps l D cI cS a_f a_f_kind a_f_wet f_kind f_wet f_wide f_rows f_cells f_sun f_all f_firstColumn f_lastColumn p1 p2 n q30_1 hq5) ⟨tw_308, tw_305, tw_306, tw_307, tw_2⟩ mdX0_fewestSteps ⟨rfl, rfl, Nat.le_of_ble_eq_true rfl, Nat.le_of_ble_eq_true rfl⟩ rfl dX4_way_30 rfl (Nat.le_of_ble_eq_true rfl) ⟨Nat.zero_le _, Nat.zero_le _⟩ rfl rfl rfl [1, 2, 3] [0, 4, 5, 6, 7, 8, 9, 10, 11, 12, 13, 14, 15, 16, 17, 18, 19, 20] [0, 18, 19, 20, 1, 2, 3, 4, 5, 6, 7, 8, 9, 10, 11, 12, 13, 14, 15, 16, 17] rfl rfl (by decide) rfl (fun H locs hP hD hS => ?_)
      obtain rfl := Option.some.inj hf
      exact rt_i Cc hK hP hD hS dX4_way_33
    · replace hf := (if_pos hc4).symm.trans hf
      refine lv_iconst (v := (-1 : Int32)) hx hb dX4_way_22 (by decide) ?_
      obtain rfl := Option.some.inj hf
      exact rt_i Cc hK hP hD hS dX4_way_23
-- X4_refusalOfPairs
def fX4_refusalOfPairs_3 (n : Nat) : Nat → Int32 → (Nat → Int32) → Int32 → Int32 → Int32 → Int32 → Option (Int32)
  | 0, _, _, _, _, _, _ => none
  | k + 1, f_cells, s_row, s_length, x2, x3, x4 => if x3 ≤ x4 then some ((0 : Int32)) else (fX2_codeAt n s_row s_length (x2 + ((2 : Int32) * x4))).bind fun q16_1 => (fX2_codeAt n s_row s_length ((x2 + ((2 : Int32) * x4)) + (1 : Int32))).bind fun q30_2 => (fX4_within n q16_1 (0 : Int32) (2 : Int32)).bind fun q39_3 => if q39_3 = 0 then some ((-2 : Int32)) else if q16_1 = 0 then (fX4_within n q30_2 (0 : Int32) (9 : Int32)).bind fun q58_1 => if q58_1 = 0 then some ((-2 : Int32)) else if q16_1 = (2 : Int32) then (fX4_within n q30_2 (0 : Int32) (9 : Int32)).bind fun q78_1 => if q78_1 = 0 then some ((-2 : Int32)) else if q16_1 = (1 : Int32) then (fX0_isCell n f_cells q30_2).bind fun q99_1 => if q99_1 = 0 then some ((-1 : Int32)) else fX4_refusalOfPairs_3 n k f_cells s_row s_length x2 x3 (x4 + 1) else fX4_refusalOfPairs_3 n k f_cells s_row s_length x2 x3 (x4 + 1) else if q16_1 = (1 : Int32) then (fX0_isCell n f_cells q30_2).bind fun q99_1 => if q99_1 = 0 then some ((-1 : Int32)) else fX4_refusalOfPairs_3 n k f_cells s_row s_length x2 x3 (x4 + 1) else fX4_refusalOfPairs_3 n k f_cells s_row s_length x2 x3 (x4 + 1) else if q16_1 = (2 : Int32) then (fX4_within n q30_2 (0 : Int32) (9 : Int32)).bind fun q78_1 => if q78_1 = 0 then some ((-2 : Int32)) else if q16_1 = (1 : Int32) then (fX0_isCell n f_cells q30_2).bind fun q99_1 => if q99_1 = 0 then some ((-1 : Int32)) else fX4_refusalOfPairs_3 n k f_cells s_row s_length x2 x3 (x4 + 1) else fX4_refusalOfPairs_3 n k f_cells s_row s_length x2 x3 (x4 + 1) else if q16_1 = (1 : Int32) then (fX0_isCell n f_cells q30_2).bind fun q99_1 => if q99_1 = 0 then some ((-1 : Int32)) else fX4_refusalOfPairs_3 n k f_cells s_row s_length x2 x3 (x4 + 1) else fX4_refusalOfPairs_3 n k f_cells s_row s_length x2 x3 (x4 + 1)
def fX4_refusalOfPairs (n : Nat) (f_cells : Int32) (s_row : Nat → Int32) (s_length : Int32) (p2 : Int32) (p3 : Int32) : Option (Int32) := fX4_refusalOfPairs_3 n n f_cells s_row s_length p2 p3 (0 : Int32)
theorem mdX4_refusalOfPairs : yX4_refusalOfPairs.cls = RX4 ∧ yX4_refusalOfPairs.cls ≠ "java/lang/invoke/MethodHandle" ∧ yX4_refusalOfPairs.cls ≠ "java/lang/invoke/VarHandle" ∧ (parseMethodDescriptor yX4_refusalOfPairs.desc).map (fun d => d.parameters.length) = some 3 := by decide +kernel
set_option maxHeartbeats 4000000 in
set_option maxRecDepth 100000 in
theorem bX4_refusalOfPairs_3 {p : Program} {l : Launch} {e : Env} {s : State} {m : MethodId} {args : Array Value} {below : List Frame} {meth : Method} {c : Code} {A : Nat → Prop} {D : va_G} {cI cS : ClassId} (a_d a_f a_t a_r a_z a_f_kind a_f_wet a_s a_s_row : Nat) (d_hour : Int32) (d_traced : Int32) (d_latestFault : Int32) (f_kind : Nat → Int32) (f_wet : Nat → Int32) (f_wide : Int32) (f_rows : Int32) (f_sun : Int32) (f_all : Int32) (f_firstColumn : Int32) (f_lastColumn : Int32) (s_lane : Int32) (Cc : Cx p s m args meth c RX4 cX4_refusalOfPairs 7 (some .int)) (hK : va_K D classes (tysA cI cS) s) (hA : ∀ q, s.heap.size ≤ q → A q) (n : Nat) : ∀ (k : Nat) (f_cells : Int32) (s_row : Nat → Int32) (s_length : Int32) (x2 : Int32) (x3 : Int32) (x4 : Int32) (r : Int32), fX4_refusalOfPairs_3 n k f_cells s_row s_length x2 x3 x4 = some (r) → ∀ (H : Heap) (locs : List Loc) (ls : Array Slot), va_P D classes (W_dfs cI cS a_d a_f a_t a_r a_z a_f_kind a_f_wet a_s a_s_row d_hour d_traced d_latestFault f_kind f_wet f_wide f_rows f_cells f_sun f_all f_firstColumn f_lastColumn s_row s_lane s_length) H → va_D A (W_dfs cI cS a_d a_f a_t a_r a_z a_f_kind a_f_wet a_s a_s_row d_hour d_traced d_latestFault f_kind f_wet f_wide f_rows f_cells f_sun f_all f_firstColumn f_lastColumn s_row s_lane s_length) → va_S A s.heap H locs → lv_has ls 7 [(0, .ref a_d), (1, .ref a_s), (2, .int x2), (3, .int x3), (4, .int x4)] → W p l e (Rm 2) s m args below meth c H locs 0 0 (MQ below (QW D (tysA cI cS) (some (.int r)) (W_dfs cI cS a_d a_f a_t a_r a_z a_f_kind a_f_wet a_s a_s_row d_hour d_traced d_latestFault f_kind f_wet f_wide f_rows f_cells f_sun f_all f_firstColumn f_lastColumn s_row s_lane s_length) A) args s 0 0 A) (F0 m 3 ls []) := by
  obtain ⟨hx, hb, hr, hml, hown, hts, hlk, hnw⟩ := id Cc
  intro k
  induction k with
  | zero =>
    intro f_cells s_row s_length x2 x3 x4 r hf
    rw [fX4_refusalOfPairs_3] at hf
    cases hf
  | succ k ih =>
    intro f_cells s_row s_length x2 x3 x4 r hf H locs ls hP hD hS hl
    rw [fX4_refusalOfPairs_3] at hf
    refine lv_iload hx hb dX4_refusalOfPairs_3 (lv_at hl 4 rfl) ?_
    refine lv_iload_n hx hb dX4_refusalOfPairs_5 rfl (lv_at hl 3 rfl) ?_
    refine lv_icmp_ge (tgt := 113) hx hb dX4_refusalOfPairs_6 (by decide) (fun hc1 => ?_) (fun hc1 => ?_)
    · replace hf := (if_pos hc1).symm.trans hf
      refine lv_iconst (v := (0 : Int32)) hx hb dX4_refusalOfPairs_113 (by decide) ?_
      obtain rfl := Option.some.inj hf
      exact rt_i Cc hK hP hD hS dX4_refusalOfPairs_114
    · replace hf := (if_neg hc1).symm.trans hf
      refine lv_aload_n hx hb dX4_refusalOfPairs_9 rfl (lv_at hl 1 rfl) ?_
      refine lv_iload_n hx hb dX4_refusalOfPairs_10 rfl (lv_at hl 2 rfl) ?_
      refine lv_iconst (v := (2 : Int32)) hx hb dX4_refusalOfPairs_11 (by decide) ?_
      refine lv_iload hx hb dX4_refusalOfPairs_12 (lv_at hl 4 rfl) ?_
      refine lv_imul hx hb dX4_refusalOfPairs_14 ?_
      refine lv_iadd hx hb dX4_refusalOfPairs_15 ?_
      obtain ⟨q16_1, hq2, hf⟩ := Option.bind_eq_some_iff.mp hf
      refine cV (ws' := (W_dfs cI cS a_d a_f a_t a_r a_z a_f_kind a_f_wet a_s a_s_row d_hour d_traced d_latestFault f_kind f_wet f_wide f_rows f_cells f_sun f_all f_firstColumn f_lastColumn s_row s_lane s_length)) (rest := []) (st1 := [.int q16_1]) Cc hK hA hP hD hS hl.1 (ctX2_codeAt l D cI cS a_s a_s_row s_row s_lane s_length (x2 + ((2 : Int32) * x4)) n q16_1 hq2) ⟨tw_183, tw_180, tw_181, tw_182, tw_5⟩ mdX2_codeAt ⟨rfl, rfl, Nat.le_of_ble_eq_true rfl, Nat.le_of_ble_eq_true rfl⟩ rfl dX4_refusalOfPairs_16 rfl (Nat.le_of_ble_eq_true rfl) ⟨Nat.zero_le _, Nat.zero_le _⟩ rfl rfl rfl [4, 5] [0, 1, 2, 3] [0, 1, 2, 3, 4, 5] rfl rfl (by decide) rfl (fun H locs hP hD hS => ?_)
      refine lv_istore (lv' := [(5, .int q16_1), (0, .ref a_d), (1, .ref a_s), (2, .int x2), (3, .int x3), (4, .int x4)]) hx hb dX4_refusalOfPairs_19 hl (by decide) rfl (fun ls hl => ?_)
      refine lv_aload_n hx hb dX4_refusalOfPairs_21 rfl (lv_at hl 2 rfl) ?_
      refine lv_iload_n hx hb dX4_refusalOfPairs_22 rfl (lv_at hl 3 rfl) ?_
      refine lv_iconst (v := (2 : Int32)) hx hb dX4_refusalOfPairs_23 (by decide) ?_
      refine lv_iload hx hb dX4_refusalOfPairs_24 (lv_at hl 5 rfl) ?_
      refine lv_imul hx hb dX4_refusalOfPairs_26 ?_
      refine lv_iadd hx hb dX4_refusalOfPairs_27 ?_
      refine lv_iconst (v := (1 : Int32)) hx hb dX4_refusalOfPairs_28 (by decide) ?_
      refine lv_iadd hx hb dX4_refusalOfPairs_29 ?_
      obtain ⟨q30_2, hq3, hf⟩ := Option.bind_eq_some_iff.mp hf
      refine cV (ws' := (W_dfs cI cS a_d a_f a_t a_r a_z a_f_kind a_f_wet a_s a_s_row d_hour d_traced d_latestFault f_kind f_wet f_wide f_rows f_cells f_sun f_all f_firstColumn f_lastColumn s_row s_lane s_length)) (rest := []) (st1 := [.int q30_2]) Cc hK hA hP hD hS hl.1 (ctX2_codeAt l D cI cS a_s a_s_row s_row s_lane s_length ((x2 + ((2 : Int32) * x4)) + (1 : Int32)) n q30_2 hq3) ⟨tw_183, tw_180, tw_181, tw_182, tw_5⟩ mdX2_codeAt ⟨rfl, rfl, Nat.le_of_ble_eq_true rfl, Nat.le_of_ble_eq_true rfl⟩ rfl dX4_refusalOfPairs_30 rfl (Nat.le_of_ble_eq_true rfl) ⟨Nat.zero_le _, Nat.zero_le _⟩ rfl rfl rfl [4, 5] [0, 1, 2, 3] [0, 1, 2, 3, 4, 5] rfl rfl (by decide) rfl (fun H locs hP hD hS => ?_)
      refine lv_istore (lv' := [(6, .int q30_2), (5, .int q16_1), (0, .ref a_d), (1, .ref a_s), (2, .int x2), (3, .int x3), (4, .int x4)]) hx hb dX4_refusalOfPairs_33 hl (by decide) rfl (fun ls hl => ?_)
      refine lv_iload hx hb dX4_refusalOfPairs_35 (lv_at hl 1 rfl) ?_
      refine lv_iconst (v := (0 : Int32)) hx hb dX4_refusalOfPairs_37 (by decide) ?_
      refine lv_iconst (v := (2 : Int32)) hx hb dX4_refusalOfPairs_38 (by decide) ?_
      obtain ⟨q39_3, hq4, hf⟩ := Option.bind_eq_some_iff.mp hf
      refine cSt (ws' := (W_dfs cI cS a_d a_f a_t a_r a_z a_f_kind a_f_wet a_s a_s_row d_hour d_traced d_latestFault f_kind f_wet f_wide f_rows f_cells f_sun f_all f_firstColumn f_lastColumn s_row s_lane s_length)) (rest := []) (st1 := [.int q39_3]) Cc hK hA hP hD hS hl.1 (ctX4_within l D cI cS   q16_1 (0 : Int32) (2 : Int32) n q39_3 hq4) ⟨tw_154, tw_152, tw_153, tw_1⟩ mdX4_within ⟨rfl, rfl, Nat.le_of_ble_eq_true rfl, Nat.le_of_ble_eq_true rfl⟩ rfl dX4_refusalOfPairs_39 rfl (Nat.le_of_ble_eq_true rfl) ⟨Nat.zero_le _, Nat.zero_le _⟩ rfl [] [0, 1, 2, 3, 4, 5] [0, 1, 2, 3, 4, 5] rfl rfl (by decide) rfl (fun H locs hP hD hS => ?_)
      refine lv_if_ne (tgt := 48) hx hb dX4_refusalOfPairs_42 (by decide) (fun hc5 => ?_) (fun hc5 => ?_)
      · replace hf := (if_neg hc5).symm.trans hf
        refine lv_iload hx hb dX4_refusalOfPairs_48 (lv_at hl 1 rfl) ?_
        refine lv_if_ne (tgt := 67) hx hb dX4_refusalOfPairs_50 (by decide) (fun hc6 => ?_) (fun hc6 => ?_)
        · replace hf := (if_neg hc6).symm.trans hf
          refine lv_iload hx hb dX4_refusalOfPairs_67 (lv_at hl 1 rfl) ?_
          refine lv_iconst (v := (2 : Int32)) hx hb dX4_refusalOfPairs_69 (by decide) ?_
          refine lv_icmp_ne (tgt := 87) hx hb dX4_refusalOfPairs_70 (by decide) (fun hc7 => ?_) (fun hc7 => ?_)
          · replace hf := (if_neg hc7).symm.trans hf
            refine lv_iload hx hb dX4_refusalOfPairs_87 (lv_at hl 1 rfl) ?_
            refine lv_iconst (v := (1 : Int32)) hx hb dX4_refusalOfPairs_89 (by decide) ?_
            refine lv_icmp_ne (tgt := 107) hx hb dX4_refusalOfPairs_90 (by decide) (fun hc8 => ?_) (fun hc8 => ?_)
            · replace hf := (if_neg hc8).symm.trans hf
              refine lv_iinc (v := (x4 + 1)) (lv' := [(4, .int (x4 + 1)), (6, .int q30_2), (5, .int q16_1), (0, .ref a_d), (1, .ref a_s), (2, .int x2), (3, .int x3)]) hx hb dX4_refusalOfPairs_107 hl (k := 6) rfl rfl (by decide) rfl (fun ls hl => ?_)
              refine lv_goto (tgt := 3) hx hb dX4_refusalOfPairs_110 (by decide) ?_
              exact ih _ _ _ _ _ _ _ hf _ _ _ hP hD hS (lv_sub hl [3, 4, 5, 6, 0] rfl)
            · replace hf := (if_pos hc8).symm.trans hf
              refine lv_aload_n hx hb dX4_refusalOfPairs_93 rfl (lv_at hl 2 rfl) ?_
              refine va_get (D := D) (ci := 4) (v := .ref a_f) (C := RX4) (T := TX4) (N := 7) hx hb hts inX4 hown hK hP 0 rfl rfl 0 (by decide) (hts _ tw_123) (fun _ h9 => h9) rfl dX4_refusalOfPairs_94 ?_
              refine lv_iload hx hb dX4_refusalOfPairs_97 (lv_at hl 0 rfl) ?_
              obtain ⟨q99_1, hq9, hf⟩ := Option.bind_eq_some_iff.mp hf
              refine cV (ws' := (W_dfs cI cS a_d a_f a_t a_r a_z a_f_kind a_f_wet a_s a_s_row d_hour d_traced d_latestFault f_kind f_wet f_wide f_rows f_cells f_sun f_all f_firstColumn f_lastColumn s_row s_lane s_length)) (rest := []) (st1 := [.int q99_1]) Cc hK hA hP hD hS hl.1 (ctX0_isCell l D cI cS a_f a_f_kind a_f_wet f_kind f_wet f_wide f_rows f_cells f_sun f_all f_firstColumn f_lastColumn q30_2 n q99_1 hq9) ⟨tw_218, tw_215, tw_216, tw_217, tw_2⟩ mdX0_isCell ⟨rfl, rfl, Nat.le_of_ble_eq_true rfl, Nat.le_of_ble_eq_true rfl⟩ rfl dX4_refusalOfPairs_99 rfl (Nat.le_of_ble_eq_true rfl) ⟨Nat.zero_le _, Nat.zero_le _⟩ rfl rfl rfl [1, 2, 3] [0, 4, 5] [0, 3, 4, 5, 1, 2] rfl rfl (by decide) rfl (fun H locs hP hD hS => ?_)
              refine lv_if_ne (tgt := 107) hx hb dX4_refusalOfPairs_102 (by decide) (fun hc10 => ?_) (fun hc10 => ?_)
              · replace hf := (if_neg hc10).symm.trans hf
                refine lv_iinc (v := (x4 + 1)) (lv' := [(4, .int (x4 + 1)), (6, .int q30_2), (5, .int q16_1), (0, .ref a_d), (1, .ref a_s), (2, .int x2), (3, .int x3)]) hx hb dX4_refusalOfPairs_107 hl (k := 6) rfl rfl (by decide) rfl (fun ls hl => ?_)
                refine lv_goto (tgt := 3) hx hb dX4_refusalOfPairs_110 (by decide) ?_
                exact ih _ _ _ _ _ _ _ hf _ _ _ hP hD hS (lv_sub hl [3, 4, 5, 6, 0] rfl)
              · replace hf := (if_pos hc10).symm.trans hf
                refine lv_iconst (v := (-1 : Int32)) hx hb dX4_refusalOfPairs_105 (by decide) ?_
                obtain rfl := Option.some.inj hf
                exact rt_i Cc hK hP hD hS dX4_refusalOfPairs_106
          · replace hf := (if_pos hc7).symm.trans hf
            refine lv_iload hx hb dX4_refusalOfPairs_73 (lv_at hl 0 rfl) ?_
            refine lv_iconst (v := (0 : Int32)) hx hb dX4_refusalOfPairs_75 (by decide) ?_
            refine lv_bipush (v := (9 : Int32)) hx hb dX4_refusalOfPairs_76 (by decide) ?_
            obtain ⟨q78_1, hq11, hf⟩ := Option.bind_eq_some_iff.mp hf
            refine cSt (ws' := (W_dfs cI cS a_d a_f a_t a_r a_z a_f_kind a_f_wet a_s a_s_row d_hour d_traced d_latestFault f_kind f_wet f_wide f_rows f_cells f_sun f_all f_firstColumn f_lastColumn s_row s_lane s_length)) (rest := []) (st1 := [.int q78_1]) Cc hK hA hP hD hS hl.1 (ctX4_within l D cI cS   q30_2 (0 : Int32) (9 : Int32) n q78_1 hq11) ⟨tw_154, tw_152, tw_153, tw_1⟩ mdX4_within ⟨rfl, rfl, Nat.le_of_ble_eq_true rfl, Nat.le_of_ble_eq_true rfl⟩ rfl dX4_refusalOfPairs_78 rfl (Nat.le_of_ble_eq_true rfl) ⟨Nat.zero_le _, Nat.zero_le _⟩ rfl [] [0, 1, 2, 3, 4, 5] [0, 1, 2, 3, 4, 5] rfl rfl (by decide) rfl (fun H locs hP hD hS => ?_)
            refine lv_if_ne (tgt := 87) hx hb dX4_refusalOfPairs_81 (by decide) (fun hc12 => ?_) (fun hc12 => ?_)
            · replace hf := (if_neg hc12).symm.trans hf
              refine lv_iload hx hb dX4_refusalOfPairs_87 (lv_at hl 1 rfl) ?_
              refine lv_iconst (v := (1 : Int32)) hx hb dX4_refusalOfPairs_89 (by decide) ?_
              refine lv_icmp_ne (tgt := 107) hx hb dX4_refusalOfPairs_90 (by decide) (fun hc13 => ?_) (fun hc13 => ?_)
              · replace hf := (if_neg hc13).symm.trans hf
                refine lv_iinc (v := (x4 + 1)) (lv' := [(4, .int (x4 + 1)), (6, .int q30_2), (5, .int q16_1), (0, .ref a_d), (1, .ref a_s), (2, .int x2), (3, .int x3)]) hx hb dX4_refusalOfPairs_107 hl (k := 6) rfl rfl (by decide) rfl (fun ls hl => ?_)
                refine lv_goto (tgt := 3) hx hb dX4_refusalOfPairs_110 (by decide) ?_
                exact ih _ _ _ _ _ _ _ hf _ _ _ hP hD hS (lv_sub hl [3, 4, 5, 6, 0] rfl)
              · replace hf := (if_pos hc13).symm.trans hf
                refine lv_aload_n hx hb dX4_refusalOfPairs_93 rfl (lv_at hl 2 rfl) ?_
                refine va_get (D := D) (ci := 4) (v := .ref a_f) (C := RX4) (T := TX4) (N := 7) hx hb hts inX4 hown hK hP 0 rfl rfl 0 (by decide) (hts _ tw_123) (fun _ h9 => h9) rfl dX4_refusalOfPairs_94 ?_
                refine lv_iload hx hb dX4_refusalOfPairs_97 (lv_at hl 0 rfl) ?_
                obtain ⟨q99_1, hq14, hf⟩ := Option.bind_eq_some_iff.mp hf
                refine cV (ws' := (W_dfs cI cS a_d a_f a_t a_r a_z a_f_kind a_f_wet a_s a_s_row d_hour d_traced d_latestFault f_kind f_wet f_wide f_rows f_cells f_sun f_all f_firstColumn f_lastColumn s_row s_lane s_length)) (rest := []) (st1 := [.int q99_1]) Cc hK hA hP hD hS hl.1 (ctX0_isCell l D cI cS a_f a_f_kind a_f_wet f_kind f_wet f_wide f_rows f_cells f_sun f_all f_firstColumn f_lastColumn q30_2 n q99_1 hq14) ⟨tw_218, tw_215, tw_216, tw_217, tw_2⟩ mdX0_isCell ⟨rfl, rfl, Nat.le_of_ble_eq_true rfl, Nat.le_of_ble_eq_true rfl⟩ rfl dX4_refusalOfPairs_99 rfl (Nat.le_of_ble_eq_true rfl) ⟨Nat.zero_le _, Nat.zero_le _⟩ rfl rfl rfl [1, 2, 3] [0, 4, 5] [0, 3, 4, 5, 1, 2] rfl rfl (by decide) rfl (fun H locs hP hD hS => ?_)
                refine lv_if_ne (tgt := 107) hx hb dX4_refusalOfPairs_102 (by decide) (fun hc15 => ?_) (fun hc15 => ?_)
                · replace hf := (if_neg hc15).symm.trans hf
                  refine lv_iinc (v := (x4 + 1)) (lv' := [(4, .int (x4 + 1)), (6, .int q30_2), (5, .int q16_1), (0, .ref a_d), (1, .ref a_s), (2, .int x2), (3, .int x3)]) hx hb dX4_refusalOfPairs_107 hl (k := 6) rfl rfl (by decide) rfl (fun ls hl => ?_)
                  refine lv_goto (tgt := 3) hx hb dX4_refusalOfPairs_110 (by decide) ?_
                  exact ih _ _ _ _ _ _ _ hf _ _ _ hP hD hS (lv_sub hl [3, 4, 5, 6, 0] rfl)
                · replace hf := (if_pos hc15).symm.trans hf
                  refine lv_iconst (v := (-1 : Int32)) hx hb dX4_refusalOfPairs_105 (by decide) ?_
                  obtain rfl := Option.some.inj hf
                  exact rt_i Cc hK hP hD hS dX4_refusalOfPairs_106
            · replace hf := (if_pos hc12).symm.trans hf
              refine lv_bipush (v := (-2 : Int32)) hx hb dX4_refusalOfPairs_84 (by decide) ?_
              obtain rfl := Option.some.inj hf
              exact rt_i Cc hK hP hD hS dX4_refusalOfPairs_86
        · replace hf := (if_pos hc6).symm.trans hf
          refine lv_iload hx hb dX4_refusalOfPairs_53 (lv_at hl 0 rfl) ?_
          refine lv_iconst (v := (0 : Int32)) hx hb dX4_refusalOfPairs_55 (by decide) ?_
          refine lv_bipush (v := (9 : Int32)) hx hb dX4_refusalOfPairs_56 (by decide) ?_
          obtain ⟨q58_1, hq16, hf⟩ := Option.bind_eq_some_iff.mp hf
          refine cSt (ws' := (W_dfs cI cS a_d a_f a_t a_r a_z a_f_kind a_f_wet a_s a_s_row d_hour d_traced d_latestFault f_kind f_wet f_wide f_rows f_cells f_sun f_all f_firstColumn f_lastColumn s_row s_lane s_length)) (rest := []) (st1 := [.int q58_1]) Cc hK hA hP hD hS hl.1 (ctX4_within l D cI cS   q30_2 (0 : Int32) (9 : Int32) n q58_1 hq16) ⟨tw_154, tw_152, tw_153, tw_1⟩ mdX4_within ⟨rfl, rfl, Nat.le_of_ble_eq_true rfl, Nat.le_of_ble_eq_true rfl⟩ rfl dX4_refusalOfPairs_58 rfl (Nat.le_of_ble_eq_true rfl) ⟨Nat.zero_le _, Nat.zero_le _⟩ rfl [] [0, 1, 2, 3, 4, 5] [0, 1, 2, 3, 4, 5] rfl rfl (by decide) rfl (fun H locs hP hD hS => ?_)
          refine lv_if_ne (tgt := 67) hx hb dX4_refusalOfPairs_61 (by decide) (fun hc17 => ?_) (fun hc17 => ?_)
          · replace hf := (if_neg hc17).symm.trans hf
            refine lv_iload hx hb dX4_refusalOfPairs_67 (lv_at hl 1 rfl) ?_
            refine lv_iconst (v := (2 : Int32)) hx hb dX4_refusalOfPairs_69 (by decide) ?_
            refine lv_icmp_ne (tgt := 87) hx hb dX4_refusalOfPairs_70 (by decide) (fun hc18 => ?_) (fun hc18 => ?_)
            · replace hf := (if_neg hc18).symm.trans hf
              refine lv_iload hx hb dX4_refusalOfPairs_87 (lv_at hl 1 rfl) ?_
              refine lv_iconst (v := (1 : Int32)) hx hb dX4_refusalOfPairs_89 (by decide) ?_
              refine lv_icmp_ne (tgt := 107) hx hb dX4_refusalOfPairs_90 (by decide) (fun hc19 => ?_) (fun hc19 => ?_)
              · replace hf := (if_neg hc19).symm.trans hf
                refine lv_iinc (v := (x4 + 1)) (lv' := [(4, .int (x4 + 1)), (6, .int q30_2), (5, .int q16_1), (0, .ref a_d), (1, .ref a_s), (2, .int x2), (3, .int x3)]) hx hb dX4_refusalOfPairs_107 hl (k := 6) rfl rfl (by decide) rfl (fun ls hl => ?_)
                refine lv_goto (tgt := 3) hx hb dX4_refusalOfPairs_110 (by decide) ?_
                exact ih _ _ _ _ _ _ _ hf _ _ _ hP hD hS (lv_sub hl [3, 4, 5, 6, 0] rfl)
              · replace hf := (if_pos hc19).symm.trans hf
                refine lv_aload_n hx hb dX4_refusalOfPairs_93 rfl (lv_at hl 2 rfl) ?_
                refine va_get (D := D) (ci := 4) (v := .ref a_f) (C := RX4) (T := TX4) (N := 7) hx hb hts inX4 hown hK hP 0 rfl rfl 0 (by decide) (hts _ tw_123) (fun _ h9 => h9) rfl dX4_refusalOfPairs_94 ?_
                refine lv_iload hx hb dX4_refusalOfPairs_97 (lv_at hl 0 rfl) ?_
                obtain ⟨q99_1, hq20, hf⟩ := Option.bind_eq_some_iff.mp hf
                refine cV (ws' := (W_dfs cI cS a_d a_f a_t a_r a_z a_f_kind a_f_wet a_s a_s_row d_hour d_traced d_latestFault f_kind f_wet f_wide f_rows f_cells f_sun f_all f_firstColumn f_lastColumn s_row s_lane s_length)) (rest := []) (st1 := [.int q99_1]) Cc hK hA hP hD hS hl.1 (ctX0_isCell l D cI cS a_f a_f_kind a_f_wet f_kind f_wet f_wide f_rows f_cells f_sun f_all f_firstColumn f_lastColumn q30_2 n q99_1 hq20) ⟨tw_218, tw_215, tw_216, tw_217, tw_2⟩ mdX0_isCell ⟨rfl, rfl, Nat.le_of_ble_eq_true rfl, Nat.le_of_ble_eq_true rfl⟩ rfl dX4_refusalOfPairs_99 rfl (Nat.le_of_ble_eq_true rfl) ⟨Nat.zero_le _, Nat.zero_le _⟩ rfl rfl rfl [1, 2, 3] [0, 4, 5] [0, 3, 4, 5, 1, 2] rfl rfl (by decide) rfl (fun H locs hP hD hS => ?_)
                refine lv_if_ne (tgt := 107) hx hb dX4_refusalOfPairs_102 (by decide) (fun hc21 => ?_) (fun hc21 => ?_)
                · replace hf := (if_neg hc21).symm.trans hf
                  refine lv_iinc (v := (x4 + 1)) (lv' := [(4, .int (x4 + 1)), (6, .int q30_2), (5, .int q16_1), (0, .ref a_d), (1, .ref a_s), (2, .int x2), (3, .int x3)]) hx hb dX4_refusalOfPairs_107 hl (k := 6) rfl rfl (by decide) rfl (fun ls hl => ?_)
                  refine lv_goto (tgt := 3) hx hb dX4_refusalOfPairs_110 (by decide) ?_
                  exact ih _ _ _ _ _ _ _ hf _ _ _ hP hD hS (lv_sub hl [3, 4, 5, 6, 0] rfl)
                · replace hf := (if_pos hc21).symm.trans hf
                  refine lv_iconst (v := (-1 : Int32)) hx hb dX4_refusalOfPairs_105 (by decide) ?_
                  obtain rfl := Option.some.inj hf
                  exact rt_i Cc hK hP hD hS dX4_refusalOfPairs_106
            · replace hf := (if_pos hc18).symm.trans hf
              refine lv_iload hx hb dX4_refusalOfPairs_73 (lv_at hl 0 rfl) ?_
              refine lv_iconst (v := (0 : Int32)) hx hb dX4_refusalOfPairs_75 (by decide) ?_
              refine lv_bipush (v := (9 : Int32)) hx hb dX4_refusalOfPairs_76 (by decide) ?_
              obtain ⟨q78_1, hq22, hf⟩ := Option.bind_eq_some_iff.mp hf
              refine cSt (ws' := (W_dfs cI cS a_d a_f a_t a_r a_z a_f_kind a_f_wet a_s a_s_row d_hour d_traced d_latestFault f_kind f_wet f_wide f_rows f_cells f_sun f_all f_firstColumn f_lastColumn s_row s_lane s_length)) (rest := []) (st1 := [.int q78_1]) Cc hK hA hP hD hS hl.1 (ctX4_within l D cI cS   q30_2 (0 : Int32) (9 : Int32) n q78_1 hq22) ⟨tw_154, tw_152, tw_153, tw_1⟩ mdX4_within ⟨rfl, rfl, Nat.le_of_ble_eq_true rfl, Nat.le_of_ble_eq_true rfl⟩ rfl dX4_refusalOfPairs_78 rfl (Nat.le_of_ble_eq_true rfl) ⟨Nat.zero_le _, Nat.zero_le _⟩ rfl [] [0, 1, 2, 3, 4, 5] [0, 1, 2, 3, 4, 5] rfl rfl (by decide) rfl (fun H locs hP hD hS => ?_)
              refine lv_if_ne (tgt := 87) hx hb dX4_refusalOfPairs_81 (by decide) (fun hc23 => ?_) (fun hc23 => ?_)
              · replace hf := (if_neg hc23).symm.trans hf
                refine lv_iload hx hb dX4_refusalOfPairs_87 (lv_at hl 1 rfl) ?_
                refine lv_iconst (v := (1 : Int32)) hx hb dX4_refusalOfPairs_89 (by decide) ?_
                refine lv_icmp_ne (tgt := 107) hx hb dX4_refusalOfPairs_90 (by decide) (fun hc24 => ?_) (fun hc24 => ?_)
                · replace hf := (if_neg hc24).symm.trans hf
                  refine lv_iinc (v := (x4 + 1)) (lv' := [(4, .int (x4 + 1)), (6, .int q30_2), (5, .int q16_1), (0, .ref a_d), (1, .ref a_s), (2, .int x2), (3, .int x3)]) hx hb dX4_refusalOfPairs_107 hl (k := 6) rfl rfl (by decide) rfl (fun ls hl => ?_)
                  refine lv_goto (tgt := 3) hx hb dX4_refusalOfPairs_110 (by decide) ?_
                  exact ih _ _ _ _ _ _ _ hf _ _ _ hP hD hS (lv_sub hl [3, 4, 5, 6, 0] rfl)
                · replace hf := (if_pos hc24).symm.trans hf
                  refine lv_aload_n hx hb dX4_refusalOfPairs_93 rfl (lv_at hl 2 rfl) ?_
                  refine va_get (D := D) (ci := 4) (v := .ref a_f) (C := RX4) (T := TX4) (N := 7) hx hb hts inX4 hown hK hP 0 rfl rfl 0 (by decide) (hts _ tw_123) (fun _ h9 => h9) rfl dX4_refusalOfPairs_94 ?_
                  refine lv_iload hx hb dX4_refusalOfPairs_97 (lv_at hl 0 rfl) ?_
                  obtain ⟨q99_1, hq25, hf⟩ := Option.bind_eq_some_iff.mp hf
                  refine cV (ws' := (W_dfs cI cS a_d a_f a_t a_r a_z a_f_kind a_f_wet a_s a_s_row d_hour d_traced d_latestFault f_kind f_wet f_wide f_rows f_cells f_sun f_all f_firstColumn f_lastColumn s_row s_lane s_length)) (rest := []) (st1 := [.int q99_1]) Cc hK hA hP hD hS hl.1 (ctX0_isCell l D cI cS a_f a_f_kind a_f_wet f_kind f_wet f_wide f_rows f_cells f_sun f_all f_firstColumn f_lastColumn q30_2 n q99_1 hq25) ⟨tw_218, tw_215, tw_216, tw_217, tw_2⟩ mdX0_isCell ⟨rfl, rfl, Nat.le_of_ble_eq_true rfl, Nat.le_of_ble_eq_true rfl⟩ rfl dX4_refusalOfPairs_99 rfl (Nat.le_of_ble_eq_true rfl) ⟨Nat.zero_le _, Nat.zero_le _⟩ rfl rfl rfl [1, 2, 3] [0, 4, 5] [0, 3, 4, 5, 1, 2] rfl rfl (by decide) rfl (fun H locs hP hD hS => ?_)
                  refine lv_if_ne (tgt := 107) hx hb dX4_refusalOfPairs_102 (by decide) (fun hc26 => ?_) (fun hc26 => ?_)
                  · replace hf := (if_neg hc26).symm.trans hf
                    refine lv_iinc (v := (x4 + 1)) (lv' := [(4, .int (x4 + 1)), (6, .int q30_2), (5, .int q16_1), (0, .ref a_d), (1, .ref a_s), (2, .int x2), (3, .int x3)]) hx hb dX4_refusalOfPairs_107 hl (k := 6) rfl rfl (by decide) rfl (fun ls hl => ?_)
                    refine lv_goto (tgt := 3) hx hb dX4_refusalOfPairs_110 (by decide) ?_
                    exact ih _ _ _ _ _ _ _ hf _ _ _ hP hD hS (lv_sub hl [3, 4, 5, 6, 0] rfl)
                  · replace hf := (if_pos hc26).symm.trans hf
                    refine lv_iconst (v := (-1 : Int32)) hx hb dX4_refusalOfPairs_105 (by decide) ?_
                    obtain rfl := Option.some.inj hf
                    exact rt_i Cc hK hP hD hS dX4_refusalOfPairs_106
              · replace hf := (if_pos hc23).symm.trans hf
                refine lv_bipush (v := (-2 : Int32)) hx hb dX4_refusalOfPairs_84 (by decide) ?_
                obtain rfl := Option.some.inj hf
                exact rt_i Cc hK hP hD hS dX4_refusalOfPairs_86
          · replace hf := (if_pos hc17).symm.trans hf
            refine lv_bipush (v := (-2 : Int32)) hx hb dX4_refusalOfPairs_64 (by decide) ?_
            obtain rfl := Option.some.inj hf
            exact rt_i Cc hK hP hD hS dX4_refusalOfPairs_66
      · replace hf := (if_pos hc5).symm.trans hf
        refine lv_bipush (v := (-2 : Int32)) hx hb dX4_refusalOfPairs_45 (by decide) ?_
        obtain rfl := Option.some.inj hf
        exact rt_i Cc hK hP hD hS dX4_refusalOfPairs_47
set_option maxHeartbeats 4000000 in
set_option maxRecDepth 100000 in
theorem ctX4_refusalOfPairs (l : Launch) (D : va_G) (cI cS : ClassId) (a_d a_f a_t a_r a_z a_f_kind a_f_wet a_s a_s_row : Nat) (d_hour : Int32) (d_traced : Int32) (d_latestFault : Int32) (f_kind : Nat → Int32) (f_wet : Nat → Int32) (f_wide : Int32) (f_rows : Int32) (f_cells : Int32) (f_sun : Int32) (f_all : Int32) (f_firstColumn : Int32) (f_lastColumn : Int32) (s_row : Nat → Int32) (s_lane : Int32) (s_length : Int32) (p2 : Int32) (p3 : Int32) (n : Nat) (r : Int32) (hf : fX4_refusalOfPairs n f_cells s_row s_length p2 p3 = some (r)) : Ct l D (tysA cI cS) yX4_refusalOfPairs cX4_refusalOfPairs 7 (some .int) (Rm 2) [.ref a_d, .ref a_s, .int p2, .int p3] (W_dfs cI cS a_d a_f a_t a_r a_z a_f_kind a_f_wet a_s a_s_row d_hour d_traced d_latestFault f_kind f_wet f_wide f_rows f_cells f_sun f_all f_firstColumn f_lastColumn s_row s_lane s_length) (some (.int r)) (W_dfs cI cS a_d a_f a_t a_r a_z a_f_kind a_f_wet a_s a_s_row d_hour d_traced d_latestFault f_kind f_wet f_wide f_rows f_cells f_sun f_all f_firstColumn f_lastColumn s_row s_lane s_length) := by
  refine Ct_of (by decide) (Nat.le_of_ble_eq_true rfl) ?_
  intro p e s m args below meth c A ls Cc hK hA hP hD hS hl
  have hl : lv_has ls 7 [(0, .ref a_d), (1, .ref a_s), (2, .int p2), (3, .int p3)] := hl
  obtain ⟨hx, hb, hr, hml, hown, hts, hlk, hnw⟩ := id Cc
  unfold fX4_refusalOfPairs at hf
  refine lv_iconst (v := (0 : Int32)) hx hb dX4_refusalOfPairs_0 (by decide) ?_
  refine lv_istore (lv' := [(4, .int (0 : Int32)), (0, .ref a_d), (1, .ref a_s), (2, .int p2), (3, .int p3)]) hx hb dX4_refusalOfPairs_1 hl (by decide) rfl (fun ls hl => ?_)
  exact bX4_refusalOfPairs_3 a_d a_f a_t a_r a_z a_f_kind a_f_wet a_s a_s_row d_hour d_traced d_latestFault f_kind f_wet f_wide f_rows f_sun f_all f_firstColumn f_lastColumn s_lane Cc hK hA n n _ _ _ _ _ _ _ hf _ _ _ hP hD hS (lv_sub hl [1, 2, 3, 4, 0] rfl)
-- X4_leave
def fX4_leave (n : Nat) (d_traced : Int32) (p1 : Int32) : Option (Int32) := some ((((31 : Int32) * d_traced) + p1))
theorem mdX4_leave : yX4_leave.cls = RX4 ∧ yX4_leave.cls ≠ "java/lang/invoke/MethodHandle" ∧ yX4_leave.cls ≠ "java/lang/invoke/VarHandle" ∧ (parseMethodDescriptor yX4_leave.desc).map (fun d => d.parameters.length) = some 1 := by decide +kernel
set_option maxHeartbeats 4000000 in
set_option maxRecDepth 100000 in
theorem ctX4_leave (l : Launch) (D : va_G) (cI cS : ClassId) (a_d a_f a_t a_r a_z : Nat) (d_hour : Int32) (d_traced : Int32) (d_latestFault : Int32) (p1 : Int32) (n : Nat) (d_traced' : Int32) (hf : fX4_leave n d_traced p1 = some (d_traced')) : Ct l D (tysA cI cS) yX4_leave cX4_leave 2 none (Rm 0) [.ref a_d, .int p1] (W_d cI cS a_d a_f a_t a_r a_z d_hour d_traced d_latestFault) none (W_d cI cS a_d a_f a_t a_r a_z d_hour d_traced' d_latestFault) := by
  refine Ct_of (by decide) (Nat.le_of_ble_eq_true rfl) ?_
  intro p e s m args below meth c A ls Cc hK hA hP hD hS hl
  have hl : lv_has ls 2 [(0, .ref a_d), (1, .int p1)] := hl
  obtain ⟨hx, hb, hr, hml, hown, hts, hlk, hnw⟩ := id Cc
  unfold fX4_leave at hf
  refine lv_aload_n hx hb dX4_leave_0 rfl (lv_at hl 0 rfl) ?_
  refine lv_bipush (v := (31 : Int32)) hx hb dX4_leave_1 (by decide) ?_
  refine lv_aload_n hx hb dX4_leave_3 rfl (lv_at hl 0 rfl) ?_
  refine va_get (D := D) (ci := 4) (v := .int d_traced) (C := RX4) (T := TX4) (N := 7) hx hb hts inX4 hown hK hP 0 rfl rfl 5 (by decide) (hts _ tw_128) (fun _ h9 => h9) rfl dX4_leave_4 ?_
  refine lv_imul hx hb dX4_leave_7 ?_
  refine lv_iload_n hx hb dX4_leave_8 rfl (lv_at hl 1 rfl) ?_
  refine lv_iadd hx hb dX4_leave_9 ?_
  refine va_put (D := D) (ci := 4) (v := .int (((31 : Int32) * d_traced) + p1)) (ty := .int) (C := RX4) (T := TX4) (N := 7) hx hb hts inX4 tyX4 tyX4_ok nmX4 hown hK hP hD hS 0 rfl rfl 5 (by decide) (hts _ tw_128) (fun _ h9 => h9) rfl (tyX4_ok 5 (by decide)) rfl rfl (Nat.le_of_ble_eq_true rfl) dX4_leave_10 (fun H locs hP hD hS => ?_)
  have hP : va_P D classes (W_d cI cS a_d a_f a_t a_r a_z d_hour (((31 : Int32) * d_traced) + p1) d_latestFault) H := hP
  have hD : va_D A (W_d cI cS a_d a_f a_t a_r a_z d_hour (((31 : Int32) * d_traced) + p1) d_latestFault) := hD
  obtain rfl := Option.some.inj hf
  exact rt_v Cc hK hP hD hS dX4_leave_13
-- X4_tellingOfMud
def fX4_tellingOfMud (n : Nat) (d_traced : Int32) (f_wet : Nat → Int32) (p1 : Int32) : Option (Int32 × Int32) := (fX4_leave n d_traced (1 : Int32)).bind fun q2_1 => gd p1 12 (some ((f_wet p1.toNatClampNeg), q2_1))
theorem mdX4_tellingOfMud : yX4_tellingOfMud.cls = RX4 ∧ yX4_tellingOfMud.cls ≠ "java/lang/invoke/MethodHandle" ∧ yX4_tellingOfMud.cls ≠ "java/lang/invoke/VarHandle" ∧ (parseMethodDescriptor yX4_tellingOfMud.desc).map (fun d => d.parameters.length) = some 1 := by decide +kernel
set_option maxHeartbeats 4000000 in
set_option maxRecDepth 100000 in
theorem ctX4_tellingOfMud (l : Launch) (D : va_G) (cI cS : ClassId) (a_d a_f a_t a_r a_z a_f_kind a_f_wet : Nat) (d_hour : Int32) (d_traced : Int32) (d_latestFault : Int32) (f_kind : Nat → Int32) (f_wet : Nat → Int32) (f_wide : Int32) (f_rows : Int32) (f_cells : Int32) (f_sun : Int32) (f_all : Int32) (f_firstColumn : Int32) (f_lastColumn : Int32) (p1 : Int32) (n : Nat) (r : Int32) (d_traced' : Int32) (hf : fX4_tellingOfMud n d_traced f_wet p1 = some (r, d_traced')) : Ct l D (tysA cI cS) yX4_tellingOfMud cX4_tellingOfMud 2 (some .int) (Rm 1) [.ref a_d, .int p1] (W_df cI cS a_d a_f a_t a_r a_z a_f_kind a_f_wet d_hour d_traced d_latestFault f_kind f_wet f_wide f_rows f_cells f_sun f_all f_firstColumn f_lastColumn) (some (.int r)) (W_df cI cS a_d a_f a_t a_r a_z a_f_kind a_f_wet d_hour d_traced' d_latestFault f_kind f_wet f_wide f_rows f_cells f_sun f_all f_firstColumn f_lastColumn) := by
  refine Ct_of (by decide) (Nat.le_of_ble_eq_true rfl) ?_
  intro p e s m args below meth c A ls Cc hK hA hP hD hS hl
  have hl : lv_has ls 2 [(0, .ref a_d), (1, .int p1)] := hl
  obtain ⟨hx, hb, hr, hml, hown, hts, hlk, hnw⟩ := id Cc
  unfold fX4_tellingOfMud at hf
  refine lv_aload_n hx hb dX4_tellingOfMud_0 rfl (lv_at hl 0 rfl) ?_
  refine lv_iconst (v := (1 : Int32)) hx hb dX4_tellingOfMud_1 (by decide) ?_
  obtain ⟨q2_1, hq1, hf⟩ := Option.bind_eq_some_iff.mp hf
  refine cV (ws' := (W_df cI cS a_d a_f a_t a_r a_z a_f_kind a_f_wet d_hour q2_1 d_latestFault f_kind f_wet f_wide f_rows f_cells f_sun f_all f_firstColumn f_lastColumn)) (rest := []) (st1 := []) Cc hK hA hP hD hS hl.1 (ctX4_leave l D cI cS a_d a_f a_t a_r a_z d_hour d_traced d_latestFault (1 : Int32) n q2_1 hq1) ⟨tw_468, tw_465, tw_467, tp_8, tw_1⟩ mdX4_leave ⟨rfl, rfl, Nat.le_of_ble_eq_true rfl, Nat.le_of_ble_eq_true rfl⟩ rfl dX4_tellingOfMud_2 rfl (Nat.le_of_ble_eq_true rfl) ⟨Nat.zero_le _, Nat.zero_le _⟩ rfl rfl rfl [0] [1, 2, 3] [3, 0, 1, 2] rfl rfl (by decide) rfl (fun H locs hP hD hS => ?_)
  refine lv_aload_n hx hb dX4_tellingOfMud_5 rfl (lv_at hl 0 rfl) ?_
  refine va_get (D := D) (ci := 4) (v := .ref a_f) (C := RX4) (T := TX4) (N := 7) hx hb hts inX4 hown hK hP 0 rfl rfl 0 (by decide) (hts _ tw_123) (fun _ h9 => h9) rfl dX4_tellingOfMud_6 ?_
  refine va_getN (D := D) (ci := 0) (v := .ref a_f_wet) (C := RX0) (T := TX0) (N := 9) hx hb hts inX0 hown hK hP 1 rfl rfl 1 (by decide) (va_Nw.use rfl (hnw _ nn_1)) (fun _ h9 => h9) rfl dX4_tellingOfMud_9 ?_
  refine lv_iload_n hx hb dX4_tellingOfMud_12 rfl (lv_at hl 1 rfl) ?_
  obtain ⟨hin, hf⟩ := gd_some hf
  refine va_iald hx hb hK hP 3 0 rfl rfl hin dX4_tellingOfMud_13 ?_
  replace hf := Option.some.inj hf
  obtain ⟨er0, er1⟩ := Prod.mk.inj hf
  clear hf 
  subst er0
  subst er1
  exact rt_i Cc hK hP hD hS dX4_tellingOfMud_14
-- X4_tellingOfSand
def fX4_tellingOfSand (n : Nat) (d_traced : Int32) (f_wet : Nat → Int32) (p1 : Int32) : Option (Int32 × Int32) := (fX4_leave n d_traced (2 : Int32)).bind fun q2_1 => (fX4_tellingOfMud n q2_1 f_wet p1).bind fun q7_2 => some ((q7_2.1 + (100 : Int32)), q7_2.2)
theorem mdX4_tellingOfSand : yX4_tellingOfSand.cls = RX4 ∧ yX4_tellingOfSand.cls ≠ "java/lang/invoke/MethodHandle" ∧ yX4_tellingOfSand.cls ≠ "java/lang/invoke/VarHandle" ∧ (parseMethodDescriptor yX4_tellingOfSand.desc).map (fun d => d.parameters.length) = some 1 := by decide +kernel
set_option maxHeartbeats 4000000 in
set_option maxRecDepth 100000 in
theorem ctX4_tellingOfSand (l : Launch) (D : va_G) (cI cS : ClassId) (a_d a_f a_t a_r a_z a_f_kind a_f_wet : Nat) (d_hour : Int32) (d_traced : Int32) (d_latestFault : Int32) (f_kind : Nat → Int32) (f_wet : Nat → Int32) (f_wide : Int32) (f_rows : Int32) (f_cells : Int32) (f_sun : Int32) (f_all : Int32) (f_firstColumn : Int32) (f_lastColumn : Int32) (p1 : Int32) (n : Nat) (r : Int32) (d_traced' : Int32) (hf : fX4_tellingOfSand n d_traced f_wet p1 = some (r, d_traced')) : Ct l D (tysA cI cS) yX4_tellingOfSand cX4_tellingOfSand 2 (some .int) (Rm 2) [.ref a_d, .int p1] (W_df cI cS a_d a_f a_t a_r a_z a_f_kind a_f_wet d_hour d_traced d_latestFault f_kind f_wet f_wide f_rows f_cells f_sun f_all f_firstColumn f_lastColumn) (some (.int r)) (W_df cI cS a_d a_f a_t a_r a_z a_f_kind a_f_wet d_hour d_traced' d_latestFault f_kind f_wet f_wide f_rows f_cells f_sun f_all f_firstColumn f_lastColumn) := by
  refine Ct_of (by decide) (Nat.le_of_ble_eq_true rfl) ?_
  intro p e s m args below meth c A ls Cc hK hA hP hD hS hl
  have hl : lv_has ls 2 [(0, .ref a_d), (1, .int p1)] := hl
  obtain ⟨hx, hb, hr, hml, hown, hts, hlk, hnw⟩ := id Cc
  unfold fX4_tellingOfSand at hf
  refine lv_aload_n hx hb dX4_tellingOfSand_0 rfl (lv_at hl 0 rfl) ?_
  refine lv_iconst (v := (2 : Int32)) hx hb dX4_tellingOfSand_1 (by decide) ?_
  obtain ⟨q2_1, hq1, hf⟩ := Option.bind_eq_some_iff.mp hf
  refine cV (ws' := (W_df cI cS a_d a_f a_t a_r a_z a_f_kind a_f_wet d_hour q2_1 d_latestFault f_kind f_wet f_wide f_rows f_cells f_sun f_all f_firstColumn f_lastColumn)) (rest := []) (st1 := []) Cc hK hA hP hD hS hl.1 (ctX4_leave l D cI cS a_d a_f a_t a_r a_z d_hour d_traced d_latestFault (2 : Int32) n q2_1 hq1) ⟨tw_468, tw_465, tw_467, tp_8, tw_1⟩ mdX4_leave ⟨rfl, rfl, Nat.le_of_ble_eq_true rfl, Nat.le_of_ble_eq_true rfl⟩ rfl dX4_tellingOfSand_2 rfl (Nat.le_of_ble_eq_true rfl) ⟨Nat.zero_le _, Nat.zero_le _⟩ rfl rfl rfl [0] [1, 2, 3] [3, 0, 1, 2] rfl rfl (by decide) rfl (fun H locs hP hD hS => ?_)
  refine lv_aload_n hx hb dX4_tellingOfSand_5 rfl (lv_at hl 0 rfl) ?_
  refine lv_iload_n hx hb dX4_tellingOfSand_6 rfl (lv_at hl 1 rfl) ?_
  obtain ⟨q7_2, hq2, hf⟩ := Option.bind_eq_some_iff.mp hf
  refine cV (ws' := (W_df cI cS a_d a_f a_t a_r a_z a_f_kind a_f_wet d_hour q7_2.2 d_latestFault f_kind f_wet f_wide f_rows f_cells f_sun f_all f_firstColumn f_lastColumn)) (rest := []) (st1 := [.int q7_2.1]) Cc hK hA hP hD hS hl.1 (ctX4_tellingOfMud l D cI cS a_d a_f a_t a_r a_z a_f_kind a_f_wet d_hour q2_1 d_latestFault f_kind f_wet f_wide f_rows f_cells f_sun f_all f_firstColumn f_lastColumn p1 n q7_2.1 q7_2.2 hq2) ⟨tw_472, tw_469, tw_471, tp_9, tw_1⟩ mdX4_tellingOfMud ⟨rfl, rfl, Nat.le_of_ble_eq_true rfl, Nat.le_of_ble_eq_true rfl⟩ rfl dX4_tellingOfSand_7 rfl (Nat.le_of_ble_eq_true rfl) ⟨Nat.zero_le _, Nat.zero_le _⟩ rfl rfl rfl [0, 1, 2, 3] [] [0, 1, 2, 3] rfl rfl (by decide) rfl (fun H locs hP hD hS => ?_)
  refine lv_bipush (v := (100 : Int32)) hx hb dX4_tellingOfSand_10 (by decide) ?_
  refine lv_iadd hx hb dX4_tellingOfSand_12 ?_
  replace hf := Option.some.inj hf
  obtain ⟨er0, er1⟩ := Prod.mk.inj hf
  clear hf 
  subst er0
  subst er1
  exact rt_i Cc hK hP hD hS dX4_tellingOfSand_13
-- X4_tellingOfClay
def fX4_tellingOfClay (n : Nat) (d_traced : Int32) (f_wet : Nat → Int32) (p1 : Int32) : Option (Int32 × Int32) := (fX4_leave n d_traced (3 : Int32)).bind fun q2_1 => (fX4_tellingOfSand n q2_1 f_wet p1).bind fun q7_2 => (fX4_tellingOfMud n q7_2.2 f_wet p1).bind fun q14_3 => some ((q7_2.1 + q14_3.1), q14_3.2)
theorem mdX4_tellingOfClay : yX4_tellingOfClay.cls = RX4 ∧ yX4_tellingOfClay.cls ≠ "java/lang/invoke/MethodHandle" ∧ yX4_tellingOfClay.cls ≠ "java/lang/invoke/VarHandle" ∧ (parseMethodDescriptor yX4_tellingOfClay.desc).map (fun d => d.parameters.length) = some 1 := by decide +kernel
set_option maxHeartbeats 4000000 in
set_option maxRecDepth 100000 in
theorem ctX4_tellingOfClay (l : Launch) (D : va_G) (cI cS : ClassId) (a_d a_f a_t a_r a_z a_f_kind a_f_wet : Nat) (d_hour : Int32) (d_traced : Int32) (d_latestFault : Int32) (f_kind : Nat → Int32) (f_wet : Nat → Int32) (f_wide : Int32) (f_rows : Int32) (f_cells : Int32) (f_sun : Int32) (f_all : Int32) (f_firstColumn : Int32) (f_lastColumn : Int32) (p1 : Int32) (n : Nat) (r : Int32) (d_traced' : Int32) (hf : fX4_tellingOfClay n d_traced f_wet p1 = some (r, d_traced')) : Ct l D (tysA cI cS) yX4_tellingOfClay cX4_tellingOfClay 3 (some .int) (Rm 3) [.ref a_d, .int p1] (W_df cI cS a_d a_f a_t a_r a_z a_f_kind a_f_wet d_hour d_traced d_latestFault f_kind f_wet f_wide f_rows f_cells f_sun f_all f_firstColumn f_lastColumn) (some (.int r)) (W_df cI cS a_d a_f a_t a_r a_z a_f_kind a_f_wet d_hour d_traced' d_latestFault f_kind f_wet f_wide f_rows f_cells f_sun f_all f_firstColumn f_lastColumn) := by
  refine Ct_of (by decide) (Nat.le_of_ble_eq_true rfl) ?_
  intro p e s m args below meth c A ls Cc hK hA hP hD hS hl
  have hl : lv_has ls 3 [(0, .ref a_d), (1, .int p1)] := hl
  obtain ⟨hx, hb, hr, hml, hown, hts, hlk, hnw⟩ := id Cc
  unfold fX4_tellingOfClay at hf
  refine lv_aload_n hx hb dX4_tellingOfClay_0 rfl (lv_at hl 0 rfl) ?_
  refine lv_iconst (v := (3 : Int32)) hx hb dX4_tellingOfClay_1 (by decide) ?_
  obtain ⟨q2_1, hq1, hf⟩ := Option.bind_eq_some_iff.mp hf
  refine cV (ws' := (W_df cI cS a_d a_f a_t a_r a_z a_f_kind a_f_wet d_hour q2_1 d_latestFault f_kind f_wet f_wide f_rows f_cells f_sun f_all f_firstColumn f_lastColumn)) (rest := []) (st1 := []) Cc hK hA hP hD hS hl.1 (ctX4_leave l D cI cS a_d a_f a_t a_r a_z d_hour d_traced d_latestFault (3 : Int32) n q2_1 hq1) ⟨tw_468, tw_465, tw_467, tp_8, tw_1⟩ mdX4_leave ⟨rfl, rfl, Nat.le_of_ble_eq_true rfl, Nat.le_of_ble_eq_true rfl⟩ rfl dX4_tellingOfClay_2 rfl (Nat.le_of_ble_eq_true rfl) ⟨Nat.zero_le _, Nat.zero_le _⟩ rfl rfl rfl [0] [1, 2, 3] [3, 0, 1, 2] rfl rfl (by decide) rfl (fun H locs hP hD hS => ?_)
  refine lv_aload_n hx hb dX4_tellingOfClay_5 rfl (lv_at hl 0 rfl) ?_
  refine lv_iload_n hx hb dX4_tellingOfClay_6 rfl (lv_at hl 1 rfl) ?_
  obtain ⟨q7_2, hq2, hf⟩ := Option.bind_eq_some_iff.mp hf
  refine cV (ws' := (W_df cI cS a_d a_f a_t a_r a_z a_f_kind a_f_wet d_hour q7_2.2 d_latestFault f_kind f_wet f_wide f_rows f_cells f_sun f_all f_firstColumn f_lastColumn)) (rest := []) (st1 := [.int q7_2.1]) Cc hK hA hP hD hS hl.1 (ctX4_tellingOfSand l D cI cS a_d a_f a_t a_r a_z a_f_kind a_f_wet d_hour q2_1 d_latestFault f_kind f_wet f_wide f_rows f_cells f_sun f_all f_firstColumn f_lastColumn p1 n q7_2.1 q7_2.2 hq2) ⟨tw_464, tw_461, tw_463, tp_7, tw_1⟩ mdX4_tellingOfSand ⟨rfl, rfl, Nat.le_of_ble_eq_true rfl, Nat.le_of_ble_eq_true rfl⟩ rfl dX4_tellingOfClay_7 rfl (Nat.le_of_ble_eq_true rfl) ⟨Nat.zero_le _, Nat.zero_le _⟩ rfl rfl rfl [0, 1, 2, 3] [] [0, 1, 2, 3] rfl rfl (by decide) rfl (fun H locs hP hD hS => ?_)
  refine lv_istore_n (lv' := [(2, .int q7_2.1), (0, .ref a_d), (1, .int p1)]) hx hb dX4_tellingOfClay_10 rfl hl (by decide) rfl (fun ls hl => ?_)
  refine lv_iload_n hx hb dX4_tellingOfClay_11 rfl (lv_at hl 0 rfl) ?_
  refine lv_aload_n hx hb dX4_tellingOfClay_12 rfl (lv_at hl 1 rfl) ?_
  refine lv_iload_n hx hb dX4_tellingOfClay_13 rfl (lv_at hl 2 rfl) ?_
  obtain ⟨q14_3, hq3, hf⟩ := Option.bind_eq_some_iff.mp hf
  refine cV (ws' := (W_df cI cS a_d a_f a_t a_r a_z a_f_kind a_f_wet d_hour q14_3.2 d_latestFault f_kind f_wet f_wide f_rows f_cells f_sun f_all f_firstColumn f_lastColumn)) (rest := [.int q7_2.1]) (st1 := [.int q14_3.1, .int q7_2.1]) Cc hK hA hP hD hS hl.1 (ctX4_tellingOfMud l D cI cS a_d a_f a_t a_r a_z a_f_kind a_f_wet d_hour q7_2.2 d_latestFault f_kind f_wet f_wide f_rows f_cells f_sun f_all f_firstColumn f_lastColumn p1 n q14_3.1 q14_3.2 hq3) ⟨tw_472, tw_469, tw_471, tp_9, tw_1⟩ mdX4_tellingOfMud ⟨rfl, rfl, Nat.le_of_ble_eq_true rfl, Nat.le_of_ble_eq_true rfl⟩ rfl dX4_tellingOfClay_14 rfl (Nat.le_of_ble_eq_true rfl) ⟨Nat.zero_le _, Nat.zero_le _⟩ rfl rfl rfl [0, 1, 2, 3] [] [0, 1, 2, 3] rfl rfl (by decide) rfl (fun H locs hP hD hS => ?_)
  refine lv_iadd hx hb dX4_tellingOfClay_17 ?_
  replace hf := Option.some.inj hf
  obtain ⟨er0, er1⟩ := Prod.mk.inj hf
  clear hf 
  subst er0
  subst er1
  exact rt_i Cc hK hP hD hS dX4_tellingOfClay_18
