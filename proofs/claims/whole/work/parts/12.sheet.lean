-- X2_hasPlace
def fX2_hasPlace (n : Nat) (s_length : Int32) (p1 : Int32) : Option (Int32) := if p1 < 0 then some ((0 : Int32)) else if s_length ≤ p1 then some ((0 : Int32)) else some ((1 : Int32))
theorem mdX2_hasPlace : yX2_hasPlace.cls = RX2 ∧ yX2_hasPlace.cls ≠ "java/lang/invoke/MethodHandle" ∧ yX2_hasPlace.cls ≠ "java/lang/invoke/VarHandle" ∧ (parseMethodDescriptor yX2_hasPlace.desc).map (fun d => d.parameters.length) = some 1 := by decide +kernel
set_option maxHeartbeats 4000000 in
set_option maxRecDepth 100000 in
theorem ctX2_hasPlace (l : Launch) (D : va_G) (cI cS : ClassId) (a_s a_s_row : Nat) (s_row : Nat → Int32) (s_lane : Int32) (s_length : Int32) (p1 : Int32) (n : Nat) (r : Int32) (hf : fX2_hasPlace n s_length p1 = some (r)) : Ct l D (tysA cI cS) yX2_hasPlace cX2_hasPlace 2 (some .boolean) (Rm 0) [.ref a_s, .int p1] (W_s cI cS a_s a_s_row s_row s_lane s_length) (some (.int r)) (W_s cI cS a_s a_s_row s_row s_lane s_length) := by
  refine Ct_of (by decide) (Nat.le_of_ble_eq_true rfl) ?_
  intro p e s m args below meth c A ls Cc hK hA hP hD hS hl
  have hl : lv_has ls 2 [(0, .ref a_s), (1, .int p1)] := hl
  obtain ⟨hx, hb, hr, hml, hown, hts, hlk, hnw⟩ := id Cc
  unfold fX2_hasPlace at hf
  refine lv_iload_n hx hb dX2_hasPlace_0 rfl (lv_at hl 1 rfl) ?_
  refine lv_if_lt (tgt := 16) hx hb dX2_hasPlace_1 (by decide) (fun hc1 => ?_) (fun hc1 => ?_)
  · replace hf := (if_pos hc1).symm.trans hf
    refine lv_iconst (v := (0 : Int32)) hx hb dX2_hasPlace_16 (by decide) ?_
    obtain rfl := Option.some.inj hf
    exact rt_z Cc (by decide) hK hP hD hS dX2_hasPlace_17
  · replace hf := (if_neg hc1).symm.trans hf
    refine lv_iload_n hx hb dX2_hasPlace_4 rfl (lv_at hl 1 rfl) ?_
    refine lv_aload_n hx hb dX2_hasPlace_5 rfl (lv_at hl 0 rfl) ?_
    refine va_get (D := D) (ci := 2) (v := .int s_length) (C := RX2) (T := TX2) (N := 3) hx hb hts inX2 hown hK hP 0 rfl rfl 2 (by decide) (hts _ tw_115) (fun _ h9 => h9) rfl dX2_hasPlace_6 ?_
    refine lv_icmp_ge (tgt := 16) hx hb dX2_hasPlace_9 (by decide) (fun hc2 => ?_) (fun hc2 => ?_)
    · replace hf := (if_pos hc2).symm.trans hf
      refine lv_iconst (v := (0 : Int32)) hx hb dX2_hasPlace_16 (by decide) ?_
      obtain rfl := Option.some.inj hf
      exact rt_z Cc (by decide) hK hP hD hS dX2_hasPlace_17
    · replace hf := (if_neg hc2).symm.trans hf
      refine lv_iconst (v := (1 : Int32)) hx hb dX2_hasPlace_12 (by decide) ?_
      refine lv_goto (tgt := 17) hx hb dX2_hasPlace_13 (by decide) ?_
      obtain rfl := Option.some.inj hf
      exact rt_z Cc (by decide) hK hP hD hS dX2_hasPlace_17
-- X2_codeAt
def fX2_codeAt (n : Nat) (s_row : Nat → Int32) (s_length : Int32) (p1 : Int32) : Option (Int32) := (fX2_hasPlace n s_length p1).bind fun q2_1 => if q2_1 = 0 then some ((0 : Int32)) else gd p1 60 (some ((s_row p1.toNatClampNeg)))
theorem mdX2_codeAt : yX2_codeAt.cls = RX2 ∧ yX2_codeAt.cls ≠ "java/lang/invoke/MethodHandle" ∧ yX2_codeAt.cls ≠ "java/lang/invoke/VarHandle" ∧ (parseMethodDescriptor yX2_codeAt.desc).map (fun d => d.parameters.length) = some 1 := by decide +kernel
set_option maxHeartbeats 4000000 in
set_option maxRecDepth 100000 in
theorem ctX2_codeAt (l : Launch) (D : va_G) (cI cS : ClassId) (a_s a_s_row : Nat) (s_row : Nat → Int32) (s_lane : Int32) (s_length : Int32) (p1 : Int32) (n : Nat) (r : Int32) (hf : fX2_codeAt n s_row s_length p1 = some (r)) : Ct l D (tysA cI cS) yX2_codeAt cX2_codeAt 2 (some .int) (Rm 1) [.ref a_s, .int p1] (W_s cI cS a_s a_s_row s_row s_lane s_length) (some (.int r)) (W_s cI cS a_s a_s_row s_row s_lane s_length) := by
  refine Ct_of (by decide) (Nat.le_of_ble_eq_true rfl) ?_
  intro p e s m args below meth c A ls Cc hK hA hP hD hS hl
  have hl : lv_has ls 2 [(0, .ref a_s), (1, .int p1)] := hl
  obtain ⟨hx, hb, hr, hml, hown, hts, hlk, hnw⟩ := id Cc
  unfold fX2_codeAt at hf
  refine lv_aload_n hx hb dX2_codeAt_0 rfl (lv_at hl 0 rfl) ?_
  refine lv_iload_n hx hb dX2_codeAt_1 rfl (lv_at hl 1 rfl) ?_
  obtain ⟨q2_1, hq1, hf⟩ := Option.bind_eq_some_iff.mp hf
  refine cV (ws' := (W_s cI cS a_s a_s_row s_row s_lane s_length)) (rest := []) (st1 := [.int q2_1]) Cc hK hA hP hD hS hl.1 (ctX2_hasPlace l D cI cS a_s a_s_row s_row s_lane s_length p1 n q2_1 hq1) ⟨tw_187, tw_184, tw_185, tw_186, tw_5⟩ mdX2_hasPlace ⟨rfl, rfl, Nat.le_of_ble_eq_true rfl, Nat.le_of_ble_eq_true rfl⟩ rfl dX2_codeAt_2 rfl (Nat.le_of_ble_eq_true rfl) ⟨Nat.zero_le _, Nat.zero_le _⟩ rfl rfl rfl [0, 1] [] [0, 1] rfl rfl (by decide) rfl (fun H locs hP hD hS => ?_)
  refine lv_if_eq (tgt := 17) hx hb dX2_codeAt_5 (by decide) (fun hc2 => ?_) (fun hc2 => ?_)
  · replace hf := (if_pos hc2).symm.trans hf
    refine lv_iconst (v := (0 : Int32)) hx hb dX2_codeAt_17 (by decide) ?_
    obtain rfl := Option.some.inj hf
    exact rt_i Cc hK hP hD hS dX2_codeAt_18
  · replace hf := (if_neg hc2).symm.trans hf
    refine lv_aload_n hx hb dX2_codeAt_8 rfl (lv_at hl 0 rfl) ?_
    refine va_get (D := D) (ci := 2) (v := .ref a_s_row) (C := RX2) (T := TX2) (N := 3) hx hb hts inX2 hown hK hP 0 rfl rfl 0 (by decide) (hts _ tw_111) (fun _ h9 => h9) rfl dX2_codeAt_9 ?_
    refine lv_iload_n hx hb dX2_codeAt_12 rfl (lv_at hl 1 rfl) ?_
    obtain ⟨hin, hf⟩ := gd_some hf
    refine va_iald hx hb hK hP 1 0 rfl rfl hin dX2_codeAt_13 ?_
    refine lv_goto (tgt := 18) hx hb dX2_codeAt_14 (by decide) ?_
    obtain rfl := Option.some.inj hf
    exact rt_i Cc hK hP hD hS dX2_codeAt_18
-- X4_digitAt
def fX4_digitAt (n : Nat) (s_row : Nat → Int32) (s_length : Int32) (p1 : Int32) : Option (Int32) := (fX2_codeAt n s_row s_length p1).bind fun q2_1 => some ((q2_1 - (48 : Int32)))
theorem mdX4_digitAt : yX4_digitAt.cls ≠ "java/lang/invoke/MethodHandle" ∧ yX4_digitAt.cls ≠ "java/lang/invoke/VarHandle" ∧ (parseMethodDescriptor yX4_digitAt.desc).map (fun d => d.parameters.length) = some 2 := by decide +kernel
set_option maxHeartbeats 4000000 in
set_option maxRecDepth 100000 in
theorem ctX4_digitAt (l : Launch) (D : va_G) (cI cS : ClassId) (a_s a_s_row : Nat) (s_row : Nat → Int32) (s_lane : Int32) (s_length : Int32) (p1 : Int32) (n : Nat) (r : Int32) (hf : fX4_digitAt n s_row s_length p1 = some (r)) : Ct l D (tysA cI cS) yX4_digitAt cX4_digitAt 2 (some .int) (Rm 2) [.ref a_s, .int p1] (W_s cI cS a_s a_s_row s_row s_lane s_length) (some (.int r)) (W_s cI cS a_s a_s_row s_row s_lane s_length) := by
  refine Ct_of (by decide) (Nat.le_of_ble_eq_true rfl) ?_
  intro p e s m args below meth c A ls Cc hK hA hP hD hS hl
  have hl : lv_has ls 2 [(0, .ref a_s), (1, .int p1)] := hl
  obtain ⟨hx, hb, hr, hml, hown, hts, hlk, hnw⟩ := id Cc
  unfold fX4_digitAt at hf
  refine lv_aload_n hx hb dX4_digitAt_0 rfl (lv_at hl 0 rfl) ?_
  refine lv_iload_n hx hb dX4_digitAt_1 rfl (lv_at hl 1 rfl) ?_
  obtain ⟨q2_1, hq1, hf⟩ := Option.bind_eq_some_iff.mp hf
  refine cV (ws' := (W_s cI cS a_s a_s_row s_row s_lane s_length)) (rest := []) (st1 := [.int q2_1]) Cc hK hA hP hD hS hl.1 (ctX2_codeAt l D cI cS a_s a_s_row s_row s_lane s_length p1 n q2_1 hq1) ⟨tw_183, tw_180, tw_181, tw_182, tw_5⟩ mdX2_codeAt ⟨rfl, rfl, Nat.le_of_ble_eq_true rfl, Nat.le_of_ble_eq_true rfl⟩ rfl dX4_digitAt_2 rfl (Nat.le_of_ble_eq_true rfl) ⟨Nat.zero_le _, Nat.zero_le _⟩ rfl rfl rfl [0, 1] [] [0, 1] rfl rfl (by decide) rfl (fun H locs hP hD hS => ?_)
  refine lv_bipush (v := (48 : Int32)) hx hb dX4_digitAt_5 (by decide) ?_
  refine lv_isub hx hb dX4_digitAt_7 ?_
  obtain rfl := Option.some.inj hf
  exact rt_i Cc hK hP hD hS dX4_digitAt_8
-- X4_kindByLetter
def fX4_kindByLetter (n : Nat)  (p0 : Int32) : Option (Int32) := if p0 = 99 then some ((2 : Int32)) else if p0 = 109 then some ((0 : Int32)) else if p0 = 115 then some ((1 : Int32)) else some ((-9 : Int32))
theorem mdX4_kindByLetter : yX4_kindByLetter.cls ≠ "java/lang/invoke/MethodHandle" ∧ yX4_kindByLetter.cls ≠ "java/lang/invoke/VarHandle" ∧ (parseMethodDescriptor yX4_kindByLetter.desc).map (fun d => d.parameters.length) = some 1 := by decide +kernel
set_option maxHeartbeats 4000000 in
set_option maxRecDepth 100000 in
theorem ctX4_kindByLetter (l : Launch) (D : va_G) (cI cS : ClassId)  (p0 : Int32) (n : Nat) (r : Int32) (hf : fX4_kindByLetter n  p0 = some (r)) : Ct l D (tysA cI cS) yX4_kindByLetter cX4_kindByLetter 1 (some .int) (Rm 0) [.int p0] (W_0 cI cS) (some (.int r)) (W_0 cI cS) := by
  refine Ct_of (by decide) (Nat.le_of_ble_eq_true rfl) ?_
  intro p e s m args below meth c A ls Cc hK hA hP hD hS hl
  have hl : lv_has ls 1 [(0, .int p0)] := hl
  obtain ⟨hx, hb, hr, hml, hown, hts, hlk, hnw⟩ := id Cc
  unfold fX4_kindByLetter at hf
  refine lv_iload_n hx hb dX4_kindByLetter_0 rfl (lv_at hl 0 rfl) ?_
  by_cases hs1_0 : p0 = 99
  · replace hf := (if_pos hs1_0).symm.trans hf
    refine lv_lookup (tgt := 40) (off := 39) hx hb dX4_kindByLetter_1 (by decide) (by rw [hs1_0]; decide) (by decide) ?_
    refine lv_iconst (v := (2 : Int32)) hx hb dX4_kindByLetter_40 (by decide) ?_
    obtain rfl := Option.some.inj hf
    exact rt_i Cc hK hP hD hS dX4_kindByLetter_41
  · replace hf := (if_neg hs1_0).symm.trans hf
    by_cases hs1_1 : p0 = 109
    · replace hf := (if_pos hs1_1).symm.trans hf
      refine lv_lookup (tgt := 36) (off := 35) hx hb dX4_kindByLetter_1 (by decide) (by rw [hs1_1]; decide) (by decide) ?_
      refine lv_iconst (v := (0 : Int32)) hx hb dX4_kindByLetter_36 (by decide) ?_
      obtain rfl := Option.some.inj hf
      exact rt_i Cc hK hP hD hS dX4_kindByLetter_37
    · replace hf := (if_neg hs1_1).symm.trans hf
      by_cases hs1_2 : p0 = 115
      · replace hf := (if_pos hs1_2).symm.trans hf
        refine lv_lookup (tgt := 38) (off := 37) hx hb dX4_kindByLetter_1 (by decide) (by rw [hs1_2]; decide) (by decide) ?_
        refine lv_iconst (v := (1 : Int32)) hx hb dX4_kindByLetter_38 (by decide) ?_
        obtain rfl := Option.some.inj hf
        exact rt_i Cc hK hP hD hS dX4_kindByLetter_39
      · replace hf := (if_neg hs1_2).symm.trans hf
        refine lv_lookup (tgt := 42) (off := 41) hx hb dX4_kindByLetter_1 (by decide) (lk_out3 (k0 := 99) (k1 := 109) (k2 := 115) (nei hs1_0) (nei hs1_1) (nei hs1_2)) (by decide) ?_
        refine lv_bipush (v := (-9 : Int32)) hx hb dX4_kindByLetter_42 (by decide) ?_
        obtain rfl := Option.some.inj hf
        exact rt_i Cc hK hP hD hS dX4_kindByLetter_44
-- J6_lowestOneBit_0f7a4
def fJ6_lowestOneBit_0f7a4 (n : Nat)  (p0 : Int32) : Option (Int32) := some ((p0 &&& (-p0)))
theorem mdJ6_lowestOneBit_0f7a4 : yJ6_lowestOneBit_0f7a4.cls ≠ "java/lang/invoke/MethodHandle" ∧ yJ6_lowestOneBit_0f7a4.cls ≠ "java/lang/invoke/VarHandle" ∧ (parseMethodDescriptor yJ6_lowestOneBit_0f7a4.desc).map (fun d => d.parameters.length) = some 1 := by decide +kernel
set_option maxHeartbeats 4000000 in
set_option maxRecDepth 100000 in
theorem ctJ6_lowestOneBit_0f7a4 (l : Launch) (D : va_G) (cI cS : ClassId)  (p0 : Int32) (n : Nat) (r : Int32) (hf : fJ6_lowestOneBit_0f7a4 n  p0 = some (r)) : Ct l D (tysA cI cS) yJ6_lowestOneBit_0f7a4 cJ6_lowestOneBit_0f7a4 1 (some .int) (Rm 0) [.int p0] (W_0 cI cS) (some (.int r)) (W_0 cI cS) := by
  refine Ct_of (by decide) (Nat.le_of_ble_eq_true rfl) ?_
  intro p e s m args below meth c A ls Cc hK hA hP hD hS hl
  have hl : lv_has ls 1 [(0, .int p0)] := hl
  obtain ⟨hx, hb, hr, hml, hown, hts, hlk, hnw⟩ := id Cc
  unfold fJ6_lowestOneBit_0f7a4 at hf
  refine lv_iload_n hx hb dJ6_lowestOneBit_0f7a4_0 rfl (lv_at hl 0 rfl) ?_
  refine lv_iload_n hx hb dJ6_lowestOneBit_0f7a4_1 rfl (lv_at hl 0 rfl) ?_
  refine lv_ineg hx hb dJ6_lowestOneBit_0f7a4_2 ?_
  refine lv_iand hx hb dJ6_lowestOneBit_0f7a4_3 ?_
  obtain rfl := Option.some.inj hf
  exact rt_i Cc hK hP hD hS dJ6_lowestOneBit_0f7a4_4
-- J6_bitCount_0f7a4
def fJ6_bitCount_0f7a4 (n : Nat)  (p0 : Int32) : Option (Int32) := some (((((((((p0 - ((((p0).toUInt32 >>> (((1 : Int32)).toUInt32 &&& Int32.toUInt32 31)).toInt32) &&& (1431655765 : Int32))) &&& (858993459 : Int32)) + (((((p0 - ((((p0).toUInt32 >>> (((1 : Int32)).toUInt32 &&& Int32.toUInt32 31)).toInt32) &&& (1431655765 : Int32)))).toUInt32 >>> (((2 : Int32)).toUInt32 &&& Int32.toUInt32 31)).toInt32) &&& (858993459 : Int32))) + ((((((p0 - ((((p0).toUInt32 >>> (((1 : Int32)).toUInt32 &&& Int32.toUInt32 31)).toInt32) &&& (1431655765 : Int32))) &&& (858993459 : Int32)) + (((((p0 - ((((p0).toUInt32 >>> (((1 : Int32)).toUInt32 &&& Int32.toUInt32 31)).toInt32) &&& (1431655765 : Int32)))).toUInt32 >>> (((2 : Int32)).toUInt32 &&& Int32.toUInt32 31)).toInt32) &&& (858993459 : Int32)))).toUInt32 >>> (((4 : Int32)).toUInt32 &&& Int32.toUInt32 31)).toInt32)) &&& (252645135 : Int32)) + ((((((((p0 - ((((p0).toUInt32 >>> (((1 : Int32)).toUInt32 &&& Int32.toUInt32 31)).toInt32) &&& (1431655765 : Int32))) &&& (858993459 : Int32)) + (((((p0 - ((((p0).toUInt32 >>> (((1 : Int32)).toUInt32 &&& Int32.toUInt32 31)).toInt32) &&& (1431655765 : Int32)))).toUInt32 >>> (((2 : Int32)).toUInt32 &&& Int32.toUInt32 31)).toInt32) &&& (858993459 : Int32))) + ((((((p0 - ((((p0).toUInt32 >>> (((1 : Int32)).toUInt32 &&& Int32.toUInt32 31)).toInt32) &&& (1431655765 : Int32))) &&& (858993459 : Int32)) + (((((p0 - ((((p0).toUInt32 >>> (((1 : Int32)).toUInt32 &&& Int32.toUInt32 31)).toInt32) &&& (1431655765 : Int32)))).toUInt32 >>> (((2 : Int32)).toUInt32 &&& Int32.toUInt32 31)).toInt32) &&& (858993459 : Int32)))).toUInt32 >>> (((4 : Int32)).toUInt32 &&& Int32.toUInt32 31)).toInt32)) &&& (252645135 : Int32))).toUInt32 >>> (((8 : Int32)).toUInt32 &&& Int32.toUInt32 31)).toInt32)) + (((((((((p0 - ((((p0).toUInt32 >>> (((1 : Int32)).toUInt32 &&& Int32.toUInt32 31)).toInt32) &&& (1431655765 : Int32))) &&& (858993459 : Int32)) + (((((p0 - ((((p0).toUInt32 >>> (((1 : Int32)).toUInt32 &&& Int32.toUInt32 31)).toInt32) &&& (1431655765 : Int32)))).toUInt32 >>> (((2 : Int32)).toUInt32 &&& Int32.toUInt32 31)).toInt32) &&& (858993459 : Int32))) + ((((((p0 - ((((p0).toUInt32 >>> (((1 : Int32)).toUInt32 &&& Int32.toUInt32 31)).toInt32) &&& (1431655765 : Int32))) &&& (858993459 : Int32)) + (((((p0 - ((((p0).toUInt32 >>> (((1 : Int32)).toUInt32 &&& Int32.toUInt32 31)).toInt32) &&& (1431655765 : Int32)))).toUInt32 >>> (((2 : Int32)).toUInt32 &&& Int32.toUInt32 31)).toInt32) &&& (858993459 : Int32)))).toUInt32 >>> (((4 : Int32)).toUInt32 &&& Int32.toUInt32 31)).toInt32)) &&& (252645135 : Int32)) + ((((((((p0 - ((((p0).toUInt32 >>> (((1 : Int32)).toUInt32 &&& Int32.toUInt32 31)).toInt32) &&& (1431655765 : Int32))) &&& (858993459 : Int32)) + (((((p0 - ((((p0).toUInt32 >>> (((1 : Int32)).toUInt32 &&& Int32.toUInt32 31)).toInt32) &&& (1431655765 : Int32)))).toUInt32 >>> (((2 : Int32)).toUInt32 &&& Int32.toUInt32 31)).toInt32) &&& (858993459 : Int32))) + ((((((p0 - ((((p0).toUInt32 >>> (((1 : Int32)).toUInt32 &&& Int32.toUInt32 31)).toInt32) &&& (1431655765 : Int32))) &&& (858993459 : Int32)) + (((((p0 - ((((p0).toUInt32 >>> (((1 : Int32)).toUInt32 &&& Int32.toUInt32 31)).toInt32) &&& (1431655765 : Int32)))).toUInt32 >>> (((2 : Int32)).toUInt32 &&& Int32.toUInt32 31)).toInt32) &&& (858993459 : Int32)))).toUInt32 >>> (((4 : Int32)).toUInt32 &&& Int32.toUInt32 31)).toInt32)) &&& (252645135 : Int32))).toUInt32 >>> (((8 : Int32)).toUInt32 &&& Int32.toUInt32 31)).toInt32))).toUInt32 >>> (((16 : Int32)).toUInt32 &&& Int32.toUInt32 31)).toInt32)) &&& (63 : Int32)))
theorem mdJ6_bitCount_0f7a4 : yJ6_bitCount_0f7a4.cls ≠ "java/lang/invoke/MethodHandle" ∧ yJ6_bitCount_0f7a4.cls ≠ "java/lang/invoke/VarHandle" ∧ (parseMethodDescriptor yJ6_bitCount_0f7a4.desc).map (fun d => d.parameters.length) = some 1 := by decide +kernel
set_option maxHeartbeats 4000000 in
set_option maxRecDepth 100000 in
theorem ctJ6_bitCount_0f7a4 (l : Launch) (D : va_G) (cI cS : ClassId)  (p0 : Int32) (n : Nat) (r : Int32) (hf : fJ6_bitCount_0f7a4 n  p0 = some (r)) : Ct l D (tysA cI cS) yJ6_bitCount_0f7a4 cJ6_bitCount_0f7a4 1 (some .int) (Rm 0) [.int p0] (W_0 cI cS) (some (.int r)) (W_0 cI cS) := by
  refine Ct_of (by decide) (Nat.le_of_ble_eq_true rfl) ?_
  intro p e s m args below meth c A ls Cc hK hA hP hD hS hl
  have hl : lv_has ls 1 [(0, .int p0)] := hl
  obtain ⟨hx, hb, hr, hml, hown, hts, hlk, hnw⟩ := id Cc
  unfold fJ6_bitCount_0f7a4 at hf
  refine lv_iload_n hx hb dJ6_bitCount_0f7a4_0 rfl (lv_at hl 0 rfl) ?_
  refine lv_iload_n hx hb dJ6_bitCount_0f7a4_1 rfl (lv_at hl 0 rfl) ?_
  refine lv_iconst (v := (1 : Int32)) hx hb dJ6_bitCount_0f7a4_2 (by decide) ?_
  refine lv_iushr (v := ((p0).toUInt32 >>> (((1 : Int32)).toUInt32 &&& Int32.toUInt32 31)).toInt32) hx hb dJ6_bitCount_0f7a4_3 rfl ?_
  refine lv_ldcw hx hb hown (hts _ tw_242) dJ6_bitCount_0f7a4_4 ?_
  refine lv_iand hx hb dJ6_bitCount_0f7a4_7 ?_
  refine lv_isub hx hb dJ6_bitCount_0f7a4_8 ?_
  refine lv_istore_n (lv' := [(0, .int (p0 - ((((p0).toUInt32 >>> (((1 : Int32)).toUInt32 &&& Int32.toUInt32 31)).toInt32) &&& (1431655765 : Int32))))]) hx hb dJ6_bitCount_0f7a4_9 rfl hl (by decide) rfl (fun ls hl => ?_)
  refine lv_iload_n hx hb dJ6_bitCount_0f7a4_10 rfl (lv_at hl 0 rfl) ?_
  refine lv_ldcw hx hb hown (hts _ tw_243) dJ6_bitCount_0f7a4_11 ?_
  refine lv_iand hx hb dJ6_bitCount_0f7a4_14 ?_
  refine lv_iload_n hx hb dJ6_bitCount_0f7a4_15 rfl (lv_at hl 0 rfl) ?_
  refine lv_iconst (v := (2 : Int32)) hx hb dJ6_bitCount_0f7a4_16 (by decide) ?_
  refine lv_iushr (v := (((p0 - ((((p0).toUInt32 >>> (((1 : Int32)).toUInt32 &&& Int32.toUInt32 31)).toInt32) &&& (1431655765 : Int32)))).toUInt32 >>> (((2 : Int32)).toUInt32 &&& Int32.toUInt32 31)).toInt32) hx hb dJ6_bitCount_0f7a4_17 rfl ?_
  refine lv_ldcw hx hb hown (hts _ tw_243) dJ6_bitCount_0f7a4_18 ?_
  refine lv_iand hx hb dJ6_bitCount_0f7a4_21 ?_
  refine lv_iadd hx hb dJ6_bitCount_0f7a4_22 ?_
  refine lv_istore_n (lv' := [(0, .int (((p0 - ((((p0).toUInt32 >>> (((1 : Int32)).toUInt32 &&& Int32.toUInt32 31)).toInt32) &&& (1431655765 : Int32))) &&& (858993459 : Int32)) + (((((p0 - ((((p0).toUInt32 >>> (((1 : Int32)).toUInt32 &&& Int32.toUInt32 31)).toInt32) &&& (1431655765 : Int32)))).toUInt32 >>> (((2 : Int32)).toUInt32 &&& Int32.toUInt32 31)).toInt32) &&& (858993459 : Int32))))]) hx hb dJ6_bitCount_0f7a4_23 rfl hl (by decide) rfl (fun ls hl => ?_)
  refine lv_iload_n hx hb dJ6_bitCount_0f7a4_24 rfl (lv_at hl 0 rfl) ?_
  refine lv_iload_n hx hb dJ6_bitCount_0f7a4_25 rfl (lv_at hl 0 rfl) ?_
  refine lv_iconst (v := (4 : Int32)) hx hb dJ6_bitCount_0f7a4_26 (by decide) ?_
  refine lv_iushr (v := (((((p0 - ((((p0).toUInt32 >>> (((1 : Int32)).toUInt32 &&& Int32.toUInt32 31)).toInt32) &&& (1431655765 : Int32))) &&& (858993459 : Int32)) + (((((p0 - ((((p0).toUInt32 >>> (((1 : Int32)).toUInt32 &&& Int32.toUInt32 31)).toInt32) &&& (1431655765 : Int32)))).toUInt32 >>> (((2 : Int32)).toUInt32 &&& Int32.toUInt32 31)).toInt32) &&& (858993459 : Int32)))).toUInt32 >>> (((4 : Int32)).toUInt32 &&& Int32.toUInt32 31)).toInt32) hx hb dJ6_bitCount_0f7a4_27 rfl ?_
  refine lv_iadd hx hb dJ6_bitCount_0f7a4_28 ?_
  refine lv_ldcw hx hb hown (hts _ tw_244) dJ6_bitCount_0f7a4_29 ?_
  refine lv_iand hx hb dJ6_bitCount_0f7a4_32 ?_
  refine lv_istore_n (lv' := [(0, .int (((((p0 - ((((p0).toUInt32 >>> (((1 : Int32)).toUInt32 &&& Int32.toUInt32 31)).toInt32) &&& (1431655765 : Int32))) &&& (858993459 : Int32)) + (((((p0 - ((((p0).toUInt32 >>> (((1 : Int32)).toUInt32 &&& Int32.toUInt32 31)).toInt32) &&& (1431655765 : Int32)))).toUInt32 >>> (((2 : Int32)).toUInt32 &&& Int32.toUInt32 31)).toInt32) &&& (858993459 : Int32))) + ((((((p0 - ((((p0).toUInt32 >>> (((1 : Int32)).toUInt32 &&& Int32.toUInt32 31)).toInt32) &&& (1431655765 : Int32))) &&& (858993459 : Int32)) + (((((p0 - ((((p0).toUInt32 >>> (((1 : Int32)).toUInt32 &&& Int32.toUInt32 31)).toInt32) &&& (1431655765 : Int32)))).toUInt32 >>> (((2 : Int32)).toUInt32 &&& Int32.toUInt32 31)).toInt32) &&& (858993459 : Int32)))).toUInt32 >>> (((4 : Int32)).toUInt32 &&& Int32.toUInt32 31)).toInt32)) &&& (252645135 : Int32)))]) hx hb dJ6_bitCount_0f7a4_33 rfl hl (by decide) rfl (fun ls hl => ?_)
  refine lv_iload_n hx hb dJ6_bitCount_0f7a4_34 rfl (lv_at hl 0 rfl) ?_
  refine lv_iload_n hx hb dJ6_bitCount_0f7a4_35 rfl (lv_at hl 0 rfl) ?_
  refine lv_bipush (v := (8 : Int32)) hx hb dJ6_bitCount_0f7a4_36 (by decide) ?_
  refine lv_iushr (v := (((((((p0 - ((((p0).toUInt32 >>> (((1 : Int32)).toUInt32 &&& Int32.toUInt32 31)).toInt32) &&& (1431655765 : Int32))) &&& (858993459 : Int32)) + (((((p0 - ((((p0).toUInt32 >>> (((1 : Int32)).toUInt32 &&& Int32.toUInt32 31)).toInt32) &&& (1431655765 : Int32)))).toUInt32 >>> (((2 : Int32)).toUInt32 &&& Int32.toUInt32 31)).toInt32) &&& (858993459 : Int32))) + ((((((p0 - ((((p0).toUInt32 >>> (((1 : Int32)).toUInt32 &&& Int32.toUInt32 31)).toInt32) &&& (1431655765 : Int32))) &&& (858993459 : Int32)) + (((((p0 - ((((p0).toUInt32 >>> (((1 : Int32)).toUInt32 &&& Int32.toUInt32 31)).toInt32) &&& (1431655765 : Int32)))).toUInt32 >>> (((2 : Int32)).toUInt32 &&& Int32.toUInt32 31)).toInt32) &&& (858993459 : Int32)))).toUInt32 >>> (((4 : Int32)).toUInt32 &&& Int32.toUInt32 31)).toInt32)) &&& (252645135 : Int32))).toUInt32 >>> (((8 : Int32)).toUInt32 &&& Int32.toUInt32 31)).toInt32) hx hb dJ6_bitCount_0f7a4_38 rfl ?_
  refine lv_iadd hx hb dJ6_bitCount_0f7a4_39 ?_
  refine lv_istore_n (lv' := [(0, .int ((((((p0 - ((((p0).toUInt32 >>> (((1 : Int32)).toUInt32 &&& Int32.toUInt32 31)).toInt32) &&& (1431655765 : Int32))) &&& (858993459 : Int32)) + (((((p0 - ((((p0).toUInt32 >>> (((1 : Int32)).toUInt32 &&& Int32.toUInt32 31)).toInt32) &&& (1431655765 : Int32)))).toUInt32 >>> (((2 : Int32)).toUInt32 &&& Int32.toUInt32 31)).toInt32) &&& (858993459 : Int32))) + ((((((p0 - ((((p0).toUInt32 >>> (((1 : Int32)).toUInt32 &&& Int32.toUInt32 31)).toInt32) &&& (1431655765 : Int32))) &&& (858993459 : Int32)) + (((((p0 - ((((p0).toUInt32 >>> (((1 : Int32)).toUInt32 &&& Int32.toUInt32 31)).toInt32) &&& (1431655765 : Int32)))).toUInt32 >>> (((2 : Int32)).toUInt32 &&& Int32.toUInt32 31)).toInt32) &&& (858993459 : Int32)))).toUInt32 >>> (((4 : Int32)).toUInt32 &&& Int32.toUInt32 31)).toInt32)) &&& (252645135 : Int32)) + ((((((((p0 - ((((p0).toUInt32 >>> (((1 : Int32)).toUInt32 &&& Int32.toUInt32 31)).toInt32) &&& (1431655765 : Int32))) &&& (858993459 : Int32)) + (((((p0 - ((((p0).toUInt32 >>> (((1 : Int32)).toUInt32 &&& Int32.toUInt32 31)).toInt32) &&& (1431655765 : Int32)))).toUInt32 >>> (((2 : Int32)).toUInt32 &&& Int32.toUInt32 31)).toInt32) &&& (858993459 : Int32))) + ((((((p0 - ((((p0).toUInt32 >>> (((1 : Int32)).toUInt32 &&& Int32.toUInt32 31)).toInt32) &&& (1431655765 : Int32))) &&& (858993459 : Int32)) + (((((p0 - ((((p0).toUInt32 >>> (((1 : Int32)).toUInt32 &&& Int32.toUInt32 31)).toInt32) &&& (1431655765 : Int32)))).toUInt32 >>> (((2 : Int32)).toUInt32 &&& Int32.toUInt32 31)).toInt32) &&& (858993459 : Int32)))).toUInt32 >>> (((4 : Int32)).toUInt32 &&& Int32.toUInt32 31)).toInt32)) &&& (252645135 : Int32))).toUInt32 >>> (((8 : Int32)).toUInt32 &&& Int32.toUInt32 31)).toInt32)))]) hx hb dJ6_bitCount_0f7a4_40 rfl hl (by decide) rfl (fun ls hl => ?_)
  refine lv_iload_n hx hb dJ6_bitCount_0f7a4_41 rfl (lv_at hl 0 rfl) ?_
  refine lv_iload_n hx hb dJ6_bitCount_0f7a4_42 rfl (lv_at hl 0 rfl) ?_
  refine lv_bipush (v := (16 : Int32)) hx hb dJ6_bitCount_0f7a4_43 (by decide) ?_
  refine lv_iushr (v := ((((((((p0 - ((((p0).toUInt32 >>> (((1 : Int32)).toUInt32 &&& Int32.toUInt32 31)).toInt32) &&& (1431655765 : Int32))) &&& (858993459 : Int32)) + (((((p0 - ((((p0).toUInt32 >>> (((1 : Int32)).toUInt32 &&& Int32.toUInt32 31)).toInt32) &&& (1431655765 : Int32)))).toUInt32 >>> (((2 : Int32)).toUInt32 &&& Int32.toUInt32 31)).toInt32) &&& (858993459 : Int32))) + ((((((p0 - ((((p0).toUInt32 >>> (((1 : Int32)).toUInt32 &&& Int32.toUInt32 31)).toInt32) &&& (1431655765 : Int32))) &&& (858993459 : Int32)) + (((((p0 - ((((p0).toUInt32 >>> (((1 : Int32)).toUInt32 &&& Int32.toUInt32 31)).toInt32) &&& (1431655765 : Int32)))).toUInt32 >>> (((2 : Int32)).toUInt32 &&& Int32.toUInt32 31)).toInt32) &&& (858993459 : Int32)))).toUInt32 >>> (((4 : Int32)).toUInt32 &&& Int32.toUInt32 31)).toInt32)) &&& (252645135 : Int32)) + ((((((((p0 - ((((p0).toUInt32 >>> (((1 : Int32)).toUInt32 &&& Int32.toUInt32 31)).toInt32) &&& (1431655765 : Int32))) &&& (858993459 : Int32)) + (((((p0 - ((((p0).toUInt32 >>> (((1 : Int32)).toUInt32 &&& Int32.toUInt32 31)).toInt32) &&& (1431655765 : Int32)))).toUInt32 >>> (((2 : Int32)).toUInt32 &&& Int32.toUInt32 31)).toInt32) &&& (858993459 : Int32))) + ((((((p0 - ((((p0).toUInt32 >>> (((1 : Int32)).toUInt32 &&& Int32.toUInt32 31)).toInt32) &&& (1431655765 : Int32))) &&& (858993459 : Int32)) + (((((p0 - ((((p0).toUInt32 >>> (((1 : Int32)).toUInt32 &&& Int32.toUInt32 31)).toInt32) &&& (1431655765 : Int32)))).toUInt32 >>> (((2 : Int32)).toUInt32 &&& Int32.toUInt32 31)).toInt32) &&& (858993459 : Int32)))).toUInt32 >>> (((4 : Int32)).toUInt32 &&& Int32.toUInt32 31)).toInt32)) &&& (252645135 : Int32))).toUInt32 >>> (((8 : Int32)).toUInt32 &&& Int32.toUInt32 31)).toInt32))).toUInt32 >>> (((16 : Int32)).toUInt32 &&& Int32.toUInt32 31)).toInt32) hx hb dJ6_bitCount_0f7a4_45 rfl ?_
  refine lv_iadd hx hb dJ6_bitCount_0f7a4_46 ?_
  refine lv_istore_n (lv' := [(0, .int (((((((p0 - ((((p0).toUInt32 >>> (((1 : Int32)).toUInt32 &&& Int32.toUInt32 31)).toInt32) &&& (1431655765 : Int32))) &&& (858993459 : Int32)) + (((((p0 - ((((p0).toUInt32 >>> (((1 : Int32)).toUInt32 &&& Int32.toUInt32 31)).toInt32) &&& (1431655765 : Int32)))).toUInt32 >>> (((2 : Int32)).toUInt32 &&& Int32.toUInt32 31)).toInt32) &&& (858993459 : Int32))) + ((((((p0 - ((((p0).toUInt32 >>> (((1 : Int32)).toUInt32 &&& Int32.toUInt32 31)).toInt32) &&& (1431655765 : Int32))) &&& (858993459 : Int32)) + (((((p0 - ((((p0).toUInt32 >>> (((1 : Int32)).toUInt32 &&& Int32.toUInt32 31)).toInt32) &&& (1431655765 : Int32)))).toUInt32 >>> (((2 : Int32)).toUInt32 &&& Int32.toUInt32 31)).toInt32) &&& (858993459 : Int32)))).toUInt32 >>> (((4 : Int32)).toUInt32 &&& Int32.toUInt32 31)).toInt32)) &&& (252645135 : Int32)) + ((((((((p0 - ((((p0).toUInt32 >>> (((1 : Int32)).toUInt32 &&& Int32.toUInt32 31)).toInt32) &&& (1431655765 : Int32))) &&& (858993459 : Int32)) + (((((p0 - ((((p0).toUInt32 >>> (((1 : Int32)).toUInt32 &&& Int32.toUInt32 31)).toInt32) &&& (1431655765 : Int32)))).toUInt32 >>> (((2 : Int32)).toUInt32 &&& Int32.toUInt32 31)).toInt32) &&& (858993459 : Int32))) + ((((((p0 - ((((p0).toUInt32 >>> (((1 : Int32)).toUInt32 &&& Int32.toUInt32 31)).toInt32) &&& (1431655765 : Int32))) &&& (858993459 : Int32)) + (((((p0 - ((((p0).toUInt32 >>> (((1 : Int32)).toUInt32 &&& Int32.toUInt32 31)).toInt32) &&& (1431655765 : Int32)))).toUInt32 >>> (((2 : Int32)).toUInt32 &&& Int32.toUInt32 31)).toInt32) &&& (858993459 : Int32)))).toUInt32 >>> (((4 : Int32)).toUInt32 &&& Int32.toUInt32 31)).toInt32)) &&& (252645135 : Int32))).toUInt32 >>> (((8 : Int32)).toUInt32 &&& Int32.toUInt32 31)).toInt32)) + (((((((((p0 - ((((p0).toUInt32 >>> (((1 : Int32)).toUInt32 &&& Int32.toUInt32 31)).toInt32) &&& (1431655765 : Int32))) &&& (858993459 : Int32)) + (((((p0 - ((((p0).toUInt32 >>> (((1 : Int32)).toUInt32 &&& Int32.toUInt32 31)).toInt32) &&& (1431655765 : Int32)))).toUInt32 >>> (((2 : Int32)).toUInt32 &&& Int32.toUInt32 31)).toInt32) &&& (858993459 : Int32))) + ((((((p0 - ((((p0).toUInt32 >>> (((1 : Int32)).toUInt32 &&& Int32.toUInt32 31)).toInt32) &&& (1431655765 : Int32))) &&& (858993459 : Int32)) + (((((p0 - ((((p0).toUInt32 >>> (((1 : Int32)).toUInt32 &&& Int32.toUInt32 31)).toInt32) &&& (1431655765 : Int32)))).toUInt32 >>> (((2 : Int32)).toUInt32 &&& Int32.toUInt32 31)).toInt32) &&& (858993459 : Int32)))).toUInt32 >>> (((4 : Int32)).toUInt32 &&& Int32.toUInt32 31)).toInt32)) &&& (252645135 : Int32)) + ((((((((p0 - ((((p0).toUInt32 >>> (((1 : Int32)).toUInt32 &&& Int32.toUInt32 31)).toInt32) &&& (1431655765 : Int32))) &&& (858993459 : Int32)) + (((((p0 - ((((p0).toUInt32 >>> (((1 : Int32)).toUInt32 &&& Int32.toUInt32 31)).toInt32) &&& (1431655765 : Int32)))).toUInt32 >>> (((2 : Int32)).toUInt32 &&& Int32.toUInt32 31)).toInt32) &&& (858993459 : Int32))) + ((((((p0 - ((((p0).toUInt32 >>> (((1 : Int32)).toUInt32 &&& Int32.toUInt32 31)).toInt32) &&& (1431655765 : Int32))) &&& (858993459 : Int32)) + (((((p0 - ((((p0).toUInt32 >>> (((1 : Int32)).toUInt32 &&& Int32.toUInt32 31)).toInt32) &&& (1431655765 : Int32)))).toUInt32 >>> (((2 : Int32)).toUInt32 &&& Int32.toUInt32 31)).toInt32) &&& (858993459 : Int32)))).toUInt32 >>> (((4 : Int32)).toUInt32 &&& Int32.toUInt32 31)).toInt32)) &&& (252645135 : Int32))).toUInt32 >>> (((8 : Int32)).toUInt32 &&& Int32.toUInt32 31)).toInt32))).toUInt32 >>> (((16 : Int32)).toUInt32 &&& Int32.toUInt32 31)).toInt32)))]) hx hb dJ6_bitCount_0f7a4_47 rfl hl (by decide) rfl (fun ls hl => ?_)
  refine lv_iload_n hx hb dJ6_bitCount_0f7a4_48 rfl (lv_at hl 0 rfl) ?_
  refine lv_bipush (v := (63 : Int32)) hx hb dJ6_bitCount_0f7a4_49 (by decide) ?_
  refine lv_iand hx hb dJ6_bitCount_0f7a4_51 ?_
  obtain rfl := Option.some.inj hf
  exact rt_i Cc hK hP hD hS dJ6_bitCount_0f7a4_52
-- X2_isNothing
def fX2_isNothing (n : Nat) (s_lane : Int32)  : Option (Int32) := if s_lane = (-1 : Int32) then some ((1 : Int32)) else some ((0 : Int32))
theorem mdX2_isNothing : yX2_isNothing.cls = RX2 ∧ yX2_isNothing.cls ≠ "java/lang/invoke/MethodHandle" ∧ yX2_isNothing.cls ≠ "java/lang/invoke/VarHandle" ∧ (parseMethodDescriptor yX2_isNothing.desc).map (fun d => d.parameters.length) = some 0 := by decide +kernel
set_option maxHeartbeats 4000000 in
set_option maxRecDepth 100000 in
theorem ctX2_isNothing (l : Launch) (D : va_G) (cI cS : ClassId) (a_s a_s_row : Nat) (s_row : Nat → Int32) (s_lane : Int32) (s_length : Int32)  (n : Nat) (r : Int32) (hf : fX2_isNothing n s_lane  = some (r)) : Ct l D (tysA cI cS) yX2_isNothing cX2_isNothing 1 (some .boolean) (Rm 0) [.ref a_s] (W_s cI cS a_s a_s_row s_row s_lane s_length) (some (.int r)) (W_s cI cS a_s a_s_row s_row s_lane s_length) := by
  refine Ct_of (by decide) (Nat.le_of_ble_eq_true rfl) ?_
  intro p e s m args below meth c A ls Cc hK hA hP hD hS hl
  have hl : lv_has ls 1 [(0, .ref a_s)] := hl
  obtain ⟨hx, hb, hr, hml, hown, hts, hlk, hnw⟩ := id Cc
  unfold fX2_isNothing at hf
  refine lv_aload_n hx hb dX2_isNothing_0 rfl (lv_at hl 0 rfl) ?_
  refine va_get (D := D) (ci := 2) (v := .int s_lane) (C := RX2) (T := TX2) (N := 3) hx hb hts inX2 hown hK hP 0 rfl rfl 1 (by decide) (hts _ tw_113) (fun _ h9 => h9) rfl dX2_isNothing_1 ?_
  refine lv_iconst (v := (-1 : Int32)) hx hb dX2_isNothing_4 (by decide) ?_
  refine lv_icmp_ne (tgt := 12) hx hb dX2_isNothing_5 (by decide) (fun hc1 => ?_) (fun hc1 => ?_)
  · replace hf := (if_neg hc1).symm.trans hf
    refine lv_iconst (v := (0 : Int32)) hx hb dX2_isNothing_12 (by decide) ?_
    obtain rfl := Option.some.inj hf
    exact rt_z Cc (by decide) hK hP hD hS dX2_isNothing_13
  · replace hf := (if_pos hc1).symm.trans hf
    refine lv_iconst (v := (1 : Int32)) hx hb dX2_isNothing_8 (by decide) ?_
    refine lv_goto (tgt := 13) hx hb dX2_isNothing_9 (by decide) ?_
    obtain rfl := Option.some.inj hf
    exact rt_z Cc (by decide) hK hP hD hS dX2_isNothing_13
-- X2_becomeNothing
def fX2_becomeNothing (n : Nat) (s_lane : Int32) (s_length : Int32)  : Option (Int32 × Int32) := some ((-1 : Int32), (0 : Int32))
theorem mdX2_becomeNothing : yX2_becomeNothing.cls = RX2 ∧ yX2_becomeNothing.cls ≠ "java/lang/invoke/MethodHandle" ∧ yX2_becomeNothing.cls ≠ "java/lang/invoke/VarHandle" ∧ (parseMethodDescriptor yX2_becomeNothing.desc).map (fun d => d.parameters.length) = some 0 := by decide +kernel
set_option maxHeartbeats 4000000 in
set_option maxRecDepth 100000 in
theorem ctX2_becomeNothing (l : Launch) (D : va_G) (cI cS : ClassId) (a_s a_s_row : Nat) (s_row : Nat → Int32) (s_lane : Int32) (s_length : Int32)  (n : Nat) (s_lane' : Int32) (s_length' : Int32) (hf : fX2_becomeNothing n s_lane s_length  = some (s_lane', s_length')) : Ct l D (tysA cI cS) yX2_becomeNothing cX2_becomeNothing 1 none (Rm 0) [.ref a_s] (W_s cI cS a_s a_s_row s_row s_lane s_length) none (W_s cI cS a_s a_s_row s_row s_lane' s_length') := by
  refine Ct_of (by decide) (Nat.le_of_ble_eq_true rfl) ?_
  intro p e s m args below meth c A ls Cc hK hA hP hD hS hl
  have hl : lv_has ls 1 [(0, .ref a_s)] := hl
  obtain ⟨hx, hb, hr, hml, hown, hts, hlk, hnw⟩ := id Cc
  unfold fX2_becomeNothing at hf
  refine lv_aload_n hx hb dX2_becomeNothing_0 rfl (lv_at hl 0 rfl) ?_
  refine lv_iconst (v := (-1 : Int32)) hx hb dX2_becomeNothing_1 (by decide) ?_
  refine va_put (D := D) (ci := 2) (v := .int (-1 : Int32)) (ty := .int) (C := RX2) (T := TX2) (N := 3) hx hb hts inX2 tyX2 tyX2_ok nmX2 hown hK hP hD hS 0 rfl rfl 1 (by decide) (hts _ tw_113) (fun _ h9 => h9) rfl (tyX2_ok 1 (by decide)) rfl rfl (Nat.le_of_ble_eq_true rfl) dX2_becomeNothing_2 (fun H locs hP hD hS => ?_)
  have hP : va_P D classes (W_s cI cS a_s a_s_row s_row (-1 : Int32) s_length) H := hP
  have hD : va_D A (W_s cI cS a_s a_s_row s_row (-1 : Int32) s_length) := hD
  refine lv_aload_n hx hb dX2_becomeNothing_5 rfl (lv_at hl 0 rfl) ?_
  refine lv_iconst (v := (0 : Int32)) hx hb dX2_becomeNothing_6 (by decide) ?_
  refine va_put (D := D) (ci := 2) (v := .int (0 : Int32)) (ty := .int) (C := RX2) (T := TX2) (N := 3) hx hb hts inX2 tyX2 tyX2_ok nmX2 hown hK hP hD hS 0 rfl rfl 2 (by decide) (hts _ tw_115) (fun _ h9 => h9) rfl (tyX2_ok 2 (by decide)) rfl rfl (Nat.le_of_ble_eq_true rfl) dX2_becomeNothing_7 (fun H locs hP hD hS => ?_)
  have hP : va_P D classes (W_s cI cS a_s a_s_row s_row (-1 : Int32) (0 : Int32)) H := hP
  have hD : va_D A (W_s cI cS a_s a_s_row s_row (-1 : Int32) (0 : Int32)) := hD
  replace hf := Option.some.inj hf
  obtain ⟨er0, er1⟩ := Prod.mk.inj hf
  clear hf 
  subst er0
  subst er1
  exact rt_v Cc hK hP hD hS dX2_becomeNothing_10
-- X2_becomeRow
def fX2_becomeRow_12 (n : Nat) : Nat → (Nat → Int32) → Int32 → Int32 → Int32 → Option ((Nat → Int32) × Int32 × Int32)
  | 0, _, _, _, _ => none
  | k + 1, s_row, s_lane, s_length, x3 => if (60 : Int32) ≤ x3 then some (s_row, s_lane, s_length) else gd x3 60 (fX2_becomeRow_12 n k (upd s_row x3.toNatClampNeg (0 : Int32)) s_lane s_length (x3 + 1))
def fX2_becomeRow (n : Nat) (s_row : Nat → Int32) (s_lane : Int32) (s_length : Int32) (p1 : Int32) (p2 : Int32) : Option ((Nat → Int32) × Int32 × Int32) := fX2_becomeRow_12 n n s_row p1 p2 (0 : Int32)
theorem mdX2_becomeRow : yX2_becomeRow.cls = RX2 ∧ yX2_becomeRow.cls ≠ "java/lang/invoke/MethodHandle" ∧ yX2_becomeRow.cls ≠ "java/lang/invoke/VarHandle" ∧ (parseMethodDescriptor yX2_becomeRow.desc).map (fun d => d.parameters.length) = some 2 := by decide +kernel
set_option maxHeartbeats 4000000 in
set_option maxRecDepth 100000 in
theorem bX2_becomeRow_12 {p : Program} {l : Launch} {e : Env} {s : State} {m : MethodId} {args : Array Value} {below : List Frame} {meth : Method} {c : Code} {A : Nat → Prop} {D : va_G} {cI cS : ClassId} (a_s a_s_row : Nat) (Cc : Cx p s m args meth c RX2 cX2_becomeRow 4 none) (hK : va_K D classes (tysA cI cS) s) (hA : ∀ q, s.heap.size ≤ q → A q) (n : Nat) : ∀ (k : Nat) (s_row : Nat → Int32) (s_lane : Int32) (s_length : Int32) (x3 : Int32) (s_row' : Nat → Int32) (s_lane' : Int32) (s_length' : Int32), fX2_becomeRow_12 n k s_row s_lane s_length x3 = some (s_row', s_lane', s_length') → ∀ (H : Heap) (locs : List Loc) (ls : Array Slot), va_P D classes (W_s cI cS a_s a_s_row s_row s_lane s_length) H → va_D A (W_s cI cS a_s a_s_row s_row s_lane s_length) → va_S A s.heap H locs → lv_has ls 4 [(0, .ref a_s), (3, .int x3)] → W p l e (Rm 0) s m args below meth c H locs 0 0 (MQ below (QW D (tysA cI cS) none (W_s cI cS a_s a_s_row s_row' s_lane' s_length') A) args s 0 0 A) (F0 m 12 ls []) := by
  obtain ⟨hx, hb, hr, hml, hown, hts, hlk, hnw⟩ := id Cc
  intro k
  induction k with
  | zero =>
    intro s_row s_lane s_length x3 s_row' s_lane' s_length' hf
    rw [fX2_becomeRow_12] at hf
    cases hf
  | succ k ih =>
    intro s_row s_lane s_length x3 s_row' s_lane' s_length' hf H locs ls hP hD hS hl
    rw [fX2_becomeRow_12] at hf
    refine lv_iload_n hx hb dX2_becomeRow_12 rfl (lv_at hl 1 rfl) ?_
    refine lv_bipush (v := (60 : Int32)) hx hb dX2_becomeRow_13 (by decide) ?_
    refine lv_icmp_ge (tgt := 31) hx hb dX2_becomeRow_15 (by decide) (fun hc1 => ?_) (fun hc1 => ?_)
    · replace hf := (if_pos hc1).symm.trans hf
      replace hf := Option.some.inj hf
      obtain ⟨er0, er1⟩ := Prod.mk.inj hf
      obtain ⟨er2, er3⟩ := Prod.mk.inj er1
      clear hf er1
      subst er0
      subst er2
      subst er3
      exact rt_v Cc hK hP hD hS dX2_becomeRow_31
    · replace hf := (if_neg hc1).symm.trans hf
      refine lv_aload_n hx hb dX2_becomeRow_18 rfl (lv_at hl 0 rfl) ?_
      refine va_get (D := D) (ci := 2) (v := .ref a_s_row) (C := RX2) (T := TX2) (N := 3) hx hb hts inX2 hown hK hP 0 rfl rfl 0 (by decide) (hts _ tw_111) (fun _ h9 => h9) rfl dX2_becomeRow_19 ?_
      refine lv_iload_n hx hb dX2_becomeRow_22 rfl (lv_at hl 1 rfl) ?_
      refine lv_iconst (v := (0 : Int32)) hx hb dX2_becomeRow_23 (by decide) ?_
      obtain ⟨hin, hf⟩ := gd_some hf
      refine va_iast hx hb hK hP hD hS 1 0 rfl rfl hin dX2_becomeRow_24 (fun H locs hP hD hS => ?_)
      have hP : va_P D classes (W_s cI cS a_s a_s_row (upd s_row x3.toNatClampNeg (0 : Int32)) s_lane s_length) H := hP
      have hD : va_D A (W_s cI cS a_s a_s_row (upd s_row x3.toNatClampNeg (0 : Int32)) s_lane s_length) := hD
      refine lv_iinc (v := (x3 + 1)) (lv' := [(3, .int (x3 + 1)), (0, .ref a_s)]) hx hb dX2_becomeRow_25 hl (k := 1) rfl rfl (by decide) rfl (fun ls hl => ?_)
      refine lv_goto (tgt := 12) hx hb dX2_becomeRow_28 (by decide) ?_
      exact ih _ _ _ _ _ _ _ hf _ _ _ hP hD hS (lv_sub hl [1, 0] rfl)
set_option maxHeartbeats 4000000 in
set_option maxRecDepth 100000 in
theorem ctX2_becomeRow (l : Launch) (D : va_G) (cI cS : ClassId) (a_s a_s_row : Nat) (s_row : Nat → Int32) (s_lane : Int32) (s_length : Int32) (p1 : Int32) (p2 : Int32) (n : Nat) (s_row' : Nat → Int32) (s_lane' : Int32) (s_length' : Int32) (hf : fX2_becomeRow n s_row s_lane s_length p1 p2 = some (s_row', s_lane', s_length')) : Ct l D (tysA cI cS) yX2_becomeRow cX2_becomeRow 4 none (Rm 0) [.ref a_s, .int p1, .int p2] (W_s cI cS a_s a_s_row s_row s_lane s_length) none (W_s cI cS a_s a_s_row s_row' s_lane' s_length') := by
  refine Ct_of (by decide) (Nat.le_of_ble_eq_true rfl) ?_
  intro p e s m args below meth c A ls Cc hK hA hP hD hS hl
  have hl : lv_has ls 4 [(0, .ref a_s), (1, .int p1), (2, .int p2)] := hl
  obtain ⟨hx, hb, hr, hml, hown, hts, hlk, hnw⟩ := id Cc
  unfold fX2_becomeRow at hf
  refine lv_aload_n hx hb dX2_becomeRow_0 rfl (lv_at hl 0 rfl) ?_
  refine lv_iload_n hx hb dX2_becomeRow_1 rfl (lv_at hl 1 rfl) ?_
  refine va_put (D := D) (ci := 2) (v := .int p1) (ty := .int) (C := RX2) (T := TX2) (N := 3) hx hb hts inX2 tyX2 tyX2_ok nmX2 hown hK hP hD hS 0 rfl rfl 1 (by decide) (hts _ tw_113) (fun _ h9 => h9) rfl (tyX2_ok 1 (by decide)) rfl rfl (Nat.le_of_ble_eq_true rfl) dX2_becomeRow_2 (fun H locs hP hD hS => ?_)
  have hP : va_P D classes (W_s cI cS a_s a_s_row s_row p1 s_length) H := hP
  have hD : va_D A (W_s cI cS a_s a_s_row s_row p1 s_length) := hD
  refine lv_aload_n hx hb dX2_becomeRow_5 rfl (lv_at hl 0 rfl) ?_
  refine lv_iload_n hx hb dX2_becomeRow_6 rfl (lv_at hl 2 rfl) ?_
  refine va_put (D := D) (ci := 2) (v := .int p2) (ty := .int) (C := RX2) (T := TX2) (N := 3) hx hb hts inX2 tyX2 tyX2_ok nmX2 hown hK hP hD hS 0 rfl rfl 2 (by decide) (hts _ tw_115) (fun _ h9 => h9) rfl (tyX2_ok 2 (by decide)) rfl rfl (Nat.le_of_ble_eq_true rfl) dX2_becomeRow_7 (fun H locs hP hD hS => ?_)
  have hP : va_P D classes (W_s cI cS a_s a_s_row s_row p1 p2) H := hP
  have hD : va_D A (W_s cI cS a_s a_s_row s_row p1 p2) := hD
  refine lv_iconst (v := (0 : Int32)) hx hb dX2_becomeRow_10 (by decide) ?_
  refine lv_istore_n (lv' := [(3, .int (0 : Int32)), (0, .ref a_s), (1, .int p1), (2, .int p2)]) hx hb dX2_becomeRow_11 rfl hl (by decide) rfl (fun ls hl => ?_)
  exact bX2_becomeRow_12 a_s a_s_row Cc hK hA n n _ _ _ _ _ _ _ hf _ _ _ hP hD hS (lv_sub hl [1, 0] rfl)
-- X2_faultAs
def fX2_faultAs (n : Nat) (s_lane : Int32) (p1 : Int32) : Option (Int32) := (fX2_isNothing n s_lane).bind fun q1_1 => if q1_1 = 0 then if s_lane = p1 then some ((0 : Int32)) else some ((2 : Int32)) else some ((1 : Int32))
theorem mdX2_faultAs : yX2_faultAs.cls = RX2 ∧ yX2_faultAs.cls ≠ "java/lang/invoke/MethodHandle" ∧ yX2_faultAs.cls ≠ "java/lang/invoke/VarHandle" ∧ (parseMethodDescriptor yX2_faultAs.desc).map (fun d => d.parameters.length) = some 1 := by decide +kernel
set_option maxHeartbeats 4000000 in
set_option maxRecDepth 100000 in
theorem ctX2_faultAs (l : Launch) (D : va_G) (cI cS : ClassId) (a_s a_s_row : Nat) (s_row : Nat → Int32) (s_lane : Int32) (s_length : Int32) (p1 : Int32) (n : Nat) (r : Int32) (hf : fX2_faultAs n s_lane p1 = some (r)) : Ct l D (tysA cI cS) yX2_faultAs cX2_faultAs 2 (some .int) (Rm 1) [.ref a_s, .int p1] (W_s cI cS a_s a_s_row s_row s_lane s_length) (some (.int r)) (W_s cI cS a_s a_s_row s_row s_lane s_length) := by
  refine Ct_of (by decide) (Nat.le_of_ble_eq_true rfl) ?_
  intro p e s m args below meth c A ls Cc hK hA hP hD hS hl
  have hl : lv_has ls 2 [(0, .ref a_s), (1, .int p1)] := hl
  obtain ⟨hx, hb, hr, hml, hown, hts, hlk, hnw⟩ := id Cc
  unfold fX2_faultAs at hf
  refine lv_aload_n hx hb dX2_faultAs_0 rfl (lv_at hl 0 rfl) ?_
  obtain ⟨q1_1, hq1, hf⟩ := Option.bind_eq_some_iff.mp hf
  refine cV (ws' := (W_s cI cS a_s a_s_row s_row s_lane s_length)) (rest := []) (st1 := [.int q1_1]) Cc hK hA hP hD hS hl.1 (ctX2_isNothing l D cI cS a_s a_s_row s_row s_lane s_length  n q1_1 hq1) ⟨tw_165, tw_162, tw_163, tw_164, tw_5⟩ mdX2_isNothing ⟨rfl, rfl, Nat.le_of_ble_eq_true rfl, Nat.le_of_ble_eq_true rfl⟩ rfl dX2_faultAs_1 rfl (Nat.le_of_ble_eq_true rfl) ⟨Nat.zero_le _, Nat.zero_le _⟩ rfl rfl rfl [0, 1] [] [0, 1] rfl rfl (by decide) rfl (fun H locs hP hD hS => ?_)
  refine lv_if_eq (tgt := 9) hx hb dX2_faultAs_4 (by decide) (fun hc2 => ?_) (fun hc2 => ?_)
  · replace hf := (if_pos hc2).symm.trans hf
    refine lv_aload_n hx hb dX2_faultAs_9 rfl (lv_at hl 0 rfl) ?_
    refine va_get (D := D) (ci := 2) (v := .int s_lane) (C := RX2) (T := TX2) (N := 3) hx hb hts inX2 hown hK hP 0 rfl rfl 1 (by decide) (hts _ tw_113) (fun _ h9 => h9) rfl dX2_faultAs_10 ?_
    refine lv_iload_n hx hb dX2_faultAs_13 rfl (lv_at hl 1 rfl) ?_
    refine lv_icmp_ne (tgt := 21) hx hb dX2_faultAs_14 (by decide) (fun hc3 => ?_) (fun hc3 => ?_)
    · replace hf := (if_neg hc3).symm.trans hf
      refine lv_iconst (v := (2 : Int32)) hx hb dX2_faultAs_21 (by decide) ?_
      obtain rfl := Option.some.inj hf
      exact rt_i Cc hK hP hD hS dX2_faultAs_22
    · replace hf := (if_pos hc3).symm.trans hf
      refine lv_iconst (v := (0 : Int32)) hx hb dX2_faultAs_17 (by decide) ?_
      refine lv_goto (tgt := 22) hx hb dX2_faultAs_18 (by decide) ?_
      obtain rfl := Option.some.inj hf
      exact rt_i Cc hK hP hD hS dX2_faultAs_22
  · replace hf := (if_neg hc2).symm.trans hf
    refine lv_iconst (v := (1 : Int32)) hx hb dX2_faultAs_7 (by decide) ?_
    obtain rfl := Option.some.inj hf
    exact rt_i Cc hK hP hD hS dX2_faultAs_8
-- X2_has
def fX2_has (n : Nat) (s_length : Int32) (p1 : Int32) (p2 : Int32) : Option (Int32) := if p1 < 0 then some ((0 : Int32)) else if s_length < p1 then some ((0 : Int32)) else if p2 < 0 then some ((0 : Int32)) else if (s_length - p1) < p2 then some ((0 : Int32)) else some ((1 : Int32))
theorem mdX2_has : yX2_has.cls = RX2 ∧ yX2_has.cls ≠ "java/lang/invoke/MethodHandle" ∧ yX2_has.cls ≠ "java/lang/invoke/VarHandle" ∧ (parseMethodDescriptor yX2_has.desc).map (fun d => d.parameters.length) = some 2 := by decide +kernel
set_option maxHeartbeats 4000000 in
set_option maxRecDepth 100000 in
theorem ctX2_has (l : Launch) (D : va_G) (cI cS : ClassId) (a_s a_s_row : Nat) (s_row : Nat → Int32) (s_lane : Int32) (s_length : Int32) (p1 : Int32) (p2 : Int32) (n : Nat) (r : Int32) (hf : fX2_has n s_length p1 p2 = some (r)) : Ct l D (tysA cI cS) yX2_has cX2_has 3 (some .boolean) (Rm 0) [.ref a_s, .int p1, .int p2] (W_s cI cS a_s a_s_row s_row s_lane s_length) (some (.int r)) (W_s cI cS a_s a_s_row s_row s_lane s_length) := by
  refine Ct_of (by decide) (Nat.le_of_ble_eq_true rfl) ?_
  intro p e s m args below meth c A ls Cc hK hA hP hD hS hl
  have hl : lv_has ls 3 [(0, .ref a_s), (1, .int p1), (2, .int p2)] := hl
  obtain ⟨hx, hb, hr, hml, hown, hts, hlk, hnw⟩ := id Cc
  unfold fX2_has at hf
  refine lv_iload_n hx hb dX2_has_0 rfl (lv_at hl 1 rfl) ?_
  refine lv_if_lt (tgt := 30) hx hb dX2_has_1 (by decide) (fun hc1 => ?_) (fun hc1 => ?_)
  · replace hf := (if_pos hc1).symm.trans hf
    refine lv_iconst (v := (0 : Int32)) hx hb dX2_has_30 (by decide) ?_
    obtain rfl := Option.some.inj hf
    exact rt_z Cc (by decide) hK hP hD hS dX2_has_31
  · replace hf := (if_neg hc1).symm.trans hf
    refine lv_iload_n hx hb dX2_has_4 rfl (lv_at hl 1 rfl) ?_
    refine lv_aload_n hx hb dX2_has_5 rfl (lv_at hl 0 rfl) ?_
    refine va_get (D := D) (ci := 2) (v := .int s_length) (C := RX2) (T := TX2) (N := 3) hx hb hts inX2 hown hK hP 0 rfl rfl 2 (by decide) (hts _ tw_115) (fun _ h9 => h9) rfl dX2_has_6 ?_
    refine lv_icmp_gt (tgt := 30) hx hb dX2_has_9 (by decide) (fun hc2 => ?_) (fun hc2 => ?_)
    · replace hf := (if_pos hc2).symm.trans hf
      refine lv_iconst (v := (0 : Int32)) hx hb dX2_has_30 (by decide) ?_
      obtain rfl := Option.some.inj hf
      exact rt_z Cc (by decide) hK hP hD hS dX2_has_31
    · replace hf := (if_neg hc2).symm.trans hf
      refine lv_iload_n hx hb dX2_has_12 rfl (lv_at hl 2 rfl) ?_
      refine lv_if_lt (tgt := 30) hx hb dX2_has_13 (by decide) (fun hc3 => ?_) (fun hc3 => ?_)
      · replace hf := (if_pos hc3).symm.trans hf
        refine lv_iconst (v := (0 : Int32)) hx hb dX2_has_30 (by decide) ?_
        obtain rfl := Option.some.inj hf
        exact rt_z Cc (by decide) hK hP hD hS dX2_has_31
      · replace hf := (if_neg hc3).symm.trans hf
        refine lv_iload_n hx hb dX2_has_16 rfl (lv_at hl 2 rfl) ?_
        refine lv_aload_n hx hb dX2_has_17 rfl (lv_at hl 0 rfl) ?_
        refine va_get (D := D) (ci := 2) (v := .int s_length) (C := RX2) (T := TX2) (N := 3) hx hb hts inX2 hown hK hP 0 rfl rfl 2 (by decide) (hts _ tw_115) (fun _ h9 => h9) rfl dX2_has_18 ?_
        refine lv_iload_n hx hb dX2_has_21 rfl (lv_at hl 1 rfl) ?_
        refine lv_isub hx hb dX2_has_22 ?_
        refine lv_icmp_gt (tgt := 30) hx hb dX2_has_23 (by decide) (fun hc4 => ?_) (fun hc4 => ?_)
        · replace hf := (if_pos hc4).symm.trans hf
          refine lv_iconst (v := (0 : Int32)) hx hb dX2_has_30 (by decide) ?_
          obtain rfl := Option.some.inj hf
          exact rt_z Cc (by decide) hK hP hD hS dX2_has_31
        · replace hf := (if_neg hc4).symm.trans hf
          refine lv_iconst (v := (1 : Int32)) hx hb dX2_has_26 (by decide) ?_
          refine lv_goto (tgt := 31) hx hb dX2_has_27 (by decide) ?_
          obtain rfl := Option.some.inj hf
          exact rt_z Cc (by decide) hK hP hD hS dX2_has_31
-- X2_cutToLane
def fX2_cutToLane (n : Nat) (s_lane : Int32) (p1 : Int32) : Option (Int32) := if s_lane = 0 then some ((p1).toInt8.toInt32) else if s_lane = 1 then some ((p1).toInt16.toInt32) else some (p1)
theorem mdX2_cutToLane : yX2_cutToLane.cls = RX2 ∧ yX2_cutToLane.cls ≠ "java/lang/invoke/MethodHandle" ∧ yX2_cutToLane.cls ≠ "java/lang/invoke/VarHandle" ∧ (parseMethodDescriptor yX2_cutToLane.desc).map (fun d => d.parameters.length) = some 1 := by decide +kernel
set_option maxHeartbeats 4000000 in
set_option maxRecDepth 100000 in
theorem ctX2_cutToLane (l : Launch) (D : va_G) (cI cS : ClassId) (a_s a_s_row : Nat) (s_row : Nat → Int32) (s_lane : Int32) (s_length : Int32) (p1 : Int32) (n : Nat) (r : Int32) (hf : fX2_cutToLane n s_lane p1 = some (r)) : Ct l D (tysA cI cS) yX2_cutToLane cX2_cutToLane 2 (some .int) (Rm 0) [.ref a_s, .int p1] (W_s cI cS a_s a_s_row s_row s_lane s_length) (some (.int r)) (W_s cI cS a_s a_s_row s_row s_lane s_length) := by
  refine Ct_of (by decide) (Nat.le_of_ble_eq_true rfl) ?_
  intro p e s m args below meth c A ls Cc hK hA hP hD hS hl
  have hl : lv_has ls 2 [(0, .ref a_s), (1, .int p1)] := hl
  obtain ⟨hx, hb, hr, hml, hown, hts, hlk, hnw⟩ := id Cc
  unfold fX2_cutToLane at hf
  refine lv_aload_n hx hb dX2_cutToLane_0 rfl (lv_at hl 0 rfl) ?_
  refine va_get (D := D) (ci := 2) (v := .int s_lane) (C := RX2) (T := TX2) (N := 3) hx hb hts inX2 hown hK hP 0 rfl rfl 1 (by decide) (hts _ tw_113) (fun _ h9 => h9) rfl dX2_cutToLane_1 ?_
  by_cases hs1_0 : s_lane = 0
  · replace hf := (if_pos hs1_0).symm.trans hf
    refine lv_lookup (tgt := 32) (off := 28) hx hb dX2_cutToLane_4 (by decide) (by rw [hs1_0]; decide) (by decide) ?_
    refine lv_iload_n hx hb dX2_cutToLane_32 rfl (lv_at hl 1 rfl) ?_
    refine lv_i2b (v := (p1).toInt8.toInt32) hx hb dX2_cutToLane_33 rfl ?_
    obtain rfl := Option.some.inj hf
    exact rt_i Cc hK hP hD hS dX2_cutToLane_34
  · replace hf := (if_neg hs1_0).symm.trans hf
    by_cases hs1_1 : s_lane = 1
    · replace hf := (if_pos hs1_1).symm.trans hf
      refine lv_lookup (tgt := 35) (off := 31) hx hb dX2_cutToLane_4 (by decide) (by rw [hs1_1]; decide) (by decide) ?_
      refine lv_iload_n hx hb dX2_cutToLane_35 rfl (lv_at hl 1 rfl) ?_
      refine lv_i2s (v := (p1).toInt16.toInt32) hx hb dX2_cutToLane_36 rfl ?_
      obtain rfl := Option.some.inj hf
      exact rt_i Cc hK hP hD hS dX2_cutToLane_37
    · replace hf := (if_neg hs1_1).symm.trans hf
      refine lv_lookup (tgt := 38) (off := 34) hx hb dX2_cutToLane_4 (by decide) (lk_out2 (k0 := 0) (k1 := 1) (nei hs1_0) (nei hs1_1)) (by decide) ?_
      refine lv_iload_n hx hb dX2_cutToLane_38 rfl (lv_at hl 1 rfl) ?_
      obtain rfl := Option.some.inj hf
      exact rt_i Cc hK hP hD hS dX2_cutToLane_39
-- X2_setAt
def fX2_setAt (n : Nat) (s_row : Nat → Int32) (s_lane : Int32) (s_length : Int32) (p1 : Int32) (p2 : Int32) : Option ((Nat → Int32)) := (fX2_hasPlace n s_length p1).bind fun q2_1 => if q2_1 = 0 then some (s_row) else (fX2_cutToLane n s_lane p2).bind fun q15_1 => gd p1 60 (some ((upd s_row p1.toNatClampNeg q15_1)))
theorem mdX2_setAt : yX2_setAt.cls = RX2 ∧ yX2_setAt.cls ≠ "java/lang/invoke/MethodHandle" ∧ yX2_setAt.cls ≠ "java/lang/invoke/VarHandle" ∧ (parseMethodDescriptor yX2_setAt.desc).map (fun d => d.parameters.length) = some 2 := by decide +kernel
set_option maxHeartbeats 4000000 in
set_option maxRecDepth 100000 in
theorem ctX2_setAt (l : Launch) (D : va_G) (cI cS : ClassId) (a_s a_s_row : Nat) (s_row : Nat → Int32) (s_lane : Int32) (s_length : Int32) (p1 : Int32) (p2 : Int32) (n : Nat) (s_row' : Nat → Int32) (hf : fX2_setAt n s_row s_lane s_length p1 p2 = some (s_row')) : Ct l D (tysA cI cS) yX2_setAt cX2_setAt 3 none (Rm 1) [.ref a_s, .int p1, .int p2] (W_s cI cS a_s a_s_row s_row s_lane s_length) none (W_s cI cS a_s a_s_row s_row' s_lane s_length) := by
  refine Ct_of (by decide) (Nat.le_of_ble_eq_true rfl) ?_
  intro p e s m args below meth c A ls Cc hK hA hP hD hS hl
  have hl : lv_has ls 3 [(0, .ref a_s), (1, .int p1), (2, .int p2)] := hl
  obtain ⟨hx, hb, hr, hml, hown, hts, hlk, hnw⟩ := id Cc
  unfold fX2_setAt at hf
  refine lv_aload_n hx hb dX2_setAt_0 rfl (lv_at hl 0 rfl) ?_
  refine lv_iload_n hx hb dX2_setAt_1 rfl (lv_at hl 1 rfl) ?_
  obtain ⟨q2_1, hq1, hf⟩ := Option.bind_eq_some_iff.mp hf
  refine cV (ws' := (W_s cI cS a_s a_s_row s_row s_lane s_length)) (rest := []) (st1 := [.int q2_1]) Cc hK hA hP hD hS hl.1 (ctX2_hasPlace l D cI cS a_s a_s_row s_row s_lane s_length p1 n q2_1 hq1) ⟨tw_187, tw_184, tw_185, tw_186, tw_5⟩ mdX2_hasPlace ⟨rfl, rfl, Nat.le_of_ble_eq_true rfl, Nat.le_of_ble_eq_true rfl⟩ rfl dX2_setAt_2 rfl (Nat.le_of_ble_eq_true rfl) ⟨Nat.zero_le _, Nat.zero_le _⟩ rfl rfl rfl [0, 1] [] [0, 1] rfl rfl (by decide) rfl (fun H locs hP hD hS => ?_)
  refine lv_if_eq (tgt := 19) hx hb dX2_setAt_5 (by decide) (fun hc2 => ?_) (fun hc2 => ?_)
  · replace hf := (if_pos hc2).symm.trans hf
    obtain rfl := Option.some.inj hf
    exact rt_v Cc hK hP hD hS dX2_setAt_19
  · replace hf := (if_neg hc2).symm.trans hf
    refine lv_aload_n hx hb dX2_setAt_8 rfl (lv_at hl 0 rfl) ?_
    refine va_get (D := D) (ci := 2) (v := .ref a_s_row) (C := RX2) (T := TX2) (N := 3) hx hb hts inX2 hown hK hP 0 rfl rfl 0 (by decide) (hts _ tw_111) (fun _ h9 => h9) rfl dX2_setAt_9 ?_
    refine lv_iload_n hx hb dX2_setAt_12 rfl (lv_at hl 1 rfl) ?_
    refine lv_aload_n hx hb dX2_setAt_13 rfl (lv_at hl 0 rfl) ?_
    refine lv_iload_n hx hb dX2_setAt_14 rfl (lv_at hl 2 rfl) ?_
    obtain ⟨q15_1, hq3, hf⟩ := Option.bind_eq_some_iff.mp hf
    refine cV (ws' := (W_s cI cS a_s a_s_row s_row s_lane s_length)) (rest := [.int p1, .ref a_s_row]) (st1 := [.int q15_1, .int p1, .ref a_s_row]) Cc hK hA hP hD hS hl.1 (ctX2_cutToLane l D cI cS a_s a_s_row s_row s_lane s_length p2 n q15_1 hq3) ⟨tw_445, tw_442, tw_444, tp_6, tw_5⟩ mdX2_cutToLane ⟨rfl, rfl, Nat.le_of_ble_eq_true rfl, Nat.le_of_ble_eq_true rfl⟩ rfl dX2_setAt_15 rfl (Nat.le_of_ble_eq_true rfl) ⟨Nat.zero_le _, Nat.zero_le _⟩ rfl rfl rfl [0, 1] [] [0, 1] rfl rfl (by decide) rfl (fun H locs hP hD hS => ?_)
    obtain ⟨hin, hf⟩ := gd_some hf
    refine va_iast hx hb hK hP hD hS 1 0 rfl rfl hin dX2_setAt_18 (fun H locs hP hD hS => ?_)
    have hP : va_P D classes (W_s cI cS a_s a_s_row (upd s_row p1.toNatClampNeg q15_1) s_lane s_length) H := hP
    have hD : va_D A (W_s cI cS a_s a_s_row (upd s_row p1.toNatClampNeg q15_1) s_lane s_length) := hD
    obtain rfl := Option.some.inj hf
    exact rt_v Cc hK hP hD hS dX2_setAt_19
