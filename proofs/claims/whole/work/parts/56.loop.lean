/-! the law's loop -/
set_option maxHeartbeats 4000000 in
set_option maxRecDepth 100000 in
theorem law_loop {p : Program} {l : Launch} {e : Env} {s : State} {m : MethodId} {below : List Frame} {meth : Method} {c : Code} {D : va_G} {cI cS : ClassId} {b L ad am : Nat} {xs : Nat → Int32} (hL : L ≤ 384) (Cc : Cx p s m #[Value.ref b] meth c RL cL_law 4 ret) (hK : va_K D classes (tysA cI cS) s) (hX : va_X b L xs s s.heap) (hbl : b < s.heap.size) :
    ∀ (f t : Nat), 6 * t ≤ L → L < 6 * t + 6 * f → ∀ (wD wM : va_W) (H : Heap) (locs : List Loc) (ls : Array Slot), Iv cI cS ad am wD wM → va_P D classes (wD ++ wM) H → va_D (fun q => s.heap.size ≤ q) (wD ++ wM) → va_S (fun q => s.heap.size ≤ q) s.heap H locs → lv_has ls 4 [(0, .ref b), (1, .ref ad), (2, .ref am), (3, .int (nI (6 * t)))] →
      W p l e room_1 s m #[Value.ref b] below meth c H locs 33 718 (lw_Z below #[Value.ref b] s) (F0 m 18 ls []) := by
  have hA : ∀ q : Nat, s.heap.size ≤ q → (fun q : Nat => s.heap.size ≤ q) q := fun _ h => h
  have hbA : ¬ (fun q : Nat => s.heap.size ≤ q) b := Nat.not_le.mpr hbl
  obtain ⟨hx, hb, hr, hml, hown, hts, hlk, hnw⟩ := id Cc
  intro f
  induction f with
  | zero => intro t h1 h2; omega
  | succ f ih =>
    intro t h1 h2 wD wM H locs ls hI hP hD hS hl
    refine lv_iload_n hx hb dL_law_18 rfl (lv_at hl 3 rfl) ?_
    refine lv_aload_n hx hb dL_law_19 rfl (lv_at hl 0 rfl) ?_
    refine va_slen hx hb hX hbl hbA hS dL_law_20 ?_
    refine lv_bipush (v := 6) hx hb dL_law_21 (by decide) ?_
    refine lv_isub hx hb dL_law_23 ?_
    have e6 : (Int32.ofNat L - 6).toInt = (L : Int) - 6 := pk_sub_toInt (a := L) (b := 6) (by omega) (by omega)
    have e7 : (nI (6 * t)).toInt = ((6 * t : Nat) : Int) := nI_toInt (by omega)
    refine lv_icmp_gt (tgt := 1066) hx hb dL_law_24 (by decide) (fun h9 => ?_) (fun h9 => ?_)
    · refine lv_iconst (v := 1) hx hb dL_law_1066 (by decide) ?_
      refine va_forget hS.2.2 ?_
      refine W.widen (k := 600000) (n := 7302250) (by decide) (by decide) ?_
      exact lw_ret hx hb hr hlk dL_law_1067
    · have hlt : 6 * t + 6 ≤ L := by
        have h8 : ¬ (Int32.ofNat L - 6).toInt < (nI (6 * t)).toInt := fun q => h9 (Int32.lt_iff_toInt_lt.mpr q)
        rw [e6, e7] at h8
        omega
      have bk : ∀ (wD' wM' : va_W) (H1 : Heap) (locs1 : List Loc), Iv cI cS ad am wD' wM' → va_P D classes (wD' ++ wM') H1 → va_D (fun q => s.heap.size ≤ q) (wD' ++ wM') → va_S (fun q => s.heap.size ≤ q) s.heap H1 locs1 → W p l e room_1 s m #[Value.ref b] below meth c H1 locs1 33 718 (lw_Z below #[Value.ref b] s) (F0 m 1060 ls []) := by
        intro wD' wM' H1 locs1 hI hP hD hS
        refine lv_iinc (v := nI (6 * (t + 1))) (lv' := [(3, .int (nI (6 * (t + 1)))), (0, .ref b), (1, .ref ad), (2, .ref am)]) hx hb dL_law_1060 hl (k := 3) rfl ?_ (by decide) rfl (fun ls hl => ?_)
        · exact nI_add (6 * t) 6
        · refine lv_goto (tgt := 18) hx hb dL_law_1063 (by decide) ?_
          exact ih (t + 1) (by omega) (by omega) wD' wM' H1 locs1 ls hI hP hD hS (lv_sub hl [1, 2, 3, 0] rfl)
      refine lv_aload_n hx hb dL_law_27 rfl (lv_at hl 0 rfl) ?_
      refine lv_iload_n hx hb dL_law_28 rfl (lv_at hl 3 rfl) ?_
      refine va_sld hx hb hX hbl hbA hS (vp_in_nI (by omega) (by omega)) dL_law_29 ?_
      refine lv_bipush (v := 31) hx hb dL_law_30 (by decide) ?_
      refine lv_iand hx hb dL_law_32 ?_
      refine lv_topi (fun x _ => ?_)
      by_cases hs0 : x = 0
      · refine lv_tableIn (tgt := 168) (off := 135) hx hb dL_law_33 (by rw [hs0]; decide) (by rw [hs0]; decide) (by rw [hs0]; decide) (by decide) ?_
        exact cs_0 Cc hK hA hX hbl hbA hL hlt hl hI hP hD hS bk
      by_cases hs1 : x = 1
      · refine lv_tableIn (tgt := 221) (off := 188) hx hb dL_law_33 (by rw [hs1]; decide) (by rw [hs1]; decide) (by rw [hs1]; decide) (by decide) ?_
        exact cs_1 Cc hK hA hX hbl hbA hL hlt hl hI hP hD hS bk
      by_cases hs2 : x = 2
      · refine lv_tableIn (tgt := 254) (off := 221) hx hb dL_law_33 (by rw [hs2]; decide) (by rw [hs2]; decide) (by rw [hs2]; decide) (by decide) ?_
        exact cs_2 Cc hK hA hX hbl hbA hL hlt hl hI hP hD hS bk
      by_cases hs3 : x = 3
      · refine lv_tableIn (tgt := 277) (off := 244) hx hb dL_law_33 (by rw [hs3]; decide) (by rw [hs3]; decide) (by rw [hs3]; decide) (by decide) ?_
        exact cs_3 Cc hK hA hX hbl hbA hL hlt hl hI hP hD hS bk
      by_cases hs4 : x = 4
      · refine lv_tableIn (tgt := 310) (off := 277) hx hb dL_law_33 (by rw [hs4]; decide) (by rw [hs4]; decide) (by rw [hs4]; decide) (by decide) ?_
        exact cs_4 Cc hK hA hX hbl hbA hL hlt hl hI hP hD hS bk
      by_cases hs5 : x = 5
      · refine lv_tableIn (tgt := 333) (off := 300) hx hb dL_law_33 (by rw [hs5]; decide) (by rw [hs5]; decide) (by rw [hs5]; decide) (by decide) ?_
        exact cs_5 Cc hK hA hX hbl hbA hL hlt hl hI hP hD hS bk
      by_cases hs6 : x = 6
      · refine lv_tableIn (tgt := 366) (off := 333) hx hb dL_law_33 (by rw [hs6]; decide) (by rw [hs6]; decide) (by rw [hs6]; decide) (by decide) ?_
        exact cs_6 Cc hK hA hX hbl hbA hL hlt hl hI hP hD hS bk
      by_cases hs7 : x = 7
      · refine lv_tableIn (tgt := 389) (off := 356) hx hb dL_law_33 (by rw [hs7]; decide) (by rw [hs7]; decide) (by rw [hs7]; decide) (by decide) ?_
        exact cs_7 Cc hK hA hX hbl hbA hL hlt hl hI hP hD hS bk
      by_cases hs8 : x = 8
      · refine lv_tableIn (tgt := 422) (off := 389) hx hb dL_law_33 (by rw [hs8]; decide) (by rw [hs8]; decide) (by rw [hs8]; decide) (by decide) ?_
        exact cs_8 Cc hK hA hX hbl hbA hL hlt hl hI hP hD hS bk
      by_cases hs9 : x = 9
      · refine lv_tableIn (tgt := 485) (off := 452) hx hb dL_law_33 (by rw [hs9]; decide) (by rw [hs9]; decide) (by rw [hs9]; decide) (by decide) ?_
        exact cs_9 Cc hK hA hX hbl hbA hL hlt hl hI hP hD hS bk
      by_cases hs10 : x = 10
      · refine lv_tableIn (tgt := 508) (off := 475) hx hb dL_law_33 (by rw [hs10]; decide) (by rw [hs10]; decide) (by rw [hs10]; decide) (by decide) ?_
        exact cs_10 Cc hK hA hX hbl hbA hL hlt hl hI hP hD hS bk
      by_cases hs11 : x = 11
      · refine lv_tableIn (tgt := 521) (off := 488) hx hb dL_law_33 (by rw [hs11]; decide) (by rw [hs11]; decide) (by rw [hs11]; decide) (by decide) ?_
        exact cs_11 Cc hK hA hX hbl hbA hL hlt hl hI hP hD hS bk
      by_cases hs12 : x = 12
      · refine lv_tableIn (tgt := 544) (off := 511) hx hb dL_law_33 (by rw [hs12]; decide) (by rw [hs12]; decide) (by rw [hs12]; decide) (by decide) ?_
        exact cs_12 Cc hK hA hX hbl hbA hL hlt hl hI hP hD hS bk
      by_cases hs13 : x = 13
      · refine lv_tableIn (tgt := 567) (off := 534) hx hb dL_law_33 (by rw [hs13]; decide) (by rw [hs13]; decide) (by rw [hs13]; decide) (by decide) ?_
        exact cs_13 Cc hK hA hX hbl hbA hL hlt hl hI hP hD hS bk
      by_cases hs14 : x = 14
      · refine lv_tableIn (tgt := 610) (off := 577) hx hb dL_law_33 (by rw [hs14]; decide) (by rw [hs14]; decide) (by rw [hs14]; decide) (by decide) ?_
        exact cs_14 Cc hK hA hX hbl hbA hL hlt hl hI hP hD hS bk
      by_cases hs15 : x = 15
      · refine lv_tableIn (tgt := 633) (off := 600) hx hb dL_law_33 (by rw [hs15]; decide) (by rw [hs15]; decide) (by rw [hs15]; decide) (by decide) ?_
        exact cs_15 Cc hK hA hX hbl hbA hL hlt hl hI hP hD hS bk
      by_cases hs16 : x = 16
      · refine lv_tableIn (tgt := 656) (off := 623) hx hb dL_law_33 (by rw [hs16]; decide) (by rw [hs16]; decide) (by rw [hs16]; decide) (by decide) ?_
        exact cs_16 Cc hK hA hX hbl hbA hL hlt hl hI hP hD hS bk
      by_cases hs17 : x = 17
      · refine lv_tableIn (tgt := 679) (off := 646) hx hb dL_law_33 (by rw [hs17]; decide) (by rw [hs17]; decide) (by rw [hs17]; decide) (by decide) ?_
        exact cs_17 Cc hK hA hX hbl hbA hL hlt hl hI hP hD hS bk
      by_cases hs18 : x = 18
      · refine lv_tableIn (tgt := 692) (off := 659) hx hb dL_law_33 (by rw [hs18]; decide) (by rw [hs18]; decide) (by rw [hs18]; decide) (by decide) ?_
        exact cs_18 Cc hK hA hX hbl hbA hL hlt hl hI hP hD hS bk
      by_cases hs19 : x = 19
      · refine lv_tableIn (tgt := 716) (off := 683) hx hb dL_law_33 (by rw [hs19]; decide) (by rw [hs19]; decide) (by rw [hs19]; decide) (by decide) ?_
        exact cs_19 Cc hK hA hX hbl hbA hL hlt hl hI hP hD hS bk
      by_cases hs20 : x = 20
      · refine lv_tableIn (tgt := 759) (off := 726) hx hb dL_law_33 (by rw [hs20]; decide) (by rw [hs20]; decide) (by rw [hs20]; decide) (by decide) ?_
        exact cs_20 Cc hK hA hX hbl hbA hL hlt hl hI hP hD hS bk
      by_cases hs21 : x = 21
      · refine lv_tableIn (tgt := 782) (off := 749) hx hb dL_law_33 (by rw [hs21]; decide) (by rw [hs21]; decide) (by rw [hs21]; decide) (by decide) ?_
        exact cs_21 Cc hK hA hX hbl hbA hL hlt hl hI hP hD hS bk
      by_cases hs22 : x = 22
      · refine lv_tableIn (tgt := 825) (off := 792) hx hb dL_law_33 (by rw [hs22]; decide) (by rw [hs22]; decide) (by rw [hs22]; decide) (by decide) ?_
        exact cs_22 Cc hK hA hX hbl hbA hL hlt hl hI hP hD hS bk
      by_cases hs23 : x = 23
      · refine lv_tableIn (tgt := 869) (off := 836) hx hb dL_law_33 (by rw [hs23]; decide) (by rw [hs23]; decide) (by rw [hs23]; decide) (by decide) ?_
        exact cs_23 Cc hK hA hX hbl hbA hL hlt hl hI hP hD hS bk
      by_cases hs24 : x = 24
      · refine lv_tableIn (tgt := 932) (off := 899) hx hb dL_law_33 (by rw [hs24]; decide) (by rw [hs24]; decide) (by rw [hs24]; decide) (by decide) ?_
        exact cs_24 Cc hK hA hX hbl hbA hL hlt hl hI hP hD hS bk
      by_cases hs25 : x = 25
      · refine lv_tableIn (tgt := 955) (off := 922) hx hb dL_law_33 (by rw [hs25]; decide) (by rw [hs25]; decide) (by rw [hs25]; decide) (by decide) ?_
        exact cs_25 Cc hK hA hX hbl hbA hL hlt hl hI hP hD hS bk
      by_cases hs26 : x = 26
      · refine lv_tableIn (tgt := 978) (off := 945) hx hb dL_law_33 (by rw [hs26]; decide) (by rw [hs26]; decide) (by rw [hs26]; decide) (by decide) ?_
        exact cs_26 Cc hK hA hX hbl hbA hL hlt hl hI hP hD hS bk
      by_cases hs27 : x = 27
      · refine lv_tableIn (tgt := 1011) (off := 978) hx hb dL_law_33 (by rw [hs27]; decide) (by rw [hs27]; decide) (by rw [hs27]; decide) (by decide) ?_
        exact cs_27 Cc hK hA hX hbl hbA hL hlt hl hI hP hD hS bk
      by_cases hs28 : x = 28
      · refine lv_tableIn (tgt := 1024) (off := 991) hx hb dL_law_33 (by rw [hs28]; decide) (by rw [hs28]; decide) (by rw [hs28]; decide) (by decide) ?_
        exact cs_28 Cc hK hA hX hbl hbA hL hlt hl hI hP hD hS bk
      by_cases hs29 : x = 29
      · refine lv_tableIn (tgt := 1037) (off := 1004) hx hb dL_law_33 (by rw [hs29]; decide) (by rw [hs29]; decide) (by rw [hs29]; decide) (by decide) ?_
        exact cs_29 Cc hK hA hX hbl hbA hL hlt hl hI hP hD hS bk
      refine lv_tableOut (tgt := 1060) hx hb dL_law_33 (tb_out (N := 29) (by decide) (fun i hi => match i, hi with | 0, _ => hs0 | 1, _ => hs1 | 2, _ => hs2 | 3, _ => hs3 | 4, _ => hs4 | 5, _ => hs5 | 6, _ => hs6 | 7, _ => hs7 | 8, _ => hs8 | 9, _ => hs9 | 10, _ => hs10 | 11, _ => hs11 | 12, _ => hs12 | 13, _ => hs13 | 14, _ => hs14 | 15, _ => hs15 | 16, _ => hs16 | 17, _ => hs17 | 18, _ => hs18 | 19, _ => hs19 | 20, _ => hs20 | 21, _ => hs21 | 22, _ => hs22 | 23, _ => hs23 | 24, _ => hs24 | 25, _ => hs25 | 26, _ => hs26 | 27, _ => hs27 | 28, _ => hs28 | 29, _ => hs29 | i + 30, hi => absurd hi (by omega))) (by decide) ?_
      exact bk wD wM H locs hI hP hD hS
