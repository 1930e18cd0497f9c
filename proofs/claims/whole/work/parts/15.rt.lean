-- X1_addOne
def fX1_addOne (n : Nat) (r_cells : Nat → Int32) (r_hours : Nat → Int32) (r_cracked : Nat → Int32) (r_count : Int32) (p1 : Int32) (p2 : Int32) (p3 : Int32) : Option (Int32 × (Nat → Int32) × (Nat → Int32) × (Nat → Int32) × Int32) := if r_count < (8 : Int32) then gd r_count 8 (gd r_count 8 (gd r_count 8 (some (((r_count + (1 : Int32)) - (1 : Int32)), (upd r_cells r_count.toNatClampNeg p1), (upd r_hours r_count.toNatClampNeg p2), (upd r_cracked r_count.toNatClampNeg p3), (r_count + (1 : Int32)))))) else some ((-4 : Int32), r_cells, r_hours, r_cracked, r_count)
theorem mdX1_addOne : yX1_addOne.cls = RX1 ∧ yX1_addOne.cls ≠ "java/lang/invoke/MethodHandle" ∧ yX1_addOne.cls ≠ "java/lang/invoke/VarHandle" ∧ (parseMethodDescriptor yX1_addOne.desc).map (fun d => d.parameters.length) = some 3 := by decide +kernel
set_option maxHeartbeats 4000000 in
set_option maxRecDepth 100000 in
theorem ctX1_addOne (l : Launch) (D : va_G) (cI cS : ClassId) (a_r a_r_cells a_r_hours a_r_cracked : Nat) (r_cells : Nat → Int32) (r_hours : Nat → Int32) (r_cracked : Nat → Int32) (r_count : Int32) (p1 : Int32) (p2 : Int32) (p3 : Int32) (n : Nat) (r : Int32) (r_cells' : Nat → Int32) (r_hours' : Nat → Int32) (r_cracked' : Nat → Int32) (r_count' : Int32) (hf : fX1_addOne n r_cells r_hours r_cracked r_count p1 p2 p3 = some (r, r_cells', r_hours', r_cracked', r_count')) : Ct l D (tysA cI cS) yX1_addOne cX1_addOne 4 (some .int) (Rm 0) [.ref a_r, .int p1, .int p2, .int p3] (W_r cI cS a_r a_r_cells a_r_hours a_r_cracked r_cells r_hours r_cracked r_count) (some (.int r)) (W_r cI cS a_r a_r_cells a_r_hours a_r_cracked r_cells' r_hours' r_cracked' r_count') := by
  refine Ct_of (by decide) (Nat.le_of_ble_eq_true rfl) ?_
  intro p e s m args below meth c A ls Cc hK hA hP hD hS hl
  have hl : lv_has ls 4 [(0, .ref a_r), (1, .int p1), (2, .int p2), (3, .int p3)] := hl
  obtain ⟨hx, hb, hr, hml, hown, hts, hlk, hnw⟩ := id Cc
  unfold fX1_addOne at hf
  refine lv_aload_n hx hb dX1_addOne_0 rfl (lv_at hl 0 rfl) ?_
  refine va_get (D := D) (ci := 1) (v := .int r_count) (C := RX1) (T := TX1) (N := 4) hx hb hts inX1 hown hK hP 0 rfl rfl 3 (by decide) (hts _ tw_93) (fun _ h9 => h9) rfl dX1_addOne_1 ?_
  refine lv_bipush (v := (8 : Int32)) hx hb dX1_addOne_4 (by decide) ?_
  refine lv_icmp_lt (tgt := 12) hx hb dX1_addOne_6 (by decide) (fun hc1 => ?_) (fun hc1 => ?_)
  · replace hf := (if_pos hc1).symm.trans hf
    refine lv_aload_n hx hb dX1_addOne_12 rfl (lv_at hl 0 rfl) ?_
    refine va_get (D := D) (ci := 1) (v := .ref a_r_cells) (C := RX1) (T := TX1) (N := 4) hx hb hts inX1 hown hK hP 0 rfl rfl 0 (by decide) (hts _ tw_90) (fun _ h9 => h9) rfl dX1_addOne_13 ?_
    refine lv_aload_n hx hb dX1_addOne_16 rfl (lv_at hl 0 rfl) ?_
    refine va_get (D := D) (ci := 1) (v := .int r_count) (C := RX1) (T := TX1) (N := 4) hx hb hts inX1 hown hK hP 0 rfl rfl 3 (by decide) (hts _ tw_93) (fun _ h9 => h9) rfl dX1_addOne_17 ?_
    refine lv_iload_n hx hb dX1_addOne_20 rfl (lv_at hl 1 rfl) ?_
    obtain ⟨hin, hf⟩ := gd_some hf
    refine va_iast hx hb hK hP hD hS 1 0 rfl rfl hin dX1_addOne_21 (fun H locs hP hD hS => ?_)
    have hP : va_P D classes (W_r cI cS a_r a_r_cells a_r_hours a_r_cracked (upd r_cells r_count.toNatClampNeg p1) r_hours r_cracked r_count) H := hP
    have hD : va_D A (W_r cI cS a_r a_r_cells a_r_hours a_r_cracked (upd r_cells r_count.toNatClampNeg p1) r_hours r_cracked r_count) := hD
    refine lv_aload_n hx hb dX1_addOne_22 rfl (lv_at hl 0 rfl) ?_
    refine va_get (D := D) (ci := 1) (v := .ref a_r_hours) (C := RX1) (T := TX1) (N := 4) hx hb hts inX1 hown hK hP 0 rfl rfl 1 (by decide) (hts _ tw_91) (fun _ h9 => h9) rfl dX1_addOne_23 ?_
    refine lv_aload_n hx hb dX1_addOne_26 rfl (lv_at hl 0 rfl) ?_
    refine va_get (D := D) (ci := 1) (v := .int r_count) (C := RX1) (T := TX1) (N := 4) hx hb hts inX1 hown hK hP 0 rfl rfl 3 (by decide) (hts _ tw_93) (fun _ h9 => h9) rfl dX1_addOne_27 ?_
    refine lv_iload_n hx hb dX1_addOne_30 rfl (lv_at hl 2 rfl) ?_
    obtain ⟨hin, hf⟩ := gd_some hf
    refine va_iast hx hb hK hP hD hS 2 0 rfl rfl hin dX1_addOne_31 (fun H locs hP hD hS => ?_)
    have hP : va_P D classes (W_r cI cS a_r a_r_cells a_r_hours a_r_cracked (upd r_cells r_count.toNatClampNeg p1) (upd r_hours r_count.toNatClampNeg p2) r_cracked r_count) H := hP
    have hD : va_D A (W_r cI cS a_r a_r_cells a_r_hours a_r_cracked (upd r_cells r_count.toNatClampNeg p1) (upd r_hours r_count.toNatClampNeg p2) r_cracked r_count) := hD
    refine lv_aload_n hx hb dX1_addOne_32 rfl (lv_at hl 0 rfl) ?_
    refine va_get (D := D) (ci := 1) (v := .ref a_r_cracked) (C := RX1) (T := TX1) (N := 4) hx hb hts inX1 hown hK hP 0 rfl rfl 2 (by decide) (hts _ tw_92) (fun _ h9 => h9) rfl dX1_addOne_33 ?_
    refine lv_aload_n hx hb dX1_addOne_36 rfl (lv_at hl 0 rfl) ?_
    refine va_get (D := D) (ci := 1) (v := .int r_count) (C := RX1) (T := TX1) (N := 4) hx hb hts inX1 hown hK hP 0 rfl rfl 3 (by decide) (hts _ tw_93) (fun _ h9 => h9) rfl dX1_addOne_37 ?_
    refine lv_iload_n hx hb dX1_addOne_40 rfl (lv_at hl 3 rfl) ?_
    obtain ⟨hin, hf⟩ := gd_some hf
    refine va_iast hx hb hK hP hD hS 3 0 rfl rfl hin dX1_addOne_41 (fun H locs hP hD hS => ?_)
    have hP : va_P D classes (W_r cI cS a_r a_r_cells a_r_hours a_r_cracked (upd r_cells r_count.toNatClampNeg p1) (upd r_hours r_count.toNatClampNeg p2) (upd r_cracked r_count.toNatClampNeg p3) r_count) H := hP
    have hD : va_D A (W_r cI cS a_r a_r_cells a_r_hours a_r_cracked (upd r_cells r_count.toNatClampNeg p1) (upd r_hours r_count.toNatClampNeg p2) (upd r_cracked r_count.toNatClampNeg p3) r_count) := hD
    refine lv_aload_n hx hb dX1_addOne_42 rfl (lv_at hl 0 rfl) ?_
    refine lv_dup hx hb dX1_addOne_43 rfl ?_
    refine va_get (D := D) (ci := 1) (v := .int r_count) (C := RX1) (T := TX1) (N := 4) hx hb hts inX1 hown hK hP 0 rfl rfl 3 (by decide) (hts _ tw_93) (fun _ h9 => h9) rfl dX1_addOne_44 ?_
    refine lv_iconst (v := (1 : Int32)) hx hb dX1_addOne_47 (by decide) ?_
    refine lv_iadd hx hb dX1_addOne_48 ?_
    refine va_put (D := D) (ci := 1) (v := .int (r_count + (1 : Int32))) (ty := .int) (C := RX1) (T := TX1) (N := 4) hx hb hts inX1 tyX1 tyX1_ok nmX1 hown hK hP hD hS 0 rfl rfl 3 (by decide) (hts _ tw_93) (fun _ h9 => h9) rfl (tyX1_ok 3 (by decide)) rfl rfl (Nat.le_of_ble_eq_true rfl) dX1_addOne_49 (fun H locs hP hD hS => ?_)
    have hP : va_P D classes (W_r cI cS a_r a_r_cells a_r_hours a_r_cracked (upd r_cells r_count.toNatClampNeg p1) (upd r_hours r_count.toNatClampNeg p2) (upd r_cracked r_count.toNatClampNeg p3) (r_count + (1 : Int32))) H := hP
    have hD : va_D A (W_r cI cS a_r a_r_cells a_r_hours a_r_cracked (upd r_cells r_count.toNatClampNeg p1) (upd r_hours r_count.toNatClampNeg p2) (upd r_cracked r_count.toNatClampNeg p3) (r_count + (1 : Int32))) := hD
    refine lv_aload_n hx hb dX1_addOne_52 rfl (lv_at hl 0 rfl) ?_
    refine va_get (D := D) (ci := 1) (v := .int (r_count + (1 : Int32))) (C := RX1) (T := TX1) (N := 4) hx hb hts inX1 hown hK hP 0 rfl rfl 3 (by decide) (hts _ tw_93) (fun _ h9 => h9) rfl dX1_addOne_53 ?_
    refine lv_iconst (v := (1 : Int32)) hx hb dX1_addOne_56 (by decide) ?_
    refine lv_isub hx hb dX1_addOne_57 ?_
    replace hf := Option.some.inj hf
    obtain ⟨er0, er1⟩ := Prod.mk.inj hf
    obtain ⟨er2, er3⟩ := Prod.mk.inj er1
    obtain ⟨er4, er5⟩ := Prod.mk.inj er3
    obtain ⟨er6, er7⟩ := Prod.mk.inj er5
    clear hf er1 er3 er5
    subst er0
    subst er2
    subst er4
    subst er6
    subst er7
    exact rt_i Cc hK hP hD hS dX1_addOne_58
  · replace hf := (if_neg hc1).symm.trans hf
    refine lv_bipush (v := (-4 : Int32)) hx hb dX1_addOne_9 (by decide) ?_
    replace hf := Option.some.inj hf
    obtain ⟨er0, er1⟩ := Prod.mk.inj hf
    obtain ⟨er2, er3⟩ := Prod.mk.inj er1
    obtain ⟨er4, er5⟩ := Prod.mk.inj er3
    obtain ⟨er6, er7⟩ := Prod.mk.inj er5
    clear hf er1 er3 er5
    subst er0
    subst er2
    subst er4
    subst er6
    subst er7
    exact rt_i Cc hK hP hD hS dX1_addOne_11
-- X1_areSoIn
def fX1_areSoIn_2 (n : Nat) : Nat → (Nat → Int32) → (Nat → Int32) → (Nat → Int32) → Int32 → (Nat → Int32) → (Nat → Int32) → Int32 → Int32 → Int32 → Option (Int32)
  | 0, _, _, _, _, _, _, _, _, _ => none
  | k + 1, r_cells, r_hours, r_cracked, r_count, f_kind, f_wet, f_cells, f_sun, x2 => if r_count ≤ x2 then some ((1 : Int32)) else gd x2 8 (gd x2 8 ((fX0_isCrackedBehind n f_kind f_wet f_cells f_sun (r_cells x2.toNatClampNeg) (r_hours x2.toNatClampNeg)).bind fun q23_1 => gd x2 8 (if (r_cracked x2.toNatClampNeg) = (1 : Int32) then if q23_1 = (1 : Int32) then fX1_areSoIn_2 n k r_cells r_hours r_cracked r_count f_kind f_wet f_cells f_sun (x2 + 1) else some ((0 : Int32)) else if q23_1 = (0 : Int32) then fX1_areSoIn_2 n k r_cells r_hours r_cracked r_count f_kind f_wet f_cells f_sun (x2 + 1) else some ((0 : Int32)))))
def fX1_areSoIn (n : Nat) (r_cells : Nat → Int32) (r_hours : Nat → Int32) (r_cracked : Nat → Int32) (r_count : Int32) (f_kind : Nat → Int32) (f_wet : Nat → Int32) (f_cells : Int32) (f_sun : Int32)  : Option (Int32) := fX1_areSoIn_2 n n r_cells r_hours r_cracked r_count f_kind f_wet f_cells f_sun (0 : Int32)
theorem mdX1_areSoIn : yX1_areSoIn.cls = RX1 ∧ yX1_areSoIn.cls ≠ "java/lang/invoke/MethodHandle" ∧ yX1_areSoIn.cls ≠ "java/lang/invoke/VarHandle" ∧ (parseMethodDescriptor yX1_areSoIn.desc).map (fun d => d.parameters.length) = some 1 := by decide +kernel
set_option maxHeartbeats 4000000 in
set_option maxRecDepth 100000 in
theorem bX1_areSoIn_2 {p : Program} {l : Launch} {e : Env} {s : State} {m : MethodId} {args : Array Value} {below : List Frame} {meth : Method} {c : Code} {A : Nat → Prop} {D : va_G} {cI cS : ClassId} (a_r a_r_cells a_r_hours a_r_cracked a_f a_f_kind a_f_wet : Nat) (f_wide : Int32) (f_rows : Int32) (f_all : Int32) (f_firstColumn : Int32) (f_lastColumn : Int32) (Cc : Cx p s m args meth c RX1 cX1_areSoIn 4 (some .boolean)) (hK : va_K D classes (tysA cI cS) s) (hA : ∀ q, s.heap.size ≤ q → A q) (n : Nat) : ∀ (k : Nat) (r_cells : Nat → Int32) (r_hours : Nat → Int32) (r_cracked : Nat → Int32) (r_count : Int32) (f_kind : Nat → Int32) (f_wet : Nat → Int32) (f_cells : Int32) (f_sun : Int32) (x2 : Int32) (r : Int32), fX1_areSoIn_2 n k r_cells r_hours r_cracked r_count f_kind f_wet f_cells f_sun x2 = some (r) → ∀ (H : Heap) (locs : List Loc) (ls : Array Slot), va_P D classes (W_rf cI cS a_r a_r_cells a_r_hours a_r_cracked a_f a_f_kind a_f_wet r_cells r_hours r_cracked r_count f_kind f_wet f_wide f_rows f_cells f_sun f_all f_firstColumn f_lastColumn) H → va_D A (W_rf cI cS a_r a_r_cells a_r_hours a_r_cracked a_f a_f_kind a_f_wet r_cells r_hours r_cracked r_count f_kind f_wet f_wide f_rows f_cells f_sun f_all f_firstColumn f_lastColumn) → va_S A s.heap H locs → lv_has ls 4 [(0, .ref a_r), (1, .ref a_f), (2, .int x2)] → W p l e (Rm 2) s m args below meth c H locs 0 0 (MQ below (QW D (tysA cI cS) (some (.int r)) (W_rf cI cS a_r a_r_cells a_r_hours a_r_cracked a_f a_f_kind a_f_wet r_cells r_hours r_cracked r_count f_kind f_wet f_wide f_rows f_cells f_sun f_all f_firstColumn f_lastColumn) A) args s 0 0 A) (F0 m 2 ls []) := by
  obtain ⟨hx, hb, hr, hml, hown, hts, hlk, hnw⟩ := id Cc
  intro k
  induction k with
  | zero =>
    intro r_cells r_hours r_cracked r_count f_kind f_wet f_cells f_sun x2 r hf
    rw [fX1_areSoIn_2] at hf
    cases hf
  | succ k ih =>
    intro r_cells r_hours r_cracked r_count f_kind f_wet f_cells f_sun x2 r hf H locs ls hP hD hS hl
    rw [fX1_areSoIn_2] at hf
    refine lv_iload_n hx hb dX1_areSoIn_2 rfl (lv_at hl 2 rfl) ?_
    refine lv_aload_n hx hb dX1_areSoIn_3 rfl (lv_at hl 0 rfl) ?_
    refine va_get (D := D) (ci := 1) (v := .int r_count) (C := RX1) (T := TX1) (N := 4) hx hb hts inX1 hown hK hP 0 rfl rfl 3 (by decide) (hts _ tw_93) (fun _ h9 => h9) rfl dX1_areSoIn_4 ?_
    refine lv_icmp_ge (tgt := 54) hx hb dX1_areSoIn_7 (by decide) (fun hc1 => ?_) (fun hc1 => ?_)
    · replace hf := (if_pos hc1).symm.trans hf
      refine lv_iconst (v := (1 : Int32)) hx hb dX1_areSoIn_54 (by decide) ?_
      obtain rfl := Option.some.inj hf
      exact rt_z Cc (by decide) hK hP hD hS dX1_areSoIn_55
    · replace hf := (if_neg hc1).symm.trans hf
      refine lv_aload_n hx hb dX1_areSoIn_10 rfl (lv_at hl 1 rfl) ?_
      refine lv_aload_n hx hb dX1_areSoIn_11 rfl (lv_at hl 0 rfl) ?_
      refine va_get (D := D) (ci := 1) (v := .ref a_r_cells) (C := RX1) (T := TX1) (N := 4) hx hb hts inX1 hown hK hP 0 rfl rfl 0 (by decide) (hts _ tw_90) (fun _ h9 => h9) rfl dX1_areSoIn_12 ?_
      refine lv_iload_n hx hb dX1_areSoIn_15 rfl (lv_at hl 2 rfl) ?_
      obtain ⟨hin, hf⟩ := gd_some hf
      refine va_iald hx hb hK hP 1 0 rfl rfl hin dX1_areSoIn_16 ?_
      refine lv_aload_n hx hb dX1_areSoIn_17 rfl (lv_at hl 0 rfl) ?_
      refine va_get (D := D) (ci := 1) (v := .ref a_r_hours) (C := RX1) (T := TX1) (N := 4) hx hb hts inX1 hown hK hP 0 rfl rfl 1 (by decide) (hts _ tw_91) (fun _ h9 => h9) rfl dX1_areSoIn_18 ?_
      refine lv_iload_n hx hb dX1_areSoIn_21 rfl (lv_at hl 2 rfl) ?_
      obtain ⟨hin, hf⟩ := gd_some hf
      refine va_iald hx hb hK hP 2 0 rfl rfl hin dX1_areSoIn_22 ?_
      obtain ⟨q23_1, hq2, hf⟩ := Option.bind_eq_some_iff.mp hf
      refine cV (ws' := (W_rf cI cS a_r a_r_cells a_r_hours a_r_cracked a_f a_f_kind a_f_wet r_cells r_hours r_cracked r_count f_kind f_wet f_wide f_rows f_cells f_sun f_all f_firstColumn f_lastColumn)) (rest := []) (st1 := [.int q23_1]) Cc hK hA hP hD hS hl.1 (ctX0_isCrackedBehind l D cI cS a_f a_f_kind a_f_wet f_kind f_wet f_wide f_rows f_cells f_sun f_all f_firstColumn f_lastColumn (r_cells x2.toNatClampNeg) (r_hours x2.toNatClampNeg) n q23_1 hq2) ⟨tw_354, tw_398, tw_352, tw_353, tw_2⟩ mdX0_isCrackedBehind ⟨rfl, rfl, Nat.le_of_ble_eq_true rfl, Nat.le_of_ble_eq_true rfl⟩ rfl dX1_areSoIn_23 rfl (Nat.le_of_ble_eq_true rfl) ⟨Nat.zero_le _, Nat.zero_le _⟩ rfl rfl rfl [4, 5, 6] [0, 1, 2, 3] [0, 1, 2, 3, 4, 5, 6] rfl rfl (by decide) rfl (fun H locs hP hD hS => ?_)
      refine lv_istore_n (lv' := [(3, .int q23_1), (0, .ref a_r), (1, .ref a_f), (2, .int x2)]) hx hb dX1_areSoIn_26 rfl hl (by decide) rfl (fun ls hl => ?_)
      refine lv_iload_n hx hb dX1_areSoIn_27 rfl (lv_at hl 0 rfl) ?_
      refine lv_aload_n hx hb dX1_areSoIn_28 rfl (lv_at hl 1 rfl) ?_
      refine va_get (D := D) (ci := 1) (v := .ref a_r_cracked) (C := RX1) (T := TX1) (N := 4) hx hb hts inX1 hown hK hP 0 rfl rfl 2 (by decide) (hts _ tw_92) (fun _ h9 => h9) rfl dX1_areSoIn_29 ?_
      refine lv_iload_n hx hb dX1_areSoIn_32 rfl (lv_at hl 3 rfl) ?_
      obtain ⟨hin, hf⟩ := gd_some hf
      refine va_iald hx hb hK hP 3 0 rfl rfl hin dX1_areSoIn_33 ?_
      refine lv_iconst (v := (1 : Int32)) hx hb dX1_areSoIn_34 (by decide) ?_
      refine lv_icmp_ne (tgt := 42) hx hb dX1_areSoIn_35 (by decide) (fun hc3 => ?_) (fun hc3 => ?_)
      · replace hf := (if_neg hc3).symm.trans hf
        refine lv_iconst (v := (0 : Int32)) hx hb dX1_areSoIn_42 (by decide) ?_
        refine lv_icmp_eq (tgt := 48) hx hb dX1_areSoIn_43 (by decide) (fun hc4 => ?_) (fun hc4 => ?_)
        · replace hf := (if_pos hc4).symm.trans hf
          refine lv_iinc (v := (x2 + 1)) (lv' := [(2, .int (x2 + 1)), (3, .int q23_1), (0, .ref a_r), (1, .ref a_f)]) hx hb dX1_areSoIn_48 hl (k := 3) rfl rfl (by decide) rfl (fun ls hl => ?_)
          refine lv_goto (tgt := 2) hx hb dX1_areSoIn_51 (by decide) ?_
          exact ih _ _ _ _ _ _ _ _ _ _ hf _ _ _ hP hD hS (lv_sub hl [2, 3, 0] rfl)
        · replace hf := (if_neg hc4).symm.trans hf
          refine lv_iconst (v := (0 : Int32)) hx hb dX1_areSoIn_46 (by decide) ?_
          obtain rfl := Option.some.inj hf
          exact rt_z Cc (by decide) hK hP hD hS dX1_areSoIn_47
      · replace hf := (if_pos hc3).symm.trans hf
        refine lv_iconst (v := (1 : Int32)) hx hb dX1_areSoIn_38 (by decide) ?_
        refine lv_goto (tgt := 43) hx hb dX1_areSoIn_39 (by decide) ?_
        refine lv_icmp_eq (tgt := 48) hx hb dX1_areSoIn_43 (by decide) (fun hc5 => ?_) (fun hc5 => ?_)
        · replace hf := (if_pos hc5).symm.trans hf
          refine lv_iinc (v := (x2 + 1)) (lv' := [(2, .int (x2 + 1)), (3, .int q23_1), (0, .ref a_r), (1, .ref a_f)]) hx hb dX1_areSoIn_48 hl (k := 3) rfl rfl (by decide) rfl (fun ls hl => ?_)
          refine lv_goto (tgt := 2) hx hb dX1_areSoIn_51 (by decide) ?_
          exact ih _ _ _ _ _ _ _ _ _ _ hf _ _ _ hP hD hS (lv_sub hl [2, 3, 0] rfl)
        · replace hf := (if_neg hc5).symm.trans hf
          refine lv_iconst (v := (0 : Int32)) hx hb dX1_areSoIn_46 (by decide) ?_
          obtain rfl := Option.some.inj hf
          exact rt_z Cc (by decide) hK hP hD hS dX1_areSoIn_47
set_option maxHeartbeats 4000000 in
set_option maxRecDepth 100000 in
theorem ctX1_areSoIn (l : Launch) (D : va_G) (cI cS : ClassId) (a_r a_r_cells a_r_hours a_r_cracked a_f a_f_kind a_f_wet : Nat) (r_cells : Nat → Int32) (r_hours : Nat → Int32) (r_cracked : Nat → Int32) (r_count : Int32) (f_kind : Nat → Int32) (f_wet : Nat → Int32) (f_wide : Int32) (f_rows : Int32) (f_cells : Int32) (f_sun : Int32) (f_all : Int32) (f_firstColumn : Int32) (f_lastColumn : Int32)  (n : Nat) (r : Int32) (hf : fX1_areSoIn n r_cells r_hours r_cracked r_count f_kind f_wet f_cells f_sun  = some (r)) : Ct l D (tysA cI cS) yX1_areSoIn cX1_areSoIn 4 (some .boolean) (Rm 2) [.ref a_r, .ref a_f] (W_rf cI cS a_r a_r_cells a_r_hours a_r_cracked a_f a_f_kind a_f_wet r_cells r_hours r_cracked r_count f_kind f_wet f_wide f_rows f_cells f_sun f_all f_firstColumn f_lastColumn) (some (.int r)) (W_rf cI cS a_r a_r_cells a_r_hours a_r_cracked a_f a_f_kind a_f_wet r_cells r_hours r_cracked r_count f_kind f_wet f_wide f_rows f_cells f_sun f_all f_firstColumn f_lastColumn) := by
  refine Ct_of (by decide) (Nat.le_of_ble_eq_true rfl) ?_
  intro p e s m args below meth c A ls Cc hK hA hP hD hS hl
  have hl : lv_has ls 4 [(0, .ref a_r), (1, .ref a_f)] := hl
  obtain ⟨hx, hb, hr, hml, hown, hts, hlk, hnw⟩ := id Cc
  unfold fX1_areSoIn at hf
  refine lv_iconst (v := (0 : Int32)) hx hb dX1_areSoIn_0 (by decide) ?_
  refine lv_istore_n (lv' := [(2, .int (0 : Int32)), (0, .ref a_r), (1, .ref a_f)]) hx hb dX1_areSoIn_1 rfl hl (by decide) rfl (fun ls hl => ?_)
  exact bX1_areSoIn_2 a_r a_r_cells a_r_hours a_r_cracked a_f a_f_kind a_f_wet f_wide f_rows f_all f_firstColumn f_lastColumn Cc hK hA n n _ _ _ _ _ _ _ _ _ _ hf _ _ _ hP hD hS (lv_sub hl [1, 2, 0] rfl)
-- X3_goHours
def fX3_goHours_2 (n : Nat) : Nat → Int32 → Int32 → (Nat → Int32) → (Nat → Int32) → Int32 → Int32 → Int32 → Int32 → Int32 → Int32 → Int32 → Int32 → Option (Int32 × Int32 × (Nat → Int32))
  | 0, _, _, _, _, _, _, _, _, _, _, _, _ => none
  | k + 1, t_hours, t_opened, g_kind, g_wet, g_wide, g_cells, g_sun, g_all, g_firstColumn, g_lastColumn, x1, x2 => if x1 ≤ x2 then some (t_hours, t_opened, g_wet) else (fX0_passHours n g_kind g_wet g_cells g_sun (1 : Int32)).bind fun q12_1 => if t_opened = (-9 : Int32) then (fX0_crackedSet n q12_1 g_cells).bind fun q42_1 => (fX0_isOpenBy n g_wide g_cells g_all g_firstColumn g_lastColumn q42_1).bind fun q45_2 => if q45_2 = 0 then fX3_goHours_2 n k (t_hours + (1 : Int32)) t_opened g_kind q12_1 g_wide g_cells g_sun g_all g_firstColumn g_lastColumn x1 (x2 + 1) else fX3_goHours_2 n k (t_hours + (1 : Int32)) (t_hours + (1 : Int32)) g_kind q12_1 g_wide g_cells g_sun g_all g_firstColumn g_lastColumn x1 (x2 + 1) else fX3_goHours_2 n k (t_hours + (1 : Int32)) t_opened g_kind q12_1 g_wide g_cells g_sun g_all g_firstColumn g_lastColumn x1 (x2 + 1)
def fX3_goHours (n : Nat) (t_hours : Int32) (t_opened : Int32) (g_kind : Nat → Int32) (g_wet : Nat → Int32) (g_wide : Int32) (g_cells : Int32) (g_sun : Int32) (g_all : Int32) (g_firstColumn : Int32) (g_lastColumn : Int32) (p1 : Int32) : Option (Int32 × Int32 × (Nat → Int32)) := fX3_goHours_2 n n t_hours t_opened g_kind g_wet g_wide g_cells g_sun g_all g_firstColumn g_lastColumn p1 (0 : Int32)
theorem mdX3_goHours : yX3_goHours.cls = RX3 ∧ yX3_goHours.cls ≠ "java/lang/invoke/MethodHandle" ∧ yX3_goHours.cls ≠ "java/lang/invoke/VarHandle" ∧ (parseMethodDescriptor yX3_goHours.desc).map (fun d => d.parameters.length) = some 1 := by decide +kernel
set_option maxHeartbeats 4000000 in
set_option maxRecDepth 100000 in
theorem bX3_goHours_2 {p : Program} {l : Launch} {e : Env} {s : State} {m : MethodId} {args : Array Value} {below : List Frame} {meth : Method} {c : Code} {A : Nat → Prop} {D : va_G} {cI cS : ClassId} (a_t a_g a_g_kind a_g_wet : Nat) (t_firstWrong : Int32) (g_rows : Int32) (Cc : Cx p s m args meth c RX3 cX3_goHours 3 none) (hK : va_K D classes (tysA cI cS) s) (hA : ∀ q, s.heap.size ≤ q → A q) (n : Nat) : ∀ (k : Nat) (t_hours : Int32) (t_opened : Int32) (g_kind : Nat → Int32) (g_wet : Nat → Int32) (g_wide : Int32) (g_cells : Int32) (g_sun : Int32) (g_all : Int32) (g_firstColumn : Int32) (g_lastColumn : Int32) (x1 : Int32) (x2 : Int32) (t_hours' : Int32) (t_opened' : Int32) (g_wet' : Nat → Int32), fX3_goHours_2 n k t_hours t_opened g_kind g_wet g_wide g_cells g_sun g_all g_firstColumn g_lastColumn x1 x2 = some (t_hours', t_opened', g_wet') → ∀ (H : Heap) (locs : List Loc) (ls : Array Slot), va_P D classes (W_tg cI cS a_t a_g a_g_kind a_g_wet t_hours t_opened t_firstWrong g_kind g_wet g_wide g_rows g_cells g_sun g_all g_firstColumn g_lastColumn) H → va_D A (W_tg cI cS a_t a_g a_g_kind a_g_wet t_hours t_opened t_firstWrong g_kind g_wet g_wide g_rows g_cells g_sun g_all g_firstColumn g_lastColumn) → va_S A s.heap H locs → lv_has ls 3 [(0, .ref a_t), (1, .int x1), (2, .int x2)] → W p l e (Rm 3) s m args below meth c H locs 0 0 (MQ below (QW D (tysA cI cS) none (W_tg cI cS a_t a_g a_g_kind a_g_wet t_hours' t_opened' t_firstWrong g_kind g_wet' g_wide g_rows g_cells g_sun g_all g_firstColumn g_lastColumn) A) args s 0 0 A) (F0 m 2 ls []) := by
  obtain ⟨hx, hb, hr, hml, hown, hts, hlk, hnw⟩ := id Cc
  intro k
  induction k with
  | zero =>
    intro t_hours t_opened g_kind g_wet g_wide g_cells g_sun g_all g_firstColumn g_lastColumn x1 x2 t_hours' t_opened' g_wet' hf
    rw [fX3_goHours_2] at hf
    cases hf
  | succ k ih =>
    intro t_hours t_opened g_kind g_wet g_wide g_cells g_sun g_all g_firstColumn g_lastColumn x1 x2 t_hours' t_opened' g_wet' hf H locs ls hP hD hS hl
    rw [fX3_goHours_2] at hf
    refine lv_iload_n hx hb dX3_goHours_2 rfl (lv_at hl 2 rfl) ?_
    refine lv_iload_n hx hb dX3_goHours_3 rfl (lv_at hl 1 rfl) ?_
    refine lv_icmp_ge (tgt := 65) hx hb dX3_goHours_4 (by decide) (fun hc1 => ?_) (fun hc1 => ?_)
    · replace hf := (if_pos hc1).symm.trans hf
      replace hf := Option.some.inj hf
      obtain ⟨er0, er1⟩ := Prod.mk.inj hf
      obtain ⟨er2, er3⟩ := Prod.mk.inj er1
      clear hf er1
      subst er0
      subst er2
      subst er3
      exact rt_v Cc hK hP hD hS dX3_goHours_65
    · replace hf := (if_neg hc1).symm.trans hf
      refine lv_aload_n hx hb dX3_goHours_7 rfl (lv_at hl 0 rfl) ?_
      refine va_get (D := D) (ci := 3) (v := .ref a_g) (C := RX3) (T := TX3) (N := 4) hx hb hts inX3 hown hK hP 0 rfl rfl 0 (by decide) (hts _ tw_70) (fun _ h9 => h9) rfl dX3_goHours_8 ?_
      refine lv_iconst (v := (1 : Int32)) hx hb dX3_goHours_11 (by decide) ?_
      obtain ⟨q12_1, hq2, hf⟩ := Option.bind_eq_some_iff.mp hf
      refine cV (ws' := (W_tg cI cS a_t a_g a_g_kind a_g_wet t_hours t_opened t_firstWrong g_kind q12_1 g_wide g_rows g_cells g_sun g_all g_firstColumn g_lastColumn)) (rest := []) (st1 := []) Cc hK hA hP hD hS hl.1 (ctX0_passHours l D cI cS a_g a_g_kind a_g_wet g_kind g_wet g_wide g_rows g_cells g_sun g_all g_firstColumn g_lastColumn (1 : Int32) n q12_1 hq2) ⟨tw_264, tw_337, tw_262, tw_263, tw_2⟩ mdX0_passHours ⟨rfl, rfl, Nat.le_of_ble_eq_true rfl, Nat.le_of_ble_eq_true rfl⟩ rfl dX3_goHours_12 rfl (Nat.le_of_ble_eq_true rfl) ⟨Nat.zero_le _, Nat.zero_le _⟩ rfl rfl rfl [1, 2, 3] [0] [0, 1, 2, 3] rfl rfl (by decide) rfl (fun H locs hP hD hS => ?_)
      refine lv_aload_n hx hb dX3_goHours_15 rfl (lv_at hl 0 rfl) ?_
      refine lv_dup hx hb dX3_goHours_16 rfl ?_
      refine va_get (D := D) (ci := 3) (v := .int t_hours) (C := RX3) (T := TX3) (N := 4) hx hb hts inX3 hown hK hP 0 rfl rfl 1 (by decide) (hts _ tw_72) (fun _ h9 => h9) rfl dX3_goHours_17 ?_
      refine lv_iconst (v := (1 : Int32)) hx hb dX3_goHours_20 (by decide) ?_
      refine lv_iadd hx hb dX3_goHours_21 ?_
      refine va_put (D := D) (ci := 3) (v := .int (t_hours + (1 : Int32))) (ty := .int) (C := RX3) (T := TX3) (N := 4) hx hb hts inX3 tyX3 tyX3_ok nmX3 hown hK hP hD hS 0 rfl rfl 1 (by decide) (hts _ tw_72) (fun _ h9 => h9) rfl (tyX3_ok 1 (by decide)) rfl rfl (Nat.le_of_ble_eq_true rfl) dX3_goHours_22 (fun H locs hP hD hS => ?_)
      have hP : va_P D classes (W_tg cI cS a_t a_g a_g_kind a_g_wet (t_hours + (1 : Int32)) t_opened t_firstWrong g_kind q12_1 g_wide g_rows g_cells g_sun g_all g_firstColumn g_lastColumn) H := hP
      have hD : va_D A (W_tg cI cS a_t a_g a_g_kind a_g_wet (t_hours + (1 : Int32)) t_opened t_firstWrong g_kind q12_1 g_wide g_rows g_cells g_sun g_all g_firstColumn g_lastColumn) := hD
      refine lv_aload_n hx hb dX3_goHours_25 rfl (lv_at hl 0 rfl) ?_
      refine va_get (D := D) (ci := 3) (v := .int t_opened) (C := RX3) (T := TX3) (N := 4) hx hb hts inX3 hown hK hP 0 rfl rfl 2 (by decide) (hts _ tw_73) (fun _ h9 => h9) rfl dX3_goHours_26 ?_
      refine lv_bipush (v := (-9 : Int32)) hx hb dX3_goHours_29 (by decide) ?_
      refine lv_icmp_ne (tgt := 59) hx hb dX3_goHours_31 (by decide) (fun hc3 => ?_) (fun hc3 => ?_)
      · replace hf := (if_neg hc3).symm.trans hf
        refine lv_iinc (v := (x2 + 1)) (lv' := [(2, .int (x2 + 1)), (0, .ref a_t), (1, .int x1)]) hx hb dX3_goHours_59 hl (k := 2) rfl rfl (by decide) rfl (fun ls hl => ?_)
        refine lv_goto (tgt := 2) hx hb dX3_goHours_62 (by decide) ?_
        exact ih _ _ _ _ _ _ _ _ _ _ _ _ _ _ _ hf _ _ _ hP hD hS (lv_sub hl [1, 2, 0] rfl)
      · replace hf := (if_pos hc3).symm.trans hf
        refine lv_aload_n hx hb dX3_goHours_34 rfl (lv_at hl 0 rfl) ?_
        refine va_get (D := D) (ci := 3) (v := .ref a_g) (C := RX3) (T := TX3) (N := 4) hx hb hts inX3 hown hK hP 0 rfl rfl 0 (by decide) (hts _ tw_70) (fun _ h9 => h9) rfl dX3_goHours_35 ?_
        refine lv_aload_n hx hb dX3_goHours_38 rfl (lv_at hl 0 rfl) ?_
        refine va_get (D := D) (ci := 3) (v := .ref a_g) (C := RX3) (T := TX3) (N := 4) hx hb hts inX3 hown hK hP 0 rfl rfl 0 (by decide) (hts _ tw_70) (fun _ h9 => h9) rfl dX3_goHours_39 ?_
        obtain ⟨q42_1, hq4, hf⟩ := Option.bind_eq_some_iff.mp hf
        refine cV (ws' := (W_tg cI cS a_t a_g a_g_kind a_g_wet (t_hours + (1 : Int32)) t_opened t_firstWrong g_kind q12_1 g_wide g_rows g_cells g_sun g_all g_firstColumn g_lastColumn)) (rest := [.ref a_g]) (st1 := [.int q42_1, .ref a_g]) Cc hK hA hP hD hS hl.1 (ctX0_crackedSet l D cI cS a_g a_g_kind a_g_wet g_kind q12_1 g_wide g_rows g_cells g_sun g_all g_firstColumn g_lastColumn  n q42_1 hq4) ⟨tw_230, tw_325, tw_228, tw_229, tw_2⟩ mdX0_crackedSet ⟨rfl, rfl, Nat.le_of_ble_eq_true rfl, Nat.le_of_ble_eq_true rfl⟩ rfl dX3_goHours_42 rfl (Nat.le_of_ble_eq_true rfl) ⟨Nat.zero_le _, Nat.zero_le _⟩ rfl rfl rfl [1, 2, 3] [0] [0, 1, 2, 3] rfl rfl (by decide) rfl (fun H locs hP hD hS => ?_)
        obtain ⟨q45_2, hq5, hf⟩ := Option.bind_eq_some_iff.mp hf
        refine cV (ws' := (W_tg cI cS a_t a_g a_g_kind a_g_wet (t_hours + (1 : Int32)) t_opened t_firstWrong g_kind q12_1 g_wide g_rows g_cells g_sun g_all g_firstColumn g_lastColumn)) (rest := []) (st1 := [.int q45_2]) Cc hK hA hP hD hS hl.1 (ctX0_isOpenBy l D cI cS a_g a_g_kind a_g_wet g_kind q12_1 g_wide g_rows g_cells g_sun g_all g_firstColumn g_lastColumn q42_1 n q45_2 hq5) ⟨tw_286, tw_326, tw_284, tw_285, tw_2⟩ mdX0_isOpenBy ⟨rfl, rfl, Nat.le_of_ble_eq_true rfl, Nat.le_of_ble_eq_true rfl⟩ rfl dX3_goHours_45 rfl (Nat.le_of_ble_eq_true rfl) ⟨Nat.zero_le _, Nat.zero_le _⟩ rfl rfl rfl [1, 2, 3] [0] [0, 1, 2, 3] rfl rfl (by decide) rfl (fun H locs hP hD hS => ?_)
        refine lv_if_eq (tgt := 59) hx hb dX3_goHours_48 (by decide) (fun hc6 => ?_) (fun hc6 => ?_)
        · replace hf := (if_pos hc6).symm.trans hf
          refine lv_iinc (v := (x2 + 1)) (lv' := [(2, .int (x2 + 1)), (0, .ref a_t), (1, .int x1)]) hx hb dX3_goHours_59 hl (k := 2) rfl rfl (by decide) rfl (fun ls hl => ?_)
          refine lv_goto (tgt := 2) hx hb dX3_goHours_62 (by decide) ?_
          exact ih _ _ _ _ _ _ _ _ _ _ _ _ _ _ _ hf _ _ _ hP hD hS (lv_sub hl [1, 2, 0] rfl)
        · replace hf := (if_neg hc6).symm.trans hf
          refine lv_aload_n hx hb dX3_goHours_51 rfl (lv_at hl 0 rfl) ?_
          refine lv_aload_n hx hb dX3_goHours_52 rfl (lv_at hl 0 rfl) ?_
          refine va_get (D := D) (ci := 3) (v := .int (t_hours + (1 : Int32))) (C := RX3) (T := TX3) (N := 4) hx hb hts inX3 hown hK hP 0 rfl rfl 1 (by decide) (hts _ tw_72) (fun _ h9 => h9) rfl dX3_goHours_53 ?_
          refine va_put (D := D) (ci := 3) (v := .int (t_hours + (1 : Int32))) (ty := .int) (C := RX3) (T := TX3) (N := 4) hx hb hts inX3 tyX3 tyX3_ok nmX3 hown hK hP hD hS 0 rfl rfl 2 (by decide) (hts _ tw_73) (fun _ h9 => h9) rfl (tyX3_ok 2 (by decide)) rfl rfl (Nat.le_of_ble_eq_true rfl) dX3_goHours_56 (fun H locs hP hD hS => ?_)
          have hP : va_P D classes (W_tg cI cS a_t a_g a_g_kind a_g_wet (t_hours + (1 : Int32)) (t_hours + (1 : Int32)) t_firstWrong g_kind q12_1 g_wide g_rows g_cells g_sun g_all g_firstColumn g_lastColumn) H := hP
          have hD : va_D A (W_tg cI cS a_t a_g a_g_kind a_g_wet (t_hours + (1 : Int32)) (t_hours + (1 : Int32)) t_firstWrong g_kind q12_1 g_wide g_rows g_cells g_sun g_all g_firstColumn g_lastColumn) := hD
          refine lv_iinc (v := (x2 + 1)) (lv' := [(2, .int (x2 + 1)), (0, .ref a_t), (1, .int x1)]) hx hb dX3_goHours_59 hl (k := 2) rfl rfl (by decide) rfl (fun ls hl => ?_)
          refine lv_goto (tgt := 2) hx hb dX3_goHours_62 (by decide) ?_
          exact ih _ _ _ _ _ _ _ _ _ _ _ _ _ _ _ hf _ _ _ hP hD hS (lv_sub hl [1, 2, 0] rfl)
set_option maxHeartbeats 4000000 in
set_option maxRecDepth 100000 in
theorem ctX3_goHours (l : Launch) (D : va_G) (cI cS : ClassId) (a_t a_g a_g_kind a_g_wet : Nat) (t_hours : Int32) (t_opened : Int32) (t_firstWrong : Int32) (g_kind : Nat → Int32) (g_wet : Nat → Int32) (g_wide : Int32) (g_rows : Int32) (g_cells : Int32) (g_sun : Int32) (g_all : Int32) (g_firstColumn : Int32) (g_lastColumn : Int32) (p1 : Int32) (n : Nat) (t_hours' : Int32) (t_opened' : Int32) (g_wet' : Nat → Int32) (hf : fX3_goHours n t_hours t_opened g_kind g_wet g_wide g_cells g_sun g_all g_firstColumn g_lastColumn p1 = some (t_hours', t_opened', g_wet')) : Ct l D (tysA cI cS) yX3_goHours cX3_goHours 3 none (Rm 3) [.ref a_t, .int p1] (W_tg cI cS a_t a_g a_g_kind a_g_wet t_hours t_opened t_firstWrong g_kind g_wet g_wide g_rows g_cells g_sun g_all g_firstColumn g_lastColumn) none (W_tg cI cS a_t a_g a_g_kind a_g_wet t_hours' t_opened' t_firstWrong g_kind g_wet' g_wide g_rows g_cells g_sun g_all g_firstColumn g_lastColumn) := by
  refine Ct_of (by decide) (Nat.le_of_ble_eq_true rfl) ?_
  intro p e s m args below meth c A ls Cc hK hA hP hD hS hl
  have hl : lv_has ls 3 [(0, .ref a_t), (1, .int p1)] := hl
  obtain ⟨hx, hb, hr, hml, hown, hts, hlk, hnw⟩ := id Cc
  unfold fX3_goHours at hf
  refine lv_iconst (v := (0 : Int32)) hx hb dX3_goHours_0 (by decide) ?_
  refine lv_istore_n (lv' := [(2, .int (0 : Int32)), (0, .ref a_t), (1, .int p1)]) hx hb dX3_goHours_1 rfl hl (by decide) rfl (fun ls hl => ?_)
  exact bX3_goHours_2 a_t a_g a_g_kind a_g_wet t_firstWrong g_rows Cc hK hA n n _ _ _ _ _ _ _ _ _ _ _ _ _ _ _ hf _ _ _ hP hD hS (lv_sub hl [1, 2, 0] rfl)
-- X3_canDo
def fX3_canDo (n : Nat) (t_hours : Int32) (t_opened : Int32) (g_kind : Nat → Int32) (g_wet : Nat → Int32) (g_wide : Int32) (g_cells : Int32) (g_sun : Int32) (g_all : Int32) (g_firstColumn : Int32) (g_lastColumn : Int32) (p1 : Int32) (p2 : Int32) : Option (Int32 × Int32 × Int32 × (Nat → Int32) × Int32) := if p1 = (1 : Int32) then (fX0_pourOn n g_wet g_cells p2 (3 : Int32)).bind fun q11_1 => bz q11_1.1 (some (q11_1.1, t_hours, t_opened, q11_1.2, g_sun)) else if p1 = (2 : Int32) then some ((1 : Int32), t_hours, t_opened, g_wet, p2) else (fX3_goHours n t_hours t_opened g_kind g_wet g_wide g_cells g_sun g_all g_firstColumn g_lastColumn p2).bind fun q33_1 => some ((1 : Int32), q33_1.1, q33_1.2.1, q33_1.2.2, g_sun)
theorem mdX3_canDo : yX3_canDo.cls = RX3 ∧ yX3_canDo.cls ≠ "java/lang/invoke/MethodHandle" ∧ yX3_canDo.cls ≠ "java/lang/invoke/VarHandle" ∧ (parseMethodDescriptor yX3_canDo.desc).map (fun d => d.parameters.length) = some 2 := by decide +kernel
set_option maxHeartbeats 4000000 in
set_option maxRecDepth 100000 in
theorem ctX3_canDo (l : Launch) (D : va_G) (cI cS : ClassId) (a_t a_g a_g_kind a_g_wet : Nat) (t_hours : Int32) (t_opened : Int32) (t_firstWrong : Int32) (g_kind : Nat → Int32) (g_wet : Nat → Int32) (g_wide : Int32) (g_rows : Int32) (g_cells : Int32) (g_sun : Int32) (g_all : Int32) (g_firstColumn : Int32) (g_lastColumn : Int32) (p1 : Int32) (p2 : Int32) (n : Nat) (r : Int32) (t_hours' : Int32) (t_opened' : Int32) (g_wet' : Nat → Int32) (g_sun' : Int32) (hf : fX3_canDo n t_hours t_opened g_kind g_wet g_wide g_cells g_sun g_all g_firstColumn g_lastColumn p1 p2 = some (r, t_hours', t_opened', g_wet', g_sun')) : Ct l D (tysA cI cS) yX3_canDo cX3_canDo 3 (some .boolean) (Rm 4) [.ref a_t, .int p1, .int p2] (W_tg cI cS a_t a_g a_g_kind a_g_wet t_hours t_opened t_firstWrong g_kind g_wet g_wide g_rows g_cells g_sun g_all g_firstColumn g_lastColumn) (some (.int r)) (W_tg cI cS a_t a_g a_g_kind a_g_wet t_hours' t_opened' t_firstWrong g_kind g_wet' g_wide g_rows g_cells g_sun' g_all g_firstColumn g_lastColumn) := by
  refine Ct_of (by decide) (Nat.le_of_ble_eq_true rfl) ?_
  intro p e s m args below meth c A ls Cc hK hA hP hD hS hl
  have hl : lv_has ls 3 [(0, .ref a_t), (1, .int p1), (2, .int p2)] := hl
  obtain ⟨hx, hb, hr, hml, hown, hts, hlk, hnw⟩ := id Cc
  unfold fX3_canDo at hf
  refine lv_iload_n hx hb dX3_canDo_0 rfl (lv_at hl 1 rfl) ?_
  refine lv_iconst (v := (1 : Int32)) hx hb dX3_canDo_1 (by decide) ?_
  refine lv_icmp_ne (tgt := 15) hx hb dX3_canDo_2 (by decide) (fun hc1 => ?_) (fun hc1 => ?_)
  · replace hf := (if_neg hc1).symm.trans hf
    refine lv_iload_n hx hb dX3_canDo_15 rfl (lv_at hl 1 rfl) ?_
    refine lv_iconst (v := (2 : Int32)) hx hb dX3_canDo_16 (by decide) ?_
    refine lv_icmp_ne (tgt := 31) hx hb dX3_canDo_17 (by decide) (fun hc2 => ?_) (fun hc2 => ?_)
    · replace hf := (if_neg hc2).symm.trans hf
      refine lv_aload_n hx hb dX3_canDo_31 rfl (lv_at hl 0 rfl) ?_
      refine lv_iload_n hx hb dX3_canDo_32 rfl (lv_at hl 2 rfl) ?_
      obtain ⟨q33_1, hq3, hf⟩ := Option.bind_eq_some_iff.mp hf
      refine cV (ws' := (W_tg cI cS a_t a_g a_g_kind a_g_wet q33_1.1 q33_1.2.1 t_firstWrong g_kind q33_1.2.2 g_wide g_rows g_cells g_sun g_all g_firstColumn g_lastColumn)) (rest := []) (st1 := []) Cc hK hA hP hD hS hl.1 (ctX3_goHours l D cI cS a_t a_g a_g_kind a_g_wet t_hours t_opened t_firstWrong g_kind g_wet g_wide g_rows g_cells g_sun g_all g_firstColumn g_lastColumn p2 n q33_1.1 q33_1.2.1 q33_1.2.2 hq3) ⟨tw_336, tw_333, tw_335, tp_5, tw_3⟩ mdX3_goHours ⟨rfl, rfl, Nat.le_of_ble_eq_true rfl, Nat.le_of_ble_eq_true rfl⟩ rfl dX3_canDo_33 rfl (Nat.le_of_ble_eq_true rfl) ⟨Nat.zero_le _, Nat.zero_le _⟩ rfl rfl rfl [0, 1, 2, 3] [] [0, 1, 2, 3] rfl rfl (by decide) rfl (fun H locs hP hD hS => ?_)
      refine lv_iconst (v := (1 : Int32)) hx hb dX3_canDo_36 (by decide) ?_
      replace hf := Option.some.inj hf
      obtain ⟨er0, er1⟩ := Prod.mk.inj hf
      obtain ⟨er2, er3⟩ := Prod.mk.inj er1
      obtain ⟨er4, er5⟩ := Prod.mk.inj er3
      obtain ⟨er6, er7⟩ := Prod.mk.inj er5
      clear hf er1 er3 er5
      subst er0
      subst er2
      subst er4
      subst er6
      subst er7
      exact rt_z Cc (by decide) hK hP hD hS dX3_canDo_37
    · replace hf := (if_pos hc2).symm.trans hf
      refine lv_aload_n hx hb dX3_canDo_20 rfl (lv_at hl 0 rfl) ?_
      refine va_get (D := D) (ci := 3) (v := .ref a_g) (C := RX3) (T := TX3) (N := 4) hx hb hts inX3 hown hK hP 0 rfl rfl 0 (by decide) (hts _ tw_70) (fun _ h9 => h9) rfl dX3_canDo_21 ?_
      refine lv_iload_n hx hb dX3_canDo_24 rfl (lv_at hl 2 rfl) ?_
      refine va_putN (D := D) (ci := 0) (v := .int p2) (ty := .int) (C := RX0) (T := TX0) (N := 9) hx hb hts inX0 tyX0 tyX0_ok nmX0 hown hK hP hD hS 1 rfl rfl 5 (by decide) (va_Nw.use rfl (hnw _ nn_6)) (fun _ h9 => h9) rfl (tyX0_ok 5 (by decide)) rfl rfl (Nat.le_of_ble_eq_true rfl) dX3_canDo_25 (fun H locs hP hD hS => ?_)
      have hP : va_P D classes (W_tg cI cS a_t a_g a_g_kind a_g_wet t_hours t_opened t_firstWrong g_kind g_wet g_wide g_rows g_cells p2 g_all g_firstColumn g_lastColumn) H := hP
      have hD : va_D A (W_tg cI cS a_t a_g a_g_kind a_g_wet t_hours t_opened t_firstWrong g_kind g_wet g_wide g_rows g_cells p2 g_all g_firstColumn g_lastColumn) := hD
      refine lv_goto (tgt := 36) hx hb dX3_canDo_28 (by decide) ?_
      refine lv_iconst (v := (1 : Int32)) hx hb dX3_canDo_36 (by decide) ?_
      replace hf := Option.some.inj hf
      obtain ⟨er0, er1⟩ := Prod.mk.inj hf
      obtain ⟨er2, er3⟩ := Prod.mk.inj er1
      obtain ⟨er4, er5⟩ := Prod.mk.inj er3
      obtain ⟨er6, er7⟩ := Prod.mk.inj er5
      clear hf er1 er3 er5
      subst er0
      subst er2
      subst er4
      subst er6
      subst er7
      exact rt_z Cc (by decide) hK hP hD hS dX3_canDo_37
  · replace hf := (if_pos hc1).symm.trans hf
    refine lv_aload_n hx hb dX3_canDo_5 rfl (lv_at hl 0 rfl) ?_
    refine va_get (D := D) (ci := 3) (v := .ref a_g) (C := RX3) (T := TX3) (N := 4) hx hb hts inX3 hown hK hP 0 rfl rfl 0 (by decide) (hts _ tw_70) (fun _ h9 => h9) rfl dX3_canDo_6 ?_
    refine lv_iload_n hx hb dX3_canDo_9 rfl (lv_at hl 2 rfl) ?_
    refine lv_iconst (v := (3 : Int32)) hx hb dX3_canDo_10 (by decide) ?_
    obtain ⟨q11_1, hq4, hf⟩ := Option.bind_eq_some_iff.mp hf
    refine cV (ws' := (W_tg cI cS a_t a_g a_g_kind a_g_wet t_hours t_opened t_firstWrong g_kind q11_1.2 g_wide g_rows g_cells g_sun g_all g_firstColumn g_lastColumn)) (rest := []) (st1 := [.int q11_1.1]) Cc hK hA hP hD hS hl.1 (ctX0_pourOn l D cI cS a_g a_g_kind a_g_wet g_kind g_wet g_wide g_rows g_cells g_sun g_all g_firstColumn g_lastColumn p2 (3 : Int32) n q11_1.1 q11_1.2 hq4) ⟨tw_277, tw_332, tw_275, tw_276, tw_2⟩ mdX0_pourOn ⟨rfl, rfl, Nat.le_of_ble_eq_true rfl, Nat.le_of_ble_eq_true rfl⟩ rfl dX3_canDo_11 rfl (Nat.le_of_ble_eq_true rfl) ⟨Nat.zero_le _, Nat.zero_le _⟩ rfl rfl rfl [1, 2, 3] [0] [0, 1, 2, 3] rfl rfl (by decide) rfl (fun H locs hP hD hS => ?_)
    obtain ⟨hz, hf⟩ := bz_some hf
    replace hf := Option.some.inj hf
    obtain ⟨er0, er1⟩ := Prod.mk.inj hf
    obtain ⟨er2, er3⟩ := Prod.mk.inj er1
    obtain ⟨er4, er5⟩ := Prod.mk.inj er3
    obtain ⟨er6, er7⟩ := Prod.mk.inj er5
    clear hf er1 er3 er5
    subst er0
    subst er2
    subst er4
    subst er6
    subst er7
    exact rt_z Cc hz hK hP hD hS dX3_canDo_14
-- X3_follow
def fX3_follow_49 (n : Nat) : Nat → Int32 → Int32 → Int32 → (Nat → Int32) → (Nat → Int32) → Int32 → Int32 → Int32 → Int32 → Int32 → Int32 → Int32 → (Nat → Int32) → (Nat → Int32) → Int32 → Int32 → Int32 → Int32 → Int32 → Int32 → Int32 → (Nat → Int32) → Int32 → Int32 → Int32 → Int32 → Option (Int32 × Int32 × Int32 × (Nat → Int32) × (Nat → Int32) × Int32 × Int32 × Int32 × Int32 × Int32 × Int32 × Int32)
  | 0, _, _, _, _, _, _, _, _, _, _, _, _, _, _, _, _, _, _, _, _, _, _, _, _, _, _ => none
  | k + 1, t_hours, t_opened, t_firstWrong, g_kind, g_wet, g_wide, g_rows, g_cells, g_sun, g_all, g_firstColumn, g_lastColumn, f_kind, f_wet, f_wide, f_rows, f_cells, f_sun, f_all, f_firstColumn, f_lastColumn, s_row, s_length, x3, x4, x5 => if x4 ≤ x5 then some (t_hours, t_opened, t_firstWrong, g_kind, g_wet, g_wide, g_rows, g_cells, g_sun, g_all, g_firstColumn, g_lastColumn) else if t_firstWrong = (-9 : Int32) then (fX2_codeAt n s_row s_length (x3 + ((2 : Int32) * x5))).bind fun q73_1 => (fX2_codeAt n s_row s_length ((x3 + ((2 : Int32) * x5)) + (1 : Int32))).bind fun q85_2 => (fX3_canDo n t_hours t_opened g_kind g_wet g_wide g_cells g_sun g_all g_firstColumn g_lastColumn q73_1 q85_2).bind fun q88_3 => if q88_3.1 = 0 then fX3_follow_49 n k q88_3.2.1 q88_3.2.2.1 x5 g_kind q88_3.2.2.2.1 g_wide g_rows g_cells q88_3.2.2.2.2 g_all g_firstColumn g_lastColumn f_kind f_wet f_wide f_rows f_cells f_sun f_all f_firstColumn f_lastColumn s_row s_length x3 x4 (x5 + 1) else fX3_follow_49 n k q88_3.2.1 q88_3.2.2.1 t_firstWrong g_kind q88_3.2.2.2.1 g_wide g_rows g_cells q88_3.2.2.2.2 g_all g_firstColumn g_lastColumn f_kind f_wet f_wide f_rows f_cells f_sun f_all f_firstColumn f_lastColumn s_row s_length x3 x4 (x5 + 1) else some (t_hours, t_opened, t_firstWrong, g_kind, g_wet, g_wide, g_rows, g_cells, g_sun, g_all, g_firstColumn, g_lastColumn)
def fX3_follow_37 (n : Nat) (t_hours : Int32) (t_opened : Int32) (t_firstWrong : Int32) (g_kind : Nat → Int32) (g_wet : Nat → Int32) (g_wide : Int32) (g_rows : Int32) (g_cells : Int32) (g_sun : Int32) (g_all : Int32) (g_firstColumn : Int32) (g_lastColumn : Int32) (f_kind : Nat → Int32) (f_wet : Nat → Int32) (f_wide : Int32) (f_rows : Int32) (f_cells : Int32) (f_sun : Int32) (f_all : Int32) (f_firstColumn : Int32) (f_lastColumn : Int32) (s_row : Nat → Int32) (s_length : Int32) (x3 : Int32) (x4 : Int32) (y0 : Int32) : Option (Int32 × Int32 × Int32 × (Nat → Int32) × (Nat → Int32) × Int32 × Int32 × Int32 × Int32 × Int32 × Int32 × Int32) := fX3_follow_49 n n t_hours y0 (-9 : Int32) g_kind g_wet g_wide g_rows g_cells g_sun g_all g_firstColumn g_lastColumn f_kind f_wet f_wide f_rows f_cells f_sun f_all f_firstColumn f_lastColumn s_row s_length x3 x4 (0 : Int32)
def fX3_follow (n : Nat) (t_hours : Int32) (t_opened : Int32) (t_firstWrong : Int32) (g_kind : Nat → Int32) (g_wet : Nat → Int32) (g_wide : Int32) (g_rows : Int32) (g_cells : Int32) (g_sun : Int32) (g_all : Int32) (g_firstColumn : Int32) (g_lastColumn : Int32) (f_kind : Nat → Int32) (f_wet : Nat → Int32) (f_wide : Int32) (f_rows : Int32) (f_cells : Int32) (f_sun : Int32) (f_all : Int32) (f_firstColumn : Int32) (f_lastColumn : Int32) (s_row : Nat → Int32) (s_length : Int32) (p3 : Int32) (p4 : Int32) : Option (Int32 × Int32 × Int32 × (Nat → Int32) × (Nat → Int32) × Int32 × Int32 × Int32 × Int32 × Int32 × Int32 × Int32) := (fX0_becomeLike n g_kind g_wet g_wide g_rows g_cells g_sun g_all g_firstColumn g_lastColumn f_kind f_wet f_wide f_rows f_cells f_sun f_all f_firstColumn f_lastColumn).bind fun q5_1 => (fX0_crackedSet n q5_1.2.1 q5_1.2.2.2.2.1).bind fun q22_2 => (fX0_isOpenBy n q5_1.2.2.1 q5_1.2.2.2.2.1 q5_1.2.2.2.2.2.2.1 q5_1.2.2.2.2.2.2.2.1 q5_1.2.2.2.2.2.2.2.2 q22_2).bind fun q25_3 => if q25_3 = 0 then fX3_follow_37 n (0 : Int32) t_opened t_firstWrong q5_1.1 q5_1.2.1 q5_1.2.2.1 q5_1.2.2.2.1 q5_1.2.2.2.2.1 q5_1.2.2.2.2.2.1 q5_1.2.2.2.2.2.2.1 q5_1.2.2.2.2.2.2.2.1 q5_1.2.2.2.2.2.2.2.2 f_kind f_wet f_wide f_rows f_cells f_sun f_all f_firstColumn f_lastColumn s_row s_length p3 p4 (-9 : Int32) else fX3_follow_37 n (0 : Int32) t_opened t_firstWrong q5_1.1 q5_1.2.1 q5_1.2.2.1 q5_1.2.2.2.1 q5_1.2.2.2.2.1 q5_1.2.2.2.2.2.1 q5_1.2.2.2.2.2.2.1 q5_1.2.2.2.2.2.2.2.1 q5_1.2.2.2.2.2.2.2.2 f_kind f_wet f_wide f_rows f_cells f_sun f_all f_firstColumn f_lastColumn s_row s_length p3 p4 (0 : Int32)
theorem mdX3_follow : yX3_follow.cls = RX3 ∧ yX3_follow.cls ≠ "java/lang/invoke/MethodHandle" ∧ yX3_follow.cls ≠ "java/lang/invoke/VarHandle" ∧ (parseMethodDescriptor yX3_follow.desc).map (fun d => d.parameters.length) = some 4 := by decide +kernel
set_option maxHeartbeats 4000000 in
set_option maxRecDepth 100000 in
theorem bX3_follow_49 {p : Program} {l : Launch} {e : Env} {s : State} {m : MethodId} {args : Array Value} {below : List Frame} {meth : Method} {c : Code} {A : Nat → Prop} {D : va_G} {cI cS : ClassId} (a_t a_g a_g_kind a_g_wet a_f a_f_kind a_f_wet a_s a_s_row : Nat) (s_lane : Int32) (Cc : Cx p s m args meth c RX3 cX3_follow 6 none) (hK : va_K D classes (tysA cI cS) s) (hA : ∀ q, s.heap.size ≤ q → A q) (n : Nat) : ∀ (k : Nat) (t_hours : Int32) (t_opened : Int32) (t_firstWrong : Int32) (g_kind : Nat → Int32) (g_wet : Nat → Int32) (g_wide : Int32) (g_rows : Int32) (g_cells : Int32) (g_sun : Int32) (g_all : Int32) (g_firstColumn : Int32) (g_lastColumn : Int32) (f_kind : Nat → Int32) (f_wet : Nat → Int32) (f_wide : Int32) (f_rows : Int32) (f_cells : Int32) (f_sun : Int32) (f_all : Int32) (f_firstColumn : Int32) (f_lastColumn : Int32) (s_row : Nat → Int32) (s_length : Int32) (x3 : Int32) (x4 : Int32) (x5 : Int32) (t_hours' : Int32) (t_opened' : Int32) (t_firstWrong' : Int32) (g_kind' : Nat → Int32) (g_wet' : Nat → Int32) (g_wide' : Int32) (g_rows' : Int32) (g_cells' : Int32) (g_sun' : Int32) (g_all' : Int32) (g_firstColumn' : Int32) (g_lastColumn' : Int32), fX3_follow_49 n k t_hours t_opened t_firstWrong g_kind g_wet g_wide g_rows g_cells g_sun g_all g_firstColumn g_lastColumn f_kind f_wet f_wide f_rows f_cells f_sun f_all f_firstColumn f_lastColumn s_row s_length x3 x4 x5 = some (t_hours', t_opened', t_firstWrong', g_kind', g_wet', g_wide', g_rows', g_cells', g_sun', g_all', g_firstColumn', g_lastColumn') → ∀ (H : Heap) (locs : List Loc) (ls : Array Slot), va_P D classes (W_tgfs cI cS a_t a_g a_g_kind a_g_wet a_f a_f_kind a_f_wet a_s a_s_row t_hours t_opened t_firstWrong g_kind g_wet g_wide g_rows g_cells g_sun g_all g_firstColumn g_lastColumn f_kind f_wet f_wide f_rows f_cells f_sun f_all f_firstColumn f_lastColumn s_row s_lane s_length) H → va_D A (W_tgfs cI cS a_t a_g a_g_kind a_g_wet a_f a_f_kind a_f_wet a_s a_s_row t_hours t_opened t_firstWrong g_kind g_wet g_wide g_rows g_cells g_sun g_all g_firstColumn g_lastColumn f_kind f_wet f_wide f_rows f_cells f_sun f_all f_firstColumn f_lastColumn s_row s_lane s_length) → va_S A s.heap H locs → lv_has ls 6 [(0, .ref a_t), (2, .ref a_s), (3, .int x3), (4, .int x4), (5, .int x5)] → W p l e (Rm 5) s m args below meth c H locs 0 0 (MQ below (QW D (tysA cI cS) none (W_tgfs cI cS a_t a_g a_g_kind a_g_wet a_f a_f_kind a_f_wet a_s a_s_row t_hours' t_opened' t_firstWrong' g_kind' g_wet' g_wide' g_rows' g_cells' g_sun' g_all' g_firstColumn' g_lastColumn' f_kind f_wet f_wide f_rows f_cells f_sun f_all f_firstColumn f_lastColumn s_row s_lane s_length) A) args s 0 0 A) (F0 m 49 ls []) := by
  obtain ⟨hx, hb, hr, hml, hown, hts, hlk, hnw⟩ := id Cc
  intro k
  induction k with
  | zero =>
    intro t_hours t_opened t_firstWrong g_kind g_wet g_wide g_rows g_cells g_sun g_all g_firstColumn g_lastColumn f_kind f_wet f_wide f_rows f_cells f_sun f_all f_firstColumn f_lastColumn s_row s_length x3 x4 x5 t_hours' t_opened' t_firstWrong' g_kind' g_wet' g_wide' g_rows' g_cells' g_sun' g_all' g_firstColumn' g_lastColumn' hf
    rw [fX3_follow_49] at hf
    cases hf
  | succ k ih =>
    intro t_hours t_opened t_firstWrong g_kind g_wet g_wide g_rows g_cells g_sun g_all g_firstColumn g_lastColumn f_kind f_wet f_wide f_rows f_cells f_sun f_all f_firstColumn f_lastColumn s_row s_length x3 x4 x5 t_hours' t_opened' t_firstWrong' g_kind' g_wet' g_wide' g_rows' g_cells' g_sun' g_all' g_firstColumn' g_lastColumn' hf H locs ls hP hD hS hl
    rw [fX3_follow_49] at hf
    refine lv_iload hx hb dX3_follow_49 (lv_at hl 4 rfl) ?_
    refine lv_iload hx hb dX3_follow_51 (lv_at hl 3 rfl) ?_
    refine lv_icmp_ge (tgt := 106) hx hb dX3_follow_53 (by decide) (fun hc5 => ?_) (fun hc5 => ?_)
    · replace hf := (if_pos hc5).symm.trans hf
      replace hf := Option.some.inj hf
      obtain ⟨er0, er1⟩ := Prod.mk.inj hf
      obtain ⟨er2, er3⟩ := Prod.mk.inj er1
      obtain ⟨er4, er5⟩ := Prod.mk.inj er3
      obtain ⟨er6, er7⟩ := Prod.mk.inj er5
      obtain ⟨er8, er9⟩ := Prod.mk.inj er7
      obtain ⟨er10, er11⟩ := Prod.mk.inj er9
      obtain ⟨er12, er13⟩ := Prod.mk.inj er11
      obtain ⟨er14, er15⟩ := Prod.mk.inj er13
      obtain ⟨er16, er17⟩ := Prod.mk.inj er15
      obtain ⟨er18, er19⟩ := Prod.mk.inj er17
      obtain ⟨er20, er21⟩ := Prod.mk.inj er19
      clear hf er1 er3 er5 er7 er9 er11 er13 er15 er17 er19
      subst er0
      subst er2
      subst er4
      subst er6
      subst er8
      subst er10
      subst er12
      subst er14
      subst er16
      subst er18
      subst er20
      subst er21
      exact rt_v Cc hK hP hD hS dX3_follow_106
    · replace hf := (if_neg hc5).symm.trans hf
      refine lv_aload_n hx hb dX3_follow_56 rfl (lv_at hl 0 rfl) ?_
      refine va_get (D := D) (ci := 3) (v := .int t_firstWrong) (C := RX3) (T := TX3) (N := 4) hx hb hts inX3 hown hK hP 0 rfl rfl 3 (by decide) (hts _ tw_74) (fun _ h9 => h9) rfl dX3_follow_57 ?_
      refine lv_bipush (v := (-9 : Int32)) hx hb dX3_follow_60 (by decide) ?_
      refine lv_icmp_ne (tgt := 106) hx hb dX3_follow_62 (by decide) (fun hc6 => ?_) (fun hc6 => ?_)
      · replace hf := (if_neg hc6).symm.trans hf
        replace hf := Option.some.inj hf
        obtain ⟨er0, er1⟩ := Prod.mk.inj hf
        obtain ⟨er2, er3⟩ := Prod.mk.inj er1
        obtain ⟨er4, er5⟩ := Prod.mk.inj er3
        obtain ⟨er6, er7⟩ := Prod.mk.inj er5
        obtain ⟨er8, er9⟩ := Prod.mk.inj er7
        obtain ⟨er10, er11⟩ := Prod.mk.inj er9
        obtain ⟨er12, er13⟩ := Prod.mk.inj er11
        obtain ⟨er14, er15⟩ := Prod.mk.inj er13
        obtain ⟨er16, er17⟩ := Prod.mk.inj er15
        obtain ⟨er18, er19⟩ := Prod.mk.inj er17
        obtain ⟨er20, er21⟩ := Prod.mk.inj er19
        clear hf er1 er3 er5 er7 er9 er11 er13 er15 er17 er19
        subst er0
        subst er2
        subst er4
        subst er6
        subst er8
        subst er10
        subst er12
        subst er14
        subst er16
        subst er18
        subst er20
        subst er21
        exact rt_v Cc hK hP hD hS dX3_follow_106
      · replace hf := (if_pos hc6).symm.trans hf
        refine lv_aload_n hx hb dX3_follow_65 rfl (lv_at hl 0 rfl) ?_
        refine lv_aload_n hx hb dX3_follow_66 rfl (lv_at hl 1 rfl) ?_
        refine lv_iload_n hx hb dX3_follow_67 rfl (lv_at hl 2 rfl) ?_
        refine lv_iconst (v := (2 : Int32)) hx hb dX3_follow_68 (by decide) ?_
        refine lv_iload hx hb dX3_follow_69 (lv_at hl 4 rfl) ?_
        refine lv_imul hx hb dX3_follow_71 ?_
        refine lv_iadd hx hb dX3_follow_72 ?_
        obtain ⟨q73_1, hq7, hf⟩ := Option.bind_eq_some_iff.mp hf
        refine cV (ws' := (W_tgfs cI cS a_t a_g a_g_kind a_g_wet a_f a_f_kind a_f_wet a_s a_s_row t_hours t_opened t_firstWrong g_kind g_wet g_wide g_rows g_cells g_sun g_all g_firstColumn g_lastColumn f_kind f_wet f_wide f_rows f_cells f_sun f_all f_firstColumn f_lastColumn s_row s_lane s_length)) (rest := [.ref a_t]) (st1 := [.int q73_1, .ref a_t]) Cc hK hA hP hD hS hl.1 (ctX2_codeAt l D cI cS a_s a_s_row s_row s_lane s_length (x3 + ((2 : Int32) * x5)) n q73_1 hq7) ⟨tw_183, tw_327, tw_181, tw_182, tw_5⟩ mdX2_codeAt ⟨rfl, rfl, Nat.le_of_ble_eq_true rfl, Nat.le_of_ble_eq_true rfl⟩ rfl dX3_follow_73 rfl (Nat.le_of_ble_eq_true rfl) ⟨Nat.zero_le _, Nat.zero_le _⟩ rfl rfl rfl [7, 8] [0, 1, 2, 3, 4, 5, 6] [0, 1, 2, 3, 4, 5, 6, 7, 8] rfl rfl (by decide) rfl (fun H locs hP hD hS => ?_)
        refine lv_aload_n hx hb dX3_follow_76 rfl (lv_at hl 1 rfl) ?_
        refine lv_iload_n hx hb dX3_follow_77 rfl (lv_at hl 2 rfl) ?_
        refine lv_iconst (v := (2 : Int32)) hx hb dX3_follow_78 (by decide) ?_
        refine lv_iload hx hb dX3_follow_79 (lv_at hl 4 rfl) ?_
        refine lv_imul hx hb dX3_follow_81 ?_
        refine lv_iadd hx hb dX3_follow_82 ?_
        refine lv_iconst (v := (1 : Int32)) hx hb dX3_follow_83 (by decide) ?_
        refine lv_iadd hx hb dX3_follow_84 ?_
        obtain ⟨q85_2, hq8, hf⟩ := Option.bind_eq_some_iff.mp hf
        refine cV (ws' := (W_tgfs cI cS a_t a_g a_g_kind a_g_wet a_f a_f_kind a_f_wet a_s a_s_row t_hours t_opened t_firstWrong g_kind g_wet g_wide g_rows g_cells g_sun g_all g_firstColumn g_lastColumn f_kind f_wet f_wide f_rows f_cells f_sun f_all f_firstColumn f_lastColumn s_row s_lane s_length)) (rest := [.int q73_1, .ref a_t]) (st1 := [.int q85_2, .int q73_1, .ref a_t]) Cc hK hA hP hD hS hl.1 (ctX2_codeAt l D cI cS a_s a_s_row s_row s_lane s_length ((x3 + ((2 : Int32) * x5)) + (1 : Int32)) n q85_2 hq8) ⟨tw_183, tw_327, tw_181, tw_182, tw_5⟩ mdX2_codeAt ⟨rfl, rfl, Nat.le_of_ble_eq_true rfl, Nat.le_of_ble_eq_true rfl⟩ rfl dX3_follow_85 rfl (Nat.le_of_ble_eq_true rfl) ⟨Nat.zero_le _, Nat.zero_le _⟩ rfl rfl rfl [7, 8] [0, 1, 2, 3, 4, 5, 6] [0, 1, 2, 3, 4, 5, 6, 7, 8] rfl rfl (by decide) rfl (fun H locs hP hD hS => ?_)
        obtain ⟨q88_3, hq9, hf⟩ := Option.bind_eq_some_iff.mp hf
        refine cV (ws' := (W_tgfs cI cS a_t a_g a_g_kind a_g_wet a_f a_f_kind a_f_wet a_s a_s_row q88_3.2.1 q88_3.2.2.1 t_firstWrong g_kind q88_3.2.2.2.1 g_wide g_rows g_cells q88_3.2.2.2.2 g_all g_firstColumn g_lastColumn f_kind f_wet f_wide f_rows f_cells f_sun f_all f_firstColumn f_lastColumn s_row s_lane s_length)) (rest := []) (st1 := [.int q88_3.1]) Cc hK hA hP hD hS hl.1 (ctX3_canDo l D cI cS a_t a_g a_g_kind a_g_wet t_hours t_opened t_firstWrong g_kind g_wet g_wide g_rows g_cells g_sun g_all g_firstColumn g_lastColumn q73_1 q85_2 n q88_3.1 q88_3.2.1 q88_3.2.2.1 q88_3.2.2.2.1 q88_3.2.2.2.2 hq9) ⟨tw_331, tw_328, tw_330, tp_4, tw_3⟩ mdX3_canDo ⟨rfl, rfl, Nat.le_of_ble_eq_true rfl, Nat.le_of_ble_eq_true rfl⟩ rfl dX3_follow_88 rfl (Nat.le_of_ble_eq_true rfl) ⟨Nat.zero_le _, Nat.zero_le _⟩ rfl rfl rfl [0, 1, 2, 3] [4, 5, 6, 7, 8] [5, 6, 7, 8, 0, 1, 2, 3, 4] rfl rfl (by decide) rfl (fun H locs hP hD hS => ?_)
        refine lv_if_ne (tgt := 100) hx hb dX3_follow_91 (by decide) (fun hc10 => ?_) (fun hc10 => ?_)
        · replace hf := (if_neg hc10).symm.trans hf
          refine lv_iinc (v := (x5 + 1)) (lv' := [(5, .int (x5 + 1)), (0, .ref a_t), (2, .ref a_s), (3, .int x3), (4, .int x4)]) hx hb dX3_follow_100 hl (k := 4) rfl rfl (by decide) rfl (fun ls hl => ?_)
          refine lv_goto (tgt := 49) hx hb dX3_follow_103 (by decide) ?_
          exact ih _ _ _ _ _ _ _ _ _ _ _ _ _ _ _ _ _ _ _ _ _ _ _ _ _ _ _ _ _ _ _ _ _ _ _ _ _ _ hf _ _ _ hP hD hS (lv_sub hl [1, 2, 3, 4, 0] rfl)
        · replace hf := (if_pos hc10).symm.trans hf
          refine lv_aload_n hx hb dX3_follow_94 rfl (lv_at hl 0 rfl) ?_
          refine lv_iload hx hb dX3_follow_95 (lv_at hl 4 rfl) ?_
          refine va_put (D := D) (ci := 3) (v := .int x5) (ty := .int) (C := RX3) (T := TX3) (N := 4) hx hb hts inX3 tyX3 tyX3_ok nmX3 hown hK hP hD hS 0 rfl rfl 3 (by decide) (hts _ tw_74) (fun _ h9 => h9) rfl (tyX3_ok 3 (by decide)) rfl rfl (Nat.le_of_ble_eq_true rfl) dX3_follow_97 (fun H locs hP hD hS => ?_)
          have hP : va_P D classes (W_tgfs cI cS a_t a_g a_g_kind a_g_wet a_f a_f_kind a_f_wet a_s a_s_row q88_3.2.1 q88_3.2.2.1 x5 g_kind q88_3.2.2.2.1 g_wide g_rows g_cells q88_3.2.2.2.2 g_all g_firstColumn g_lastColumn f_kind f_wet f_wide f_rows f_cells f_sun f_all f_firstColumn f_lastColumn s_row s_lane s_length) H := hP
          have hD : va_D A (W_tgfs cI cS a_t a_g a_g_kind a_g_wet a_f a_f_kind a_f_wet a_s a_s_row q88_3.2.1 q88_3.2.2.1 x5 g_kind q88_3.2.2.2.1 g_wide g_rows g_cells q88_3.2.2.2.2 g_all g_firstColumn g_lastColumn f_kind f_wet f_wide f_rows f_cells f_sun f_all f_firstColumn f_lastColumn s_row s_lane s_length) := hD
          refine lv_iinc (v := (x5 + 1)) (lv' := [(5, .int (x5 + 1)), (0, .ref a_t), (2, .ref a_s), (3, .int x3), (4, .int x4)]) hx hb dX3_follow_100 hl (k := 4) rfl rfl (by decide) rfl (fun ls hl => ?_)
          refine lv_goto (tgt := 49) hx hb dX3_follow_103 (by decide) ?_
          exact ih _ _ _ _ _ _ _ _ _ _ _ _ _ _ _ _ _ _ _ _ _ _ _ _ _ _ _ _ _ _ _ _ _ _ _ _ _ _ hf _ _ _ hP hD hS (lv_sub hl [1, 2, 3, 4, 0] rfl)
set_option maxHeartbeats 4000000 in
set_option maxRecDepth 100000 in
theorem bX3_follow_37 {p : Program} {l : Launch} {e : Env} {s : State} {m : MethodId} {args : Array Value} {below : List Frame} {meth : Method} {c : Code} {A : Nat → Prop} {D : va_G} {cI cS : ClassId} (a_t a_g a_g_kind a_g_wet a_f a_f_kind a_f_wet a_s a_s_row : Nat) (s_lane : Int32) (Cc : Cx p s m args meth c RX3 cX3_follow 6 none) (hK : va_K D classes (tysA cI cS) s) (hA : ∀ q, s.heap.size ≤ q → A q) (n : Nat) : ∀ (t_hours : Int32) (t_opened : Int32) (t_firstWrong : Int32) (g_kind : Nat → Int32) (g_wet : Nat → Int32) (g_wide : Int32) (g_rows : Int32) (g_cells : Int32) (g_sun : Int32) (g_all : Int32) (g_firstColumn : Int32) (g_lastColumn : Int32) (f_kind : Nat → Int32) (f_wet : Nat → Int32) (f_wide : Int32) (f_rows : Int32) (f_cells : Int32) (f_sun : Int32) (f_all : Int32) (f_firstColumn : Int32) (f_lastColumn : Int32) (s_row : Nat → Int32) (s_length : Int32) (x3 : Int32) (x4 : Int32) (y0 : Int32) (t_hours' : Int32) (t_opened' : Int32) (t_firstWrong' : Int32) (g_kind' : Nat → Int32) (g_wet' : Nat → Int32) (g_wide' : Int32) (g_rows' : Int32) (g_cells' : Int32) (g_sun' : Int32) (g_all' : Int32) (g_firstColumn' : Int32) (g_lastColumn' : Int32), fX3_follow_37 n t_hours t_opened t_firstWrong g_kind g_wet g_wide g_rows g_cells g_sun g_all g_firstColumn g_lastColumn f_kind f_wet f_wide f_rows f_cells f_sun f_all f_firstColumn f_lastColumn s_row s_length x3 x4 y0 = some (t_hours', t_opened', t_firstWrong', g_kind', g_wet', g_wide', g_rows', g_cells', g_sun', g_all', g_firstColumn', g_lastColumn') → ∀ (H : Heap) (locs : List Loc) (ls : Array Slot), va_P D classes (W_tgfs cI cS a_t a_g a_g_kind a_g_wet a_f a_f_kind a_f_wet a_s a_s_row t_hours t_opened t_firstWrong g_kind g_wet g_wide g_rows g_cells g_sun g_all g_firstColumn g_lastColumn f_kind f_wet f_wide f_rows f_cells f_sun f_all f_firstColumn f_lastColumn s_row s_lane s_length) H → va_D A (W_tgfs cI cS a_t a_g a_g_kind a_g_wet a_f a_f_kind a_f_wet a_s a_s_row t_hours t_opened t_firstWrong g_kind g_wet g_wide g_rows g_cells g_sun g_all g_firstColumn g_lastColumn f_kind f_wet f_wide f_rows f_cells f_sun f_all f_firstColumn f_lastColumn s_row s_lane s_length) → va_S A s.heap H locs → lv_has ls 6 [(0, .ref a_t), (2, .ref a_s), (3, .int x3), (4, .int x4)] → W p l e (Rm 5) s m args below meth c H locs 0 0 (MQ below (QW D (tysA cI cS) none (W_tgfs cI cS a_t a_g a_g_kind a_g_wet a_f a_f_kind a_f_wet a_s a_s_row t_hours' t_opened' t_firstWrong' g_kind' g_wet' g_wide' g_rows' g_cells' g_sun' g_all' g_firstColumn' g_lastColumn' f_kind f_wet f_wide f_rows f_cells f_sun f_all f_firstColumn f_lastColumn s_row s_lane s_length) A) args s 0 0 A) (F0 m 37 ls [.int y0, .ref a_t]) := by
  obtain ⟨hx, hb, hr, hml, hown, hts, hlk, hnw⟩ := id Cc
  intro t_hours t_opened t_firstWrong g_kind g_wet g_wide g_rows g_cells g_sun g_all g_firstColumn g_lastColumn f_kind f_wet f_wide f_rows f_cells f_sun f_all f_firstColumn f_lastColumn s_row s_length x3 x4 y0 t_hours' t_opened' t_firstWrong' g_kind' g_wet' g_wide' g_rows' g_cells' g_sun' g_all' g_firstColumn' g_lastColumn' hf H locs ls hP hD hS hl
  unfold fX3_follow_37 at hf
  refine va_put (D := D) (ci := 3) (v := .int y0) (ty := .int) (C := RX3) (T := TX3) (N := 4) hx hb hts inX3 tyX3 tyX3_ok nmX3 hown hK hP hD hS 0 rfl rfl 2 (by decide) (hts _ tw_73) (fun _ h9 => h9) rfl (tyX3_ok 2 (by decide)) rfl rfl (Nat.le_of_ble_eq_true rfl) dX3_follow_37 (fun H locs hP hD hS => ?_)
  have hP : va_P D classes (W_tgfs cI cS a_t a_g a_g_kind a_g_wet a_f a_f_kind a_f_wet a_s a_s_row t_hours y0 t_firstWrong g_kind g_wet g_wide g_rows g_cells g_sun g_all g_firstColumn g_lastColumn f_kind f_wet f_wide f_rows f_cells f_sun f_all f_firstColumn f_lastColumn s_row s_lane s_length) H := hP
  have hD : va_D A (W_tgfs cI cS a_t a_g a_g_kind a_g_wet a_f a_f_kind a_f_wet a_s a_s_row t_hours y0 t_firstWrong g_kind g_wet g_wide g_rows g_cells g_sun g_all g_firstColumn g_lastColumn f_kind f_wet f_wide f_rows f_cells f_sun f_all f_firstColumn f_lastColumn s_row s_lane s_length) := hD
  refine lv_aload_n hx hb dX3_follow_40 rfl (lv_at hl 0 rfl) ?_
  refine lv_bipush (v := (-9 : Int32)) hx hb dX3_follow_41 (by decide) ?_
  refine va_put (D := D) (ci := 3) (v := .int (-9 : Int32)) (ty := .int) (C := RX3) (T := TX3) (N := 4) hx hb hts inX3 tyX3 tyX3_ok nmX3 hown hK hP hD hS 0 rfl rfl 3 (by decide) (hts _ tw_74) (fun _ h9 => h9) rfl (tyX3_ok 3 (by decide)) rfl rfl (Nat.le_of_ble_eq_true rfl) dX3_follow_43 (fun H locs hP hD hS => ?_)
  have hP : va_P D classes (W_tgfs cI cS a_t a_g a_g_kind a_g_wet a_f a_f_kind a_f_wet a_s a_s_row t_hours y0 (-9 : Int32) g_kind g_wet g_wide g_rows g_cells g_sun g_all g_firstColumn g_lastColumn f_kind f_wet f_wide f_rows f_cells f_sun f_all f_firstColumn f_lastColumn s_row s_lane s_length) H := hP
  have hD : va_D A (W_tgfs cI cS a_t a_g a_g_kind a_g_wet a_f a_f_kind a_f_wet a_s a_s_row t_hours y0 (-9 : Int32) g_kind g_wet g_wide g_rows g_cells g_sun g_all g_firstColumn g_lastColumn f_kind f_wet f_wide f_rows f_cells f_sun f_all f_firstColumn f_lastColumn s_row s_lane s_length) := hD
  refine lv_iconst (v := (0 : Int32)) hx hb dX3_follow_46 (by decide) ?_
  refine lv_istore (lv' := [(5, .int (0 : Int32)), (0, .ref a_t), (2, .ref a_s), (3, .int x3), (4, .int x4)]) hx hb dX3_follow_47 hl (by decide) rfl (fun ls hl => ?_)
  exact bX3_follow_49 a_t a_g a_g_kind a_g_wet a_f a_f_kind a_f_wet a_s a_s_row s_lane Cc hK hA n n _ _ _ _ _ _ _ _ _ _ _ _ _ _ _ _ _ _ _ _ _ _ _ _ _ _ _ _ _ _ _ _ _ _ _ _ _ _ hf _ _ _ hP hD hS (lv_sub hl [1, 2, 3, 4, 0] rfl)
set_option maxHeartbeats 4000000 in
set_option maxRecDepth 100000 in
theorem ctX3_follow (l : Launch) (D : va_G) (cI cS : ClassId) (a_t a_g a_g_kind a_g_wet a_f a_f_kind a_f_wet a_s a_s_row : Nat) (t_hours : Int32) (t_opened : Int32) (t_firstWrong : Int32) (g_kind : Nat → Int32) (g_wet : Nat → Int32) (g_wide : Int32) (g_rows : Int32) (g_cells : Int32) (g_sun : Int32) (g_all : Int32) (g_firstColumn : Int32) (g_lastColumn : Int32) (f_kind : Nat → Int32) (f_wet : Nat → Int32) (f_wide : Int32) (f_rows : Int32) (f_cells : Int32) (f_sun : Int32) (f_all : Int32) (f_firstColumn : Int32) (f_lastColumn : Int32) (s_row : Nat → Int32) (s_lane : Int32) (s_length : Int32) (p3 : Int32) (p4 : Int32) (n : Nat) (t_hours' : Int32) (t_opened' : Int32) (t_firstWrong' : Int32) (g_kind' : Nat → Int32) (g_wet' : Nat → Int32) (g_wide' : Int32) (g_rows' : Int32) (g_cells' : Int32) (g_sun' : Int32) (g_all' : Int32) (g_firstColumn' : Int32) (g_lastColumn' : Int32) (hf : fX3_follow n t_hours t_opened t_firstWrong g_kind g_wet g_wide g_rows g_cells g_sun g_all g_firstColumn g_lastColumn f_kind f_wet f_wide f_rows f_cells f_sun f_all f_firstColumn f_lastColumn s_row s_length p3 p4 = some (t_hours', t_opened', t_firstWrong', g_kind', g_wet', g_wide', g_rows', g_cells', g_sun', g_all', g_firstColumn', g_lastColumn')) : Ct l D (tysA cI cS) yX3_follow cX3_follow 6 none (Rm 5) [.ref a_t, .ref a_f, .ref a_s, .int p3, .int p4] (W_tgfs cI cS a_t a_g a_g_kind a_g_wet a_f a_f_kind a_f_wet a_s a_s_row t_hours t_opened t_firstWrong g_kind g_wet g_wide g_rows g_cells g_sun g_all g_firstColumn g_lastColumn f_kind f_wet f_wide f_rows f_cells f_sun f_all f_firstColumn f_lastColumn s_row s_lane s_length) none (W_tgfs cI cS a_t a_g a_g_kind a_g_wet a_f a_f_kind a_f_wet a_s a_s_row t_hours' t_opened' t_firstWrong' g_kind' g_wet' g_wide' g_rows' g_cells' g_sun' g_all' g_firstColumn' g_lastColumn' f_kind f_wet f_wide f_rows f_cells f_sun f_all f_firstColumn f_lastColumn s_row s_lane s_length) := by
  refine Ct_of (by decide) (Nat.le_of_ble_eq_true rfl) ?_
  intro p e s m args below meth c A ls Cc hK hA hP hD hS hl
  have hl : lv_has ls 6 [(0, .ref a_t), (1, .ref a_f), (2, .ref a_s), (3, .int p3), (4, .int p4)] := hl
  obtain ⟨hx, hb, hr, hml, hown, hts, hlk, hnw⟩ := id Cc
  unfold fX3_follow at hf
  refine lv_aload_n hx hb dX3_follow_0 rfl (lv_at hl 0 rfl) ?_
  refine va_get (D := D) (ci := 3) (v := .ref a_g) (C := RX3) (T := TX3) (N := 4) hx hb hts inX3 hown hK hP 0 rfl rfl 0 (by decide) (hts _ tw_70) (fun _ h9 => h9) rfl dX3_follow_1 ?_
  refine lv_aload_n hx hb dX3_follow_4 rfl (lv_at hl 1 rfl) ?_
  obtain ⟨q5_1, hq1, hf⟩ := Option.bind_eq_some_iff.mp hf
  refine cV (ws' := (W_tgfs cI cS a_t a_g a_g_kind a_g_wet a_f a_f_kind a_f_wet a_s a_s_row t_hours t_opened t_firstWrong q5_1.1 q5_1.2.1 q5_1.2.2.1 q5_1.2.2.2.1 q5_1.2.2.2.2.1 q5_1.2.2.2.2.2.1 q5_1.2.2.2.2.2.2.1 q5_1.2.2.2.2.2.2.2.1 q5_1.2.2.2.2.2.2.2.2 f_kind f_wet f_wide f_rows f_cells f_sun f_all f_firstColumn f_lastColumn s_row s_lane s_length)) (rest := []) (st1 := []) Cc hK hA hP hD hS hl.1 (ctX0_becomeLike l D cI cS a_g a_g_kind a_g_wet a_f a_f_kind a_f_wet g_kind g_wet g_wide g_rows g_cells g_sun g_all g_firstColumn g_lastColumn f_kind f_wet f_wide f_rows f_cells f_sun f_all f_firstColumn f_lastColumn  n q5_1.1 q5_1.2.1 q5_1.2.2.1 q5_1.2.2.2.1 q5_1.2.2.2.2.1 q5_1.2.2.2.2.2.1 q5_1.2.2.2.2.2.2.1 q5_1.2.2.2.2.2.2.2.1 q5_1.2.2.2.2.2.2.2.2 hq1) ⟨tw_324, tw_321, tw_322, tw_323, tw_2⟩ mdX0_becomeLike ⟨rfl, rfl, Nat.le_of_ble_eq_true rfl, Nat.le_of_ble_eq_true rfl⟩ rfl dX3_follow_5 rfl (Nat.le_of_ble_eq_true rfl) ⟨Nat.zero_le _, Nat.zero_le _⟩ rfl rfl rfl [1, 2, 3, 4, 5, 6] [0, 7, 8] [0, 3, 4, 5, 6, 7, 8, 1, 2] rfl rfl (by decide) rfl (fun H locs hP hD hS => ?_)
  refine lv_aload_n hx hb dX3_follow_8 rfl (lv_at hl 0 rfl) ?_
  refine lv_iconst (v := (0 : Int32)) hx hb dX3_follow_9 (by decide) ?_
  refine va_put (D := D) (ci := 3) (v := .int (0 : Int32)) (ty := .int) (C := RX3) (T := TX3) (N := 4) hx hb hts inX3 tyX3 tyX3_ok nmX3 hown hK hP hD hS 0 rfl rfl 1 (by decide) (hts _ tw_72) (fun _ h9 => h9) rfl (tyX3_ok 1 (by decide)) rfl rfl (Nat.le_of_ble_eq_true rfl) dX3_follow_10 (fun H locs hP hD hS => ?_)
  have hP : va_P D classes (W_tgfs cI cS a_t a_g a_g_kind a_g_wet a_f a_f_kind a_f_wet a_s a_s_row (0 : Int32) t_opened t_firstWrong q5_1.1 q5_1.2.1 q5_1.2.2.1 q5_1.2.2.2.1 q5_1.2.2.2.2.1 q5_1.2.2.2.2.2.1 q5_1.2.2.2.2.2.2.1 q5_1.2.2.2.2.2.2.2.1 q5_1.2.2.2.2.2.2.2.2 f_kind f_wet f_wide f_rows f_cells f_sun f_all f_firstColumn f_lastColumn s_row s_lane s_length) H := hP
  have hD : va_D A (W_tgfs cI cS a_t a_g a_g_kind a_g_wet a_f a_f_kind a_f_wet a_s a_s_row (0 : Int32) t_opened t_firstWrong q5_1.1 q5_1.2.1 q5_1.2.2.1 q5_1.2.2.2.1 q5_1.2.2.2.2.1 q5_1.2.2.2.2.2.1 q5_1.2.2.2.2.2.2.1 q5_1.2.2.2.2.2.2.2.1 q5_1.2.2.2.2.2.2.2.2 f_kind f_wet f_wide f_rows f_cells f_sun f_all f_firstColumn f_lastColumn s_row s_lane s_length) := hD
  refine lv_aload_n hx hb dX3_follow_13 rfl (lv_at hl 0 rfl) ?_
  refine lv_aload_n hx hb dX3_follow_14 rfl (lv_at hl 0 rfl) ?_
  refine va_get (D := D) (ci := 3) (v := .ref a_g) (C := RX3) (T := TX3) (N := 4) hx hb hts inX3 hown hK hP 0 rfl rfl 0 (by decide) (hts _ tw_70) (fun _ h9 => h9) rfl dX3_follow_15 ?_
  refine lv_aload_n hx hb dX3_follow_18 rfl (lv_at hl 0 rfl) ?_
  refine va_get (D := D) (ci := 3) (v := .ref a_g) (C := RX3) (T := TX3) (N := 4) hx hb hts inX3 hown hK hP 0 rfl rfl 0 (by decide) (hts _ tw_70) (fun _ h9 => h9) rfl dX3_follow_19 ?_
  obtain ⟨q22_2, hq2, hf⟩ := Option.bind_eq_some_iff.mp hf
  refine cV (ws' := (W_tgfs cI cS a_t a_g a_g_kind a_g_wet a_f a_f_kind a_f_wet a_s a_s_row (0 : Int32) t_opened t_firstWrong q5_1.1 q5_1.2.1 q5_1.2.2.1 q5_1.2.2.2.1 q5_1.2.2.2.2.1 q5_1.2.2.2.2.2.1 q5_1.2.2.2.2.2.2.1 q5_1.2.2.2.2.2.2.2.1 q5_1.2.2.2.2.2.2.2.2 f_kind f_wet f_wide f_rows f_cells f_sun f_all f_firstColumn f_lastColumn s_row s_lane s_length)) (rest := [.ref a_g, .ref a_t]) (st1 := [.int q22_2, .ref a_g, .ref a_t]) Cc hK hA hP hD hS hl.1 (ctX0_crackedSet l D cI cS a_g a_g_kind a_g_wet q5_1.1 q5_1.2.1 q5_1.2.2.1 q5_1.2.2.2.1 q5_1.2.2.2.2.1 q5_1.2.2.2.2.2.1 q5_1.2.2.2.2.2.2.1 q5_1.2.2.2.2.2.2.2.1 q5_1.2.2.2.2.2.2.2.2  n q22_2 hq2) ⟨tw_230, tw_325, tw_228, tw_229, tw_2⟩ mdX0_crackedSet ⟨rfl, rfl, Nat.le_of_ble_eq_true rfl, Nat.le_of_ble_eq_true rfl⟩ rfl dX3_follow_22 rfl (Nat.le_of_ble_eq_true rfl) ⟨Nat.zero_le _, Nat.zero_le _⟩ rfl rfl rfl [1, 2, 3] [0, 4, 5, 6, 7, 8] [0, 6, 7, 8, 1, 2, 3, 4, 5] rfl rfl (by decide) rfl (fun H locs hP hD hS => ?_)
  obtain ⟨q25_3, hq3, hf⟩ := Option.bind_eq_some_iff.mp hf
  refine cV (ws' := (W_tgfs cI cS a_t a_g a_g_kind a_g_wet a_f a_f_kind a_f_wet a_s a_s_row (0 : Int32) t_opened t_firstWrong q5_1.1 q5_1.2.1 q5_1.2.2.1 q5_1.2.2.2.1 q5_1.2.2.2.2.1 q5_1.2.2.2.2.2.1 q5_1.2.2.2.2.2.2.1 q5_1.2.2.2.2.2.2.2.1 q5_1.2.2.2.2.2.2.2.2 f_kind f_wet f_wide f_rows f_cells f_sun f_all f_firstColumn f_lastColumn s_row s_lane s_length)) (rest := [.ref a_t]) (st1 := [.int q25_3, .ref a_t]) Cc hK hA hP hD hS hl.1 (ctX0_isOpenBy l D cI cS a_g a_g_kind a_g_wet q5_1.1 q5_1.2.1 q5_1.2.2.1 q5_1.2.2.2.1 q5_1.2.2.2.2.1 q5_1.2.2.2.2.2.1 q5_1.2.2.2.2.2.2.1 q5_1.2.2.2.2.2.2.2.1 q5_1.2.2.2.2.2.2.2.2 q22_2 n q25_3 hq3) ⟨tw_286, tw_326, tw_284, tw_285, tw_2⟩ mdX0_isOpenBy ⟨rfl, rfl, Nat.le_of_ble_eq_true rfl, Nat.le_of_ble_eq_true rfl⟩ rfl dX3_follow_25 rfl (Nat.le_of_ble_eq_true rfl) ⟨Nat.zero_le _, Nat.zero_le _⟩ rfl rfl rfl [1, 2, 3] [0, 4, 5, 6, 7, 8] [0, 6, 7, 8, 1, 2, 3, 4, 5] rfl rfl (by decide) rfl (fun H locs hP hD hS => ?_)
  refine lv_if_eq (tgt := 35) hx hb dX3_follow_28 (by decide) (fun hc4 => ?_) (fun hc4 => ?_)
  · replace hf := (if_pos hc4).symm.trans hf
    refine lv_bipush (v := (-9 : Int32)) hx hb dX3_follow_35 (by decide) ?_
    exact bX3_follow_37 a_t a_g a_g_kind a_g_wet a_f a_f_kind a_f_wet a_s a_s_row s_lane Cc hK hA n _ _ _ _ _ _ _ _ _ _ _ _ _ _ _ _ _ _ _ _ _ _ _ _ _ _ _ _ _ _ _ _ _ _ _ _ _ _ hf _ _ _ hP hD hS (lv_sub hl [0, 2, 3, 4] rfl)
  · replace hf := (if_neg hc4).symm.trans hf
    refine lv_iconst (v := (0 : Int32)) hx hb dX3_follow_31 (by decide) ?_
    refine lv_goto (tgt := 37) hx hb dX3_follow_32 (by decide) ?_
    exact bX3_follow_37 a_t a_g a_g_kind a_g_wet a_f a_f_kind a_f_wet a_s a_s_row s_lane Cc hK hA n _ _ _ _ _ _ _ _ _ _ _ _ _ _ _ _ _ _ _ _ _ _ _ _ _ _ _ _ _ _ _ _ _ _ _ _ _ _ hf _ _ _ hP hD hS (lv_sub hl [0, 2, 3, 4] rfl)
-- X3_answerTo
def fX3_answerTo_108 (n : Nat) (t_opened : Int32) (t_firstWrong : Int32) (g_wet : Nat → Int32) (g_wide : Int32) (g_cells : Int32) (g_all : Int32) (g_firstColumn : Int32) (g_lastColumn : Int32) (x1 : Int32) : Option (Int32) := (fX0_isCell n g_cells (x1 - (10 : Int32))).bind fun q116_1 => if q116_1 = 0 then some ((-9 : Int32)) else gd (x1 - (10 : Int32)) 12 (some ((g_wet (x1 - (10 : Int32)).toNatClampNeg)))
def fX3_answerTo (n : Nat) (t_opened : Int32) (t_firstWrong : Int32) (g_wet : Nat → Int32) (g_wide : Int32) (g_cells : Int32) (g_all : Int32) (g_firstColumn : Int32) (g_lastColumn : Int32) (p1 : Int32) : Option (Int32) := if p1 = (1 : Int32) then some (t_firstWrong) else if t_firstWrong = (-9 : Int32) then if p1 = 0 then (fX0_crackedSet n g_wet g_cells).bind fun q68_1 => some (q68_1) else if p1 = 1 then fX3_answerTo_108 n t_opened t_firstWrong g_wet g_wide g_cells g_all g_firstColumn g_lastColumn p1 else if p1 = 2 then (fX0_crackedSet n g_wet g_cells).bind fun q80_1 => (fX0_isOpenBy n g_wide g_cells g_all g_firstColumn g_lastColumn q80_1).bind fun q83_2 => if q83_2 = 0 then some ((0 : Int32)) else some ((1 : Int32)) else if p1 = 3 then (fX0_wetOfAll n g_wet g_cells).bind fun q99_1 => some (q99_1) else if p1 = 4 then some (t_opened) else fX3_answerTo_108 n t_opened t_firstWrong g_wet g_wide g_cells g_all g_firstColumn g_lastColumn p1 else some (((-100 : Int32) - t_firstWrong))
theorem mdX3_answerTo : yX3_answerTo.cls = RX3 ∧ yX3_answerTo.cls ≠ "java/lang/invoke/MethodHandle" ∧ yX3_answerTo.cls ≠ "java/lang/invoke/VarHandle" ∧ (parseMethodDescriptor yX3_answerTo.desc).map (fun d => d.parameters.length) = some 1 := by decide +kernel
set_option maxHeartbeats 4000000 in
set_option maxRecDepth 100000 in
theorem bX3_answerTo_108 {p : Program} {l : Launch} {e : Env} {s : State} {m : MethodId} {args : Array Value} {below : List Frame} {meth : Method} {c : Code} {A : Nat → Prop} {D : va_G} {cI cS : ClassId} (a_t a_g a_g_kind a_g_wet : Nat) (t_hours : Int32) (g_kind : Nat → Int32) (g_rows : Int32) (g_sun : Int32) (Cc : Cx p s m args meth c RX3 cX3_answerTo 2 (some .int)) (hK : va_K D classes (tysA cI cS) s) (hA : ∀ q, s.heap.size ≤ q → A q) (n : Nat) : ∀ (t_opened : Int32) (t_firstWrong : Int32) (g_wet : Nat → Int32) (g_wide : Int32) (g_cells : Int32) (g_all : Int32) (g_firstColumn : Int32) (g_lastColumn : Int32) (x1 : Int32) (r : Int32), fX3_answerTo_108 n t_opened t_firstWrong g_wet g_wide g_cells g_all g_firstColumn g_lastColumn x1 = some (r) → ∀ (H : Heap) (locs : List Loc) (ls : Array Slot), va_P D classes (W_tg cI cS a_t a_g a_g_kind a_g_wet t_hours t_opened t_firstWrong g_kind g_wet g_wide g_rows g_cells g_sun g_all g_firstColumn g_lastColumn) H → va_D A (W_tg cI cS a_t a_g a_g_kind a_g_wet t_hours t_opened t_firstWrong g_kind g_wet g_wide g_rows g_cells g_sun g_all g_firstColumn g_lastColumn) → va_S A s.heap H locs → lv_has ls 2 [(0, .ref a_t), (1, .int x1)] → W p l e (Rm 3) s m args below meth c H locs 0 0 (MQ below (QW D (tysA cI cS) (some (.int r)) (W_tg cI cS a_t a_g a_g_kind a_g_wet t_hours t_opened t_firstWrong g_kind g_wet g_wide g_rows g_cells g_sun g_all g_firstColumn g_lastColumn) A) args s 0 0 A) (F0 m 108 ls []) := by
  obtain ⟨hx, hb, hr, hml, hown, hts, hlk, hnw⟩ := id Cc
  intro t_opened t_firstWrong g_wet g_wide g_cells g_all g_firstColumn g_lastColumn x1 r hf H locs ls hP hD hS hl
  unfold fX3_answerTo_108 at hf
  refine lv_aload_n hx hb dX3_answerTo_108 rfl (lv_at hl 0 rfl) ?_
  refine va_get (D := D) (ci := 3) (v := .ref a_g) (C := RX3) (T := TX3) (N := 4) hx hb hts inX3 hown hK hP 0 rfl rfl 0 (by decide) (hts _ tw_70) (fun _ h9 => h9) rfl dX3_answerTo_109 ?_
  refine lv_iload_n hx hb dX3_answerTo_112 rfl (lv_at hl 1 rfl) ?_
  refine lv_bipush (v := (10 : Int32)) hx hb dX3_answerTo_113 (by decide) ?_
  refine lv_isub hx hb dX3_answerTo_115 ?_
  obtain ⟨q116_1, hq5, hf⟩ := Option.bind_eq_some_iff.mp hf
  refine cV (ws' := (W_tg cI cS a_t a_g a_g_kind a_g_wet t_hours t_opened t_firstWrong g_kind g_wet g_wide g_rows g_cells g_sun g_all g_firstColumn g_lastColumn)) (rest := []) (st1 := [.int q116_1]) Cc hK hA hP hD hS hl.1 (ctX0_isCell l D cI cS a_g a_g_kind a_g_wet g_kind g_wet g_wide g_rows g_cells g_sun g_all g_firstColumn g_lastColumn (x1 - (10 : Int32)) n q116_1 hq5) ⟨tw_218, tw_346, tw_216, tw_217, tw_2⟩ mdX0_isCell ⟨rfl, rfl, Nat.le_of_ble_eq_true rfl, Nat.le_of_ble_eq_true rfl⟩ rfl dX3_answerTo_116 rfl (Nat.le_of_ble_eq_true rfl) ⟨Nat.zero_le _, Nat.zero_le _⟩ rfl rfl rfl [1, 2, 3] [0] [0, 1, 2, 3] rfl rfl (by decide) rfl (fun H locs hP hD hS => ?_)
  refine lv_if_eq (tgt := 137) hx hb dX3_answerTo_119 (by decide) (fun hc6 => ?_) (fun hc6 => ?_)
  · replace hf := (if_pos hc6).symm.trans hf
    refine lv_bipush (v := (-9 : Int32)) hx hb dX3_answerTo_137 (by decide) ?_
    obtain rfl := Option.some.inj hf
    exact rt_i Cc hK hP hD hS dX3_answerTo_139
  · replace hf := (if_neg hc6).symm.trans hf
    refine lv_aload_n hx hb dX3_answerTo_122 rfl (lv_at hl 0 rfl) ?_
    refine va_get (D := D) (ci := 3) (v := .ref a_g) (C := RX3) (T := TX3) (N := 4) hx hb hts inX3 hown hK hP 0 rfl rfl 0 (by decide) (hts _ tw_70) (fun _ h9 => h9) rfl dX3_answerTo_123 ?_
    refine va_getN (D := D) (ci := 0) (v := .ref a_g_wet) (C := RX0) (T := TX0) (N := 9) hx hb hts inX0 hown hK hP 1 rfl rfl 1 (by decide) (va_Nw.use rfl (hnw _ nn_2)) (fun _ h9 => h9) rfl dX3_answerTo_126 ?_
    refine lv_iload_n hx hb dX3_answerTo_129 rfl (lv_at hl 1 rfl) ?_
    refine lv_bipush (v := (10 : Int32)) hx hb dX3_answerTo_130 (by decide) ?_
    refine lv_isub hx hb dX3_answerTo_132 ?_
    obtain ⟨hin, hf⟩ := gd_some hf
    refine va_iald hx hb hK hP 3 0 rfl rfl hin dX3_answerTo_133 ?_
    refine lv_goto (tgt := 139) hx hb dX3_answerTo_134 (by decide) ?_
    obtain rfl := Option.some.inj hf
    exact rt_i Cc hK hP hD hS dX3_answerTo_139
set_option maxHeartbeats 4000000 in
set_option maxRecDepth 100000 in
theorem ctX3_answerTo (l : Launch) (D : va_G) (cI cS : ClassId) (a_t a_g a_g_kind a_g_wet : Nat) (t_hours : Int32) (t_opened : Int32) (t_firstWrong : Int32) (g_kind : Nat → Int32) (g_wet : Nat → Int32) (g_wide : Int32) (g_rows : Int32) (g_cells : Int32) (g_sun : Int32) (g_all : Int32) (g_firstColumn : Int32) (g_lastColumn : Int32) (p1 : Int32) (n : Nat) (r : Int32) (hf : fX3_answerTo n t_opened t_firstWrong g_wet g_wide g_cells g_all g_firstColumn g_lastColumn p1 = some (r)) : Ct l D (tysA cI cS) yX3_answerTo cX3_answerTo 2 (some .int) (Rm 3) [.ref a_t, .int p1] (W_tg cI cS a_t a_g a_g_kind a_g_wet t_hours t_opened t_firstWrong g_kind g_wet g_wide g_rows g_cells g_sun g_all g_firstColumn g_lastColumn) (some (.int r)) (W_tg cI cS a_t a_g a_g_kind a_g_wet t_hours t_opened t_firstWrong g_kind g_wet g_wide g_rows g_cells g_sun g_all g_firstColumn g_lastColumn) := by
  refine Ct_of (by decide) (Nat.le_of_ble_eq_true rfl) ?_
  intro p e s m args below meth c A ls Cc hK hA hP hD hS hl
  have hl : lv_has ls 2 [(0, .ref a_t), (1, .int p1)] := hl
  obtain ⟨hx, hb, hr, hml, hown, hts, hlk, hnw⟩ := id Cc
  unfold fX3_answerTo at hf
  refine lv_iload_n hx hb dX3_answerTo_0 rfl (lv_at hl 1 rfl) ?_
  refine lv_iconst (v := (1 : Int32)) hx hb dX3_answerTo_1 (by decide) ?_
  refine lv_icmp_ne (tgt := 10) hx hb dX3_answerTo_2 (by decide) (fun hc1 => ?_) (fun hc1 => ?_)
  · replace hf := (if_neg hc1).symm.trans hf
    refine lv_aload_n hx hb dX3_answerTo_10 rfl (lv_at hl 0 rfl) ?_
    refine va_get (D := D) (ci := 3) (v := .int t_firstWrong) (C := RX3) (T := TX3) (N := 4) hx hb hts inX3 hown hK hP 0 rfl rfl 3 (by decide) (hts _ tw_74) (fun _ h9 => h9) rfl dX3_answerTo_11 ?_
    refine lv_bipush (v := (-9 : Int32)) hx hb dX3_answerTo_14 (by decide) ?_
    refine lv_icmp_eq (tgt := 27) hx hb dX3_answerTo_16 (by decide) (fun hc2 => ?_) (fun hc2 => ?_)
    · replace hf := (if_pos hc2).symm.trans hf
      refine lv_iload_n hx hb dX3_answerTo_27 rfl (lv_at hl 1 rfl) ?_
      by_cases hs3_0 : p1 = 0
      · replace hf := (if_pos hs3_0).symm.trans hf
        refine lv_tableIn (tgt := 64) (off := 36) hx hb dX3_answerTo_28 (by rw [hs3_0]; decide) (by rw [hs3_0]; decide) (by rw [hs3_0]; decide) (by decide) ?_
        refine lv_aload_n hx hb dX3_answerTo_64 rfl (lv_at hl 0 rfl) ?_
        refine va_get (D := D) (ci := 3) (v := .ref a_g) (C := RX3) (T := TX3) (N := 4) hx hb hts inX3 hown hK hP 0 rfl rfl 0 (by decide) (hts _ tw_70) (fun _ h9 => h9) rfl dX3_answerTo_65 ?_
        obtain ⟨q68_1, hq4, hf⟩ := Option.bind_eq_some_iff.mp hf
        refine cV (ws' := (W_tg cI cS a_t a_g a_g_kind a_g_wet t_hours t_opened t_firstWrong g_kind g_wet g_wide g_rows g_cells g_sun g_all g_firstColumn g_lastColumn)) (rest := []) (st1 := [.int q68_1]) Cc hK hA hP hD hS hl.1 (ctX0_crackedSet l D cI cS a_g a_g_kind a_g_wet g_kind g_wet g_wide g_rows g_cells g_sun g_all g_firstColumn g_lastColumn  n q68_1 hq4) ⟨tw_230, tw_325, tw_228, tw_229, tw_2⟩ mdX0_crackedSet ⟨rfl, rfl, Nat.le_of_ble_eq_true rfl, Nat.le_of_ble_eq_true rfl⟩ rfl dX3_answerTo_68 rfl (Nat.le_of_ble_eq_true rfl) ⟨Nat.zero_le _, Nat.zero_le _⟩ rfl rfl rfl [1, 2, 3] [0] [0, 1, 2, 3] rfl rfl (by decide) rfl (fun H locs hP hD hS => ?_)
        obtain rfl := Option.some.inj hf
        exact rt_i Cc hK hP hD hS dX3_answerTo_71
      · replace hf := (if_neg hs3_0).symm.trans hf
        by_cases hs3_1 : p1 = 1
        · replace hf := (if_pos hs3_1).symm.trans hf
          refine lv_tableIn (tgt := 108) (off := 80) hx hb dX3_answerTo_28 (by rw [hs3_1]; decide) (by rw [hs3_1]; decide) (by rw [hs3_1]; decide) (by decide) ?_
          exact bX3_answerTo_108 a_t a_g a_g_kind a_g_wet t_hours g_kind g_rows g_sun Cc hK hA n _ _ _ _ _ _ _ _ _ _ hf _ _ _ hP hD hS (lv_sub hl [0, 1] rfl)
        · replace hf := (if_neg hs3_1).symm.trans hf
          by_cases hs3_2 : p1 = 2
          · replace hf := (if_pos hs3_2).symm.trans hf
            refine lv_tableIn (tgt := 72) (off := 44) hx hb dX3_answerTo_28 (by rw [hs3_2]; decide) (by rw [hs3_2]; decide) (by rw [hs3_2]; decide) (by decide) ?_
            refine lv_aload_n hx hb dX3_answerTo_72 rfl (lv_at hl 0 rfl) ?_
            refine va_get (D := D) (ci := 3) (v := .ref a_g) (C := RX3) (T := TX3) (N := 4) hx hb hts inX3 hown hK hP 0 rfl rfl 0 (by decide) (hts _ tw_70) (fun _ h9 => h9) rfl dX3_answerTo_73 ?_
            refine lv_aload_n hx hb dX3_answerTo_76 rfl (lv_at hl 0 rfl) ?_
            refine va_get (D := D) (ci := 3) (v := .ref a_g) (C := RX3) (T := TX3) (N := 4) hx hb hts inX3 hown hK hP 0 rfl rfl 0 (by decide) (hts _ tw_70) (fun _ h9 => h9) rfl dX3_answerTo_77 ?_
            obtain ⟨q80_1, hq7, hf⟩ := Option.bind_eq_some_iff.mp hf
            refine cV (ws' := (W_tg cI cS a_t a_g a_g_kind a_g_wet t_hours t_opened t_firstWrong g_kind g_wet g_wide g_rows g_cells g_sun g_all g_firstColumn g_lastColumn)) (rest := [.ref a_g]) (st1 := [.int q80_1, .ref a_g]) Cc hK hA hP hD hS hl.1 (ctX0_crackedSet l D cI cS a_g a_g_kind a_g_wet g_kind g_wet g_wide g_rows g_cells g_sun g_all g_firstColumn g_lastColumn  n q80_1 hq7) ⟨tw_230, tw_325, tw_228, tw_229, tw_2⟩ mdX0_crackedSet ⟨rfl, rfl, Nat.le_of_ble_eq_true rfl, Nat.le_of_ble_eq_true rfl⟩ rfl dX3_answerTo_80 rfl (Nat.le_of_ble_eq_true rfl) ⟨Nat.zero_le _, Nat.zero_le _⟩ rfl rfl rfl [1, 2, 3] [0] [0, 1, 2, 3] rfl rfl (by decide) rfl (fun H locs hP hD hS => ?_)
            obtain ⟨q83_2, hq8, hf⟩ := Option.bind_eq_some_iff.mp hf
            refine cV (ws' := (W_tg cI cS a_t a_g a_g_kind a_g_wet t_hours t_opened t_firstWrong g_kind g_wet g_wide g_rows g_cells g_sun g_all g_firstColumn g_lastColumn)) (rest := []) (st1 := [.int q83_2]) Cc hK hA hP hD hS hl.1 (ctX0_isOpenBy l D cI cS a_g a_g_kind a_g_wet g_kind g_wet g_wide g_rows g_cells g_sun g_all g_firstColumn g_lastColumn q80_1 n q83_2 hq8) ⟨tw_286, tw_326, tw_284, tw_285, tw_2⟩ mdX0_isOpenBy ⟨rfl, rfl, Nat.le_of_ble_eq_true rfl, Nat.le_of_ble_eq_true rfl⟩ rfl dX3_answerTo_83 rfl (Nat.le_of_ble_eq_true rfl) ⟨Nat.zero_le _, Nat.zero_le _⟩ rfl rfl rfl [1, 2, 3] [0] [0, 1, 2, 3] rfl rfl (by decide) rfl (fun H locs hP hD hS => ?_)
            refine lv_if_eq (tgt := 93) hx hb dX3_answerTo_86 (by decide) (fun hc9 => ?_) (fun hc9 => ?_)
            · replace hf := (if_pos hc9).symm.trans hf
              refine lv_iconst (v := (0 : Int32)) hx hb dX3_answerTo_93 (by decide) ?_
              obtain rfl := Option.some.inj hf
              exact rt_i Cc hK hP hD hS dX3_answerTo_94
            · replace hf := (if_neg hc9).symm.trans hf
              refine lv_iconst (v := (1 : Int32)) hx hb dX3_answerTo_89 (by decide) ?_
              refine lv_goto (tgt := 94) hx hb dX3_answerTo_90 (by decide) ?_
              obtain rfl := Option.some.inj hf
              exact rt_i Cc hK hP hD hS dX3_answerTo_94
          · replace hf := (if_neg hs3_2).symm.trans hf
            by_cases hs3_3 : p1 = 3
            · replace hf := (if_pos hs3_3).symm.trans hf
              refine lv_tableIn (tgt := 95) (off := 67) hx hb dX3_answerTo_28 (by rw [hs3_3]; decide) (by rw [hs3_3]; decide) (by rw [hs3_3]; decide) (by decide) ?_
              refine lv_aload_n hx hb dX3_answerTo_95 rfl (lv_at hl 0 rfl) ?_
              refine va_get (D := D) (ci := 3) (v := .ref a_g) (C := RX3) (T := TX3) (N := 4) hx hb hts inX3 hown hK hP 0 rfl rfl 0 (by decide) (hts _ tw_70) (fun _ h9 => h9) rfl dX3_answerTo_96 ?_
              obtain ⟨q99_1, hq10, hf⟩ := Option.bind_eq_some_iff.mp hf
              refine cV (ws' := (W_tg cI cS a_t a_g a_g_kind a_g_wet t_hours t_opened t_firstWrong g_kind g_wet g_wide g_rows g_cells g_sun g_all g_firstColumn g_lastColumn)) (rest := []) (st1 := [.int q99_1]) Cc hK hA hP hD hS hl.1 (ctX0_wetOfAll l D cI cS a_g a_g_kind a_g_wet g_kind g_wet g_wide g_rows g_cells g_sun g_all g_firstColumn g_lastColumn  n q99_1 hq10) ⟨tw_345, tw_342, tw_343, tw_344, tw_2⟩ mdX0_wetOfAll ⟨rfl, rfl, Nat.le_of_ble_eq_true rfl, Nat.le_of_ble_eq_true rfl⟩ rfl dX3_answerTo_99 rfl (Nat.le_of_ble_eq_true rfl) ⟨Nat.zero_le _, Nat.zero_le _⟩ rfl rfl rfl [1, 2, 3] [0] [0, 1, 2, 3] rfl rfl (by decide) rfl (fun H locs hP hD hS => ?_)
              obtain rfl := Option.some.inj hf
              exact rt_i Cc hK hP hD hS dX3_answerTo_102
            · replace hf := (if_neg hs3_3).symm.trans hf
              by_cases hs3_4 : p1 = 4
              · replace hf := (if_pos hs3_4).symm.trans hf
                refine lv_tableIn (tgt := 103) (off := 75) hx hb dX3_answerTo_28 (by rw [hs3_4]; decide) (by rw [hs3_4]; decide) (by rw [hs3_4]; decide) (by decide) ?_
                refine lv_aload_n hx hb dX3_answerTo_103 rfl (lv_at hl 0 rfl) ?_
                refine va_get (D := D) (ci := 3) (v := .int t_opened) (C := RX3) (T := TX3) (N := 4) hx hb hts inX3 hown hK hP 0 rfl rfl 2 (by decide) (hts _ tw_73) (fun _ h9 => h9) rfl dX3_answerTo_104 ?_
                obtain rfl := Option.some.inj hf
                exact rt_i Cc hK hP hD hS dX3_answerTo_107
              · replace hf := (if_neg hs3_4).symm.trans hf
                refine lv_tableOut (tgt := 108) hx hb dX3_answerTo_28 (tb_out (N := 4) (by decide) (fun i hi => match i, hi with | 0, _ => hs3_0 | 1, _ => hs3_1 | 2, _ => hs3_2 | 3, _ => hs3_3 | 4, _ => hs3_4 | i + 5, hi => absurd hi (by omega))) (by decide) ?_
                exact bX3_answerTo_108 a_t a_g a_g_kind a_g_wet t_hours g_kind g_rows g_sun Cc hK hA n _ _ _ _ _ _ _ _ _ _ hf _ _ _ hP hD hS (lv_sub hl [0, 1] rfl)
    · replace hf := (if_neg hc2).symm.trans hf
      refine lv_bipush (v := (-100 : Int32)) hx hb dX3_answerTo_19 (by decide) ?_
      refine lv_aload_n hx hb dX3_answerTo_21 rfl (lv_at hl 0 rfl) ?_
      refine va_get (D := D) (ci := 3) (v := .int t_firstWrong) (C := RX3) (T := TX3) (N := 4) hx hb hts inX3 hown hK hP 0 rfl rfl 3 (by decide) (hts _ tw_74) (fun _ h9 => h9) rfl dX3_answerTo_22 ?_
      refine lv_isub hx hb dX3_answerTo_25 ?_
      obtain rfl := Option.some.inj hf
      exact rt_i Cc hK hP hD hS dX3_answerTo_26
  · replace hf := (if_pos hc1).symm.trans hf
    refine lv_aload_n hx hb dX3_answerTo_5 rfl (lv_at hl 0 rfl) ?_
    refine va_get (D := D) (ci := 3) (v := .int t_firstWrong) (C := RX3) (T := TX3) (N := 4) hx hb hts inX3 hown hK hP 0 rfl rfl 3 (by decide) (hts _ tw_74) (fun _ h9 => h9) rfl dX3_answerTo_6 ?_
    obtain rfl := Option.some.inj hf
    exact rt_i Cc hK hP hD hS dX3_answerTo_9
