/-! bars: the class looks at sets of cracked cells alone, the reference at all sets -/
theorem op_0 {w h : Nat} (hs : Sh w h) : opN w h 0 = false := by
  have h1 : FL w h 0 (2 ^ w - 1) = 0 := sb_anti FL_A (fun i hi => by rw [Nat.zero_testBit] at hi; cases hi)
  unfold opN
  rw [h1, Nat.zero_and]
  simp
theorem df_and {A S : Nat} (hA : A < 2 ^ 12) : df A (S &&& A) = df A S := by
  refine tb_ext (df_lt hA) (df_lt hA) fun i hi => ?_
  rw [df_test (by omega), df_test (by omega), Nat.testBit_and]
  cases A.testBit i <;> cases S.testBit i <;> rfl
theorem df_self {A : Nat} (hA : A < 2 ^ 12) : df A A = 0 := by
  refine tb_ext (df_lt hA) (Nat.two_pow_pos _) fun i hi => ?_
  rw [df_test (by omega), Nat.zero_testBit]
  cases A.testBit i <;> rfl
theorem df_zero {S A : Nat} (hS : S < 2 ^ 12) : df S A = 0 ↔ sb S A := by
  constructor
  · intro h i hi
    have hi2 := lt_of_tb hS hi
    have h1 : (df S A).testBit i = false := by rw [h, Nat.zero_testBit]
    rw [df_test (by omega), hi] at h1
    simpa using h1
  · intro h
    refine tb_ext (df_lt hS) (Nat.two_pow_pos _) fun i hi => ?_
    rw [df_test (by omega), Nat.zero_testBit]
    cases hq : S.testBit i with
    | false => rfl
    | true => rw [h i hq]; rfl
theorem pk_sub_lt {S A : Nat} (hS : S < 2 ^ 12) (h : ¬ sb S A) : pk (S &&& A) 12 < pk S 12 ∧ S &&& A < S := by
  have h1 : ∃ i, S.testBit i = true ∧ A.testBit i = false := by
    refine Classical.byContradiction fun hn => h fun i hi => ?_
    cases hq : A.testBit i with
    | true => rfl
    | false => exact absurd ⟨i, hi, hq⟩ hn
  obtain ⟨i, hi, ha⟩ := h1
  refine ⟨pk_strict (fun j _ hj => ?_) ⟨i, lt_of_tb hS hi, hi, by rw [Nat.testBit_and, ha, Bool.and_false]⟩, ?_⟩
  · rw [Nat.testBit_and, Bool.and_eq_true] at hj
    exact hj.1
  · refine Nat.lt_of_le_of_ne Nat.and_le_left fun e => ?_
    have h2 : (S &&& A).testBit i = true := by rw [e]; exact hi
    rw [Nat.testBit_and, ha, Bool.and_false] at h2
    cases h2
theorem bars_go (n : Nat) (hn : 5000 ≤ n) {w h A : Nat} (s : Int32) (kd wt : Nat → Int32) (hs : Sh w h) (hA : A < 2 ^ (w * h)) : ∀ (k S : Nat) (bC fC bR : Int32), S ≤ 2 ^ (w * h) → 2 ^ (w * h) < S + k →
    ((bC = 0 ∧ fC = 13 ∧ bR = -9 ∧ ∀ T, T < S → sb T A → opN w h (df A T) = true) ∨ ∃ B, B < 2 ^ (w * h) ∧ bC = nI B ∧ fC = nI (pk B 12) ∧ bR = nI B ∧ ∀ T, T < S → sb T A → opN w h (df A T) = false → pk B 12 ≤ pk T 12) →
    ∃ r, fX0_fewestBars_8 n k (nI w) (nI (w * h)) (nI (alN w h)) (nI (fcN w h)) (nI (lcN w h)) (nI A) bC fC (nI S) = some r ∧ fX5_bars_35 n k s (nI w) (nI h) kd wt (nI A) bR (nI S) = some r := by
  have hN := (Sh_lt hs).1
  have hP : 2 ^ (w * h) ≤ 4096 := show 2 ^ (w * h) ≤ 2 ^ 12 from Nat.pow_le_pow_right (by decide) hN
  have hA2 : A < 2 ^ 12 := Nat.lt_of_lt_of_le hA hP
  intro k
  induction k with
  | zero => intro S bC fC bR h1 h2; omega
  | succ k ih =>
    intro S bC fC bR h1 h2 hI
    have hal : alN w h + 1 = 2 ^ (w * h) := by unfold alN; have := Nat.two_pow_pos (w * h); omega
    rw [fX0_fewestBars_8, fX5_bars_35]
    simp only [e_cellsOf, Option.bind_some, i_bit (show w * h < 32 by omega)]
    by_cases hend : 2 ^ (w * h) ≤ S
    · simp only [if_pos (nI_le hend (show S < 2 ^ 31 by omega)), if_pos (nI_lt (show alN w h < S by omega) (show S < 2 ^ 31 by omega))]
      rcases hI with ⟨-, -, -, h4⟩ | ⟨B, -, rfl, -, rfl, -⟩
      · have h5 := h4 A (by omega) (sb_refl A)
        rw [df_self hA2, op_0 hs] at h5
        cases h5
      · exact ⟨_, rfl, rfl⟩
    · have hS : S < 2 ^ (w * h) := by omega
      have hS2 : S < 2 ^ 12 := Nat.lt_of_lt_of_le hS hP
      have hdf : df A S < 2 ^ (w * h) := df_lt hA
      have hpS := pk_leN S 12
      simp only [if_neg (nI_ge hS (show 2 ^ (w * h) < 2 ^ 31 by omega)), if_neg (nI_nlt (show S ≤ alN w h by omega) (show alN w h < 2 ^ 31 by omega)), i_df, e_bitCount n (show S < 4096 by omega), e_isOpenBy n hn hs hdf, e_isOpen n hn hs hdf, e_size n hn (show S < 4096 by omega), Option.bind_some, nI_1]
      have hup : ∀ {Q : Nat → Prop}, (∀ T, T < S → Q T) → Q S → ∀ T, T < S + 1 → Q T := fun ha hb T hT => by
        by_cases e : T = S
        · rw [e]; exact hb
        · exact ha T (by omega)
      by_cases hsub : sb S A
      · have hz : nI (df S A) = 0 := by rw [(df_zero hS2).mpr hsub]; rfl
        simp only [if_pos hz]
        rcases hI with ⟨rfl, rfl, rfl, h4⟩ | ⟨B, hB, rfl, rfl, rfl, h4⟩
        · have h13 : ¬ (13 : Int32) ≤ nI (pk S 12) := nI_ge (a := pk S 12) (b := 13) (by omega) (by decide)
          simp only [if_neg h13, if_pos rfl]
          by_cases ho : opN w h (df A S) = true
          · simp only [if_pos ho, if10]
            exact ih (S + 1) _ _ _ (by omega) (by omega) (Or.inl ⟨rfl, rfl, rfl, hup h4 (fun _ => ho)⟩)
          · simp only [if_neg ho, if00]
            refine ih (S + 1) _ _ _ (by omega) (by omega) (Or.inr ⟨S, hS, rfl, rfl, rfl, hup (fun T hT h5 h6 => ?_) (fun _ _ => Nat.le_refl _)⟩)
            rw [h4 T hT h5] at h6; cases h6
        · have hB9 : ¬ nI B = (-9 : Int32) := fun e => by
            have h7 : (nI B).toInt = (-9 : Int32).toInt := by rw [e]
            rw [nI_toInt (by omega)] at h7
            have h8 : (-9 : Int32).toInt = -9 := by decide
            omega
          have hpB := pk_leN B 12
          simp only [if_neg hB9, e_size n hn (show B < 4096 by omega), Option.bind_some]
          by_cases hle : pk B 12 ≤ pk S 12
          · simp only [if_pos (nI_le hle (show pk S 12 < 2 ^ 31 by omega))]
            exact ih (S + 1) _ _ _ (by omega) (by omega) (Or.inr ⟨B, hB, rfl, rfl, rfl, hup h4 (fun _ _ => hle)⟩)
          · simp only [if_neg (nI_ge (show pk S 12 < pk B 12 by omega) (show pk B 12 < 2 ^ 31 by omega))]
            by_cases ho : opN w h (df A S) = true
            · simp only [if_pos ho, if10]
              refine ih (S + 1) _ _ _ (by omega) (by omega) (Or.inr ⟨B, hB, rfl, rfl, rfl, hup h4 (fun _ h6 => ?_)⟩)
              rw [ho] at h6; cases h6
            · simp only [if_neg ho, if00]
              refine ih (S + 1) _ _ _ (by omega) (by omega) (Or.inr ⟨S, hS, rfl, rfl, rfl, hup (fun T hT h5 h6 => ?_) (fun _ _ => Nat.le_refl _)⟩)
              have := h4 T hT h5 h6
              omega
      · have hz : ¬ nI (df S A) = 0 := fun e => hsub ((df_zero hS2).mp (i_inj (b := 0) (by have := df_lt (b := A) hS2; omega) (by decide) e))
        obtain ⟨hp1, hp2⟩ := pk_sub_lt hS2 hsub
        have hsA : sb (S &&& A) A := and_sbr S A
        simp only [if_neg hz]
        rcases hI with ⟨rfl, rfl, rfl, h4⟩ | ⟨B, hB, rfl, rfl, rfl, h4⟩
        · have ho := h4 (S &&& A) hp2 hsA
          rw [df_and hA2] at ho
          simp only [if_pos rfl, if_pos ho, if10]
          exact ih (S + 1) _ _ _ (by omega) (by omega) (Or.inl ⟨rfl, rfl, rfl, hup h4 (fun h5 => absurd h5 hsub)⟩)
        · have hB9 : ¬ nI B = (-9 : Int32) := fun e => by
            have h7 : (nI B).toInt = (-9 : Int32).toInt := by rw [e]
            rw [nI_toInt (by omega)] at h7
            have h8 : (-9 : Int32).toInt = -9 := by decide
            omega
          have hpB := pk_leN B 12
          have hnx : ∃ r, _ := ih (S + 1) _ _ _ (by omega) (by omega) (Or.inr ⟨B, hB, rfl, rfl, rfl, hup h4 (fun h5 => absurd h5 hsub)⟩)
          simp only [if_neg hB9, e_size n hn (show B < 4096 by omega), Option.bind_some]
          by_cases hle : pk B 12 ≤ pk S 12
          · simp only [if_pos (nI_le hle (show pk S 12 < 2 ^ 31 by omega))]
            exact hnx
          · simp only [if_neg (nI_ge (show pk S 12 < pk B 12 by omega) (show pk B 12 < 2 ^ 31 by omega))]
            have ho : opN w h (df A S) = true := by
              cases hq : opN w h (df A S) with
              | true => rfl
              | false =>
                rw [← df_and hA2] at hq
                have := h4 (S &&& A) hp2 hsA hq
                omega
            simp only [if_pos ho, if10]
            exact hnx
theorem L_bars (n : Nat) (hn : 5000 ≤ n) {kN wN : Nat → Nat} {s w h : Nat} (hS : St kN wN s w h) (p1 : Int32) : ∃ r, fX4_bars n (fI kN) (fI wN) (nI w) (nI (w * h)) (nI s) (nI (alN w h)) (nI (fcN w h)) (nI (lcN w h)) p1 = some r ∧ fX5_bars n (nI s) (nI w) (nI h) (fI kN) (fI wN) p1 = some r := by
  obtain ⟨hk, hw, hs9, hsh⟩ := hS
  have hN := Sh0_N hsh
  unfold fX4_bars fX5_bars
  rcases within_or n (A := 0) (B := 20) (a := 0) (b := 20) rfl rfl (by decide) (by decide) p1 with ⟨h4, h5⟩ | ⟨t, -, ht, rfl, h4, h5⟩
  · simp only [h4, h5, Option.bind_some, if00]; exact ⟨_, rfl, rfl⟩
  · simp only [h4, h5, Option.bind_some, if10]
    rcases there n hsh with ⟨-, -, h1, h2⟩ | ⟨hs, h1, h2⟩
    · simp only [h1, if_pos h2, Option.bind_some, if00]; exact ⟨_, rfl, rfl⟩
    · have hP : 2 ^ (w * h) ≤ 4096 := show 2 ^ (w * h) ≤ 2 ^ 12 from Nat.pow_le_pow_right (by decide) hN
      simp only [h1, if_neg h2, Option.bind_some, if10, e_crackedSetBehind n hn hk hw hs9 hN (show t ≤ 30 by omega), e_crackedBehind n hn hk hw hs9 hN (show t ≤ 30 by omega), fX0_fewestBars]
      obtain ⟨r, h7, h8⟩ := bars_go n hn (nI s) (fI kN) (fI wN) hs (CR_lt kN wN s t (w * h)) n 0 0 13 (-9) (Nat.zero_le _) (by omega) (Or.inl ⟨rfl, rfl, rfl, fun T hT => absurd hT (Nat.not_lt_zero T)⟩)
      refine ⟨r, ?_, h8⟩
      have h7' : fX0_fewestBars_8 n n (nI w) (nI (w * h)) (nI (alN w h)) (nI (fcN w h)) (nI (lcN w h)) (nI (CR kN wN s t (w * h))) (0 : Int32) (13 : Int32) (0 : Int32) = some r := h7
      rw [h7']
      rfl
