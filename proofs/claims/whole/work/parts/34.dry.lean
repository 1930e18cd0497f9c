/-! hours that go by, hours to come, ways -/
def dyN (kN wN : Nat → Nat) (s t N : Nat) : Nat → Nat := fun i => if i < N then wN i - t * losN (kN i) s else wN i
theorem dyN_le {kN wN : Nat → Nat} {s t N : Nat} (hw : ∀ i, wN i ≤ 9) : ∀ i, dyN kN wN s t N i ≤ 9 := by
  intro i
  have h1 := hw i
  unfold dyN
  split <;> omega
theorem dy_step (kN wN : Nat → Nat) (s t i : Nat) : upN (dyN kN wN s t i) i (wN i - t * losN (kN i) s) = dyN kN wN s t (i + 1) := by
  funext j
  unfold upN dyN
  by_cases h : j = i
  · subst h; rw [if_pos rfl, if_pos (by omega)]
  · rw [if_neg h]
    by_cases h2 : j < i
    · rw [if_pos h2, if_pos (by omega)]
    · rw [if_neg h2, if_neg (by omega)]
theorem dy_self (kN wN : Nat → Nat) (s t i : Nat) : dyN kN wN s t i i = wN i := by unfold dyN; rw [if_neg (Nat.lt_irrefl i)]
theorem dy_0 (kN wN : Nat → Nat) (s t : Nat) : dyN kN wN s t 0 = wN := by funext i; unfold dyN; rw [if_neg (Nat.not_lt_zero i)]
theorem dpos {a b : Nat} (ha : a ≤ 1000) (hb : b ≤ 1000) : (if (0 : Int32) < nI a - nI b then nI a - nI b else 0) = nI (a - b) := by
  have h1 : (0 : Int32) < nI a - nI b ↔ b < a := by
    rw [Int32.lt_iff_toInt_lt, pk_sub_toInt (by omega) (by omega), show (0 : Int32).toInt = 0 by decide]
    omega
  by_cases h : b < a
  · rw [if_pos (h1.mpr h), pk_sub (by omega)]
  · rw [if_neg (fun q => h (h1.mp q)), show a - b = 0 by omega]; rfl
theorem e_passHours_2 (n : Nat) {kN wN : Nat → Nat} {s t N : Nat} (hk : ∀ i, kN i ≤ 2) (hw : ∀ i, wN i ≤ 9) (hs : s ≤ 9) (hN : N ≤ 12) (ht : t ≤ 30) : ∀ (k i : Nat), i ≤ N → N < i + k → fX0_passHours_2 n k (fI kN) (fI (dyN kN wN s t i)) (nI N) (nI s) (nI t) (nI i) = some (fI (dyN kN wN s t N)) := by
  intro k
  induction k with
  | zero => intro i h1 h2; omega
  | succ k ih =>
    intro i h1 h2
    rw [fX0_passHours_2]
    by_cases h : N ≤ i
    · have h3 : i = N := by omega
      subst h3
      rw [if_pos (nI_le (Nat.le_refl _) (by omega))]
    · have hwi := hw i
      have hm := mul_le_300 ht (losN_le (k := kN i) hs)
      simp only [if_neg (nI_ge (show i < N by omega) (by omega)), gd_in (show i < 12 by omega) (by decide), e_loses0 n hk hs (show i < 12 by omega), Option.bind_some, nI_clamp (show i < 2 ^ 31 by omega), dy_self, pk_mul, nI_1]
      rw [dpos (by rw [dy_self]; omega) (by omega), dy_self, upd_fI, dy_step]
      exact ih (i + 1) (by omega) (by omega)
theorem e_passHours (n : Nat) (hn : 5000 ≤ n) {kN wN : Nat → Nat} {s t N : Nat} (hk : ∀ i, kN i ≤ 2) (hw : ∀ i, wN i ≤ 9) (hs : s ≤ 9) (hN : N ≤ 12) (ht : t ≤ 30) : fX0_passHours n (fI kN) (fI wN) (nI N) (nI s) (nI t) = some (fI (dyN kN wN s t N)) := by
  have h := e_passHours_2 n hk hw hs hN ht n 0 (Nat.zero_le _) (by omega)
  rw [dy_0] at h
  exact h
theorem e_dryBy_2 (n : Nat) {kN wN : Nat → Nat} {s t w h : Nat} (hk : ∀ i, kN i ≤ 2) (hw : ∀ i, wN i ≤ 9) (hs : s ≤ 9) (hN : w * h ≤ 12) (ht : t ≤ 30) : ∀ (k i : Nat), i ≤ w * h → w * h < i + k → fX5_dryBy_2 n k (nI s) (nI w) (nI h) (fI kN) (fI (dyN kN wN s t i)) (nI t) (nI i) = some (fI (dyN kN wN s t (w * h))) := by
  intro k
  induction k with
  | zero => intro i h1 h2; omega
  | succ k ih =>
    intro i h1 h2
    rw [fX5_dryBy_2, e_cellsOf, Option.bind_some]
    by_cases hh : w * h ≤ i
    · have h3 : i = w * h := by omega
      rw [if_pos (nI_le hh (by omega)), h3]
    · simp only [if_neg (nI_ge (show i < w * h by omega) (by omega)), e_wetBehind n hk (dyN_le hw) hs (show i < 12 by omega) ht, Option.bind_some, gd_in (show i < 12 by omega) (by decide), nI_clamp (show i < 2 ^ 31 by omega), dy_self, nI_1]
      rw [upd_fI, dy_step]
      exact ih (i + 1) (by omega) (by omega)
theorem e_dryBy (n : Nat) (hn : 5000 ≤ n) {kN wN : Nat → Nat} {s t w h : Nat} (hk : ∀ i, kN i ≤ 2) (hw : ∀ i, wN i ≤ 9) (hs : s ≤ 9) (hN : w * h ≤ 12) (ht : t ≤ 30) : fX5_dryBy n (nI s) (nI w) (nI h) (fI kN) (fI wN) (nI t) = some (fI (dyN kN wN s t (w * h))) := by
  have h1 := e_dryBy_2 n hk hw hs hN ht n 0 (Nat.zero_le _) (by omega)
  rw [dy_0] at h1
  exact h1
theorem pk_split {x y z : Nat} : ∀ {k : Nat}, (∀ i, i < k → z.testBit i = (x.testBit i || y.testBit i) ∧ (x.testBit i && y.testBit i) = false) → pk z k = pk x k + pk y k := by
  intro k
  induction k with
  | zero => intro _; rfl
  | succ k ih =>
    intro h
    have h1 := ih (fun i hi => h i (Nat.lt_succ_of_lt hi))
    obtain ⟨h2, h3⟩ := h k (Nat.lt_succ_self k)
    unfold pk
    rw [h1, h2]
    cases hx : x.testBit k <;> cases hy : y.testBit k
    · simp
    · simp; omega
    · simp; omega
    · rw [hx, hy] at h3; cases h3
theorem e_crackedSet' (n : Nat) (hn : 5000 ≤ n) (kN : Nat → Nat) {wN : Nat → Nat} (s : Nat) {N : Nat} (hw : ∀ i, wN i ≤ 9) (hN : N ≤ 12) : fX0_crackedSet n (fI wN) (nI N) = some (nI (CR kN wN s 0 N)) := e_crackedSet n hn hw hN
theorem al_test {w h i : Nat} : (alN w h).testBit i = decide (i < w * h) := by unfold alN; exact Nat.testBit_two_pow_sub_one _ _
theorem CR0_test (kN wN : Nat → Nat) (s N i : Nat) : (CR kN wN s 0 N).testBit i = (decide (i < N) && decide (wN i = 0)) := by rw [CR0, bs_test]
theorem WS_test {wN : Nat → Nat} {w h i : Nat} (hN : w * h ≤ 12) : (WS wN w h).testBit i = (decide (i < w * h) && !decide (wN i = 0)) := by
  rcases Nat.lt_or_ge i (w * h) with q | q
  · unfold WS
    rw [df_test (by omega), al_test, CR0_test, decide_eq_true q]
    rfl
  · rw [tb_lt (WS_lt wN w h) q, decide_eq_false (by omega)]; rfl
theorem dry_count {kN wN : Nat → Nat} {s t w h : Nat} (hN : w * h ≤ 12) : pk (CR kN (dyN kN wN s t (w * h)) s 0 (w * h)) 12 = pk (WS wN w h &&& CR kN (dyN kN wN s t (w * h)) s 0 (w * h)) 12 + pk (CR kN wN s 0 (w * h)) 12 := by
  apply pk_split
  intro i _
  rw [Nat.testBit_and, WS_test hN, CR0_test, CR0_test]
  by_cases hi : i < w * h
  · rw [decide_eq_true hi]
    have h1 : dyN kN wN s t (w * h) i = wN i - t * losN (kN i) s := by unfold dyN; rw [if_pos hi]
    rw [h1]
    by_cases h0 : wN i = 0
    · simp [h0]
    · simp [h0]
  · rw [decide_eq_false hi]; simp
theorem L_dry (n : Nat) (hn : 5000 ≤ n) {kN wN : Nat → Nat} {s w h : Nat} (hS : St kN wN s w h) (hr p1 : Int32) : ∃ r hr' wN', fX4_dry n hr (fI kN) (fI wN) (nI (w * h)) (nI s) (nI (alN w h)) p1 = some (r, hr', fI wN') ∧ fX5_dry n (nI s) (nI w) (nI h) hr (fI kN) (fI wN) p1 = some (r, hr', fI wN') ∧ ∀ i, wN' i ≤ 9 := by
  obtain ⟨hk, hw, hs9, hsh⟩ := hS
  have hN := Sh0_N hsh
  unfold fX4_dry fX5_dry
  rcases within_or n (A := 1) (B := 30) (a := 1) (b := 30) rfl rfl (by decide) (by decide) p1 with ⟨h4, h5⟩ | ⟨t, -, ht, rfl, h4, h5⟩
  · simp only [h4, h5, Option.bind_some, if00]; exact ⟨_, _, wN, rfl, rfl, hw⟩
  · simp only [h4, h5, Option.bind_some, if10]
    rcases there n hsh with ⟨-, -, h1, h2⟩ | ⟨hs, h1, h2⟩
    · simp only [h1, if_pos h2, Option.bind_some, if00]; exact ⟨_, _, wN, rfl, rfl, hw⟩
    · have hle : pk (CR kN wN s 0 (w * h)) 12 ≤ pk (CR kN (dyN kN wN s t (w * h)) s 0 (w * h)) 12 := by rw [dry_count hN]; omega
      have h0 : fX5_crackedBehind n (nI s) (nI w) (nI h) (fI kN) (fI wN) (0 : Int32) = _ := e_crackedBehind (t := 0) n hn hk hw hs9 hN (by decide)
      have h0' : fX5_crackedBehind n (nI s) (nI w) (nI h) (fI kN) (fI (dyN kN wN s t (w * h))) (0 : Int32) = _ := e_crackedBehind (t := 0) n hn hk (dyN_le hw) hs9 hN (by decide)
      have hlt : WS wN w h &&& CR kN (dyN kN wN s t (w * h)) s 0 (w * h) < 4096 := Nat.lt_of_le_of_lt Nat.and_le_right (CR_4096 hsh)
      simp only [h1, if_neg h2, Option.bind_some, if10, e_wetSet n hn hw hN, e_passHours n hn hk hw hs9 hN ht, e_crackedSet' n hn kN s (dyN_le hw) hN, i_and, e_bitCount n hlt, h0, e_dryBy n hn hk hw hs9 hN ht, h0', e_size n hn (CR_4096 hsh)]
      rw [pk_sub hle]
      refine ⟨_, _, _, rfl, ?_, dyN_le hw⟩
      rw [dry_count hN, Nat.add_sub_cancel]
theorem L_when (n : Nat) (hn : 5000 ≤ n) {kN wN : Nat → Nat} {s w h : Nat} (hS : St kN wN s w h) (p1 : Int32) : ∃ r, fX4_when n (fI kN) (fI wN) (nI (w * h)) (nI s) p1 = some r ∧ fX5_when n (nI s) (nI w) (nI h) (fI kN) (fI wN) p1 = some r := by
  obtain ⟨hk, hw, hs9, hsh⟩ := hS
  have hN := Sh0_N hsh
  unfold fX4_when fX5_when
  rcases isCell2 n hsh p1 with ⟨h4, h5⟩ | ⟨c, hc, rfl, h4, h5⟩
  · simp only [h4, h5, Option.bind_some, if00]; exact ⟨_, rfl, rfl⟩
  · simp only [h4, h5, Option.bind_some, if10]
    have key : ∀ (k t : Nat), t ≤ 21 → 21 < t + k → ∃ r, fX4_when_15 n k (fI kN) (fI wN) (nI (w * h)) (nI s) (nI c) (nI t) = some r ∧ fX5_when_12 n k (nI s) (nI w) (nI h) (fI kN) (fI wN) (nI c) (nI t) = some r := by
      intro k
      induction k with
      | zero => intro t h1 h2; omega
      | succ k ih =>
        intro t h1 h2
        rw [fX4_when_15, fX5_when_12]
        by_cases hb : 20 < t
        · have hb2 : (20 : Int32) < nI t := nI_lt (a := 20) hb (by omega)
          simp only [if_pos hb2, fX5_when_33]
          exact ⟨_, rfl, rfl⟩
        · have hb2 : ¬ (20 : Int32) < nI t := nI_nlt (b := 20) (a := t) |> fun _ => fun q => hb ((nI_ltI (a := 20) (by decide) (by omega)).mp q)
          have hwc := hw c
          simp only [if_neg hb2, e_isCrackedBehind n hk hw hs9 hN hc (show t ≤ 30 by omega), e_wetBehind n hk hw hs9 (show c < 12 by omega) (show t ≤ 30 by omega), Option.bind_some, fX5_when_33, nI_1]
          by_cases hz : wN c ≤ t * losN (kN c) s
          · have hz2 : nI (wN c - t * losN (kN c) s) ≤ 0 := by rw [show wN c - t * losN (kN c) s = 0 by omega]; decide
            simp only [if_pos hz, if10, if_pos hz2]
            exact ⟨_, rfl, rfl⟩
          · have hz2 : ¬ nI (wN c - t * losN (kN c) s) ≤ 0 := nI_nle (by omega) (by omega)
            simp only [if_neg hz, if00, if_neg hz2]
            exact ih (t + 1) (by omega) (by omega)
    exact key n 0 (by omega) (by omega)
theorem nlt20 {t : Nat} (h : ¬ 20 < t) (ht : t < 2 ^ 31) : ¬ (20 : Int32) < nI t := fun q => h ((nI_ltI (a := 20) (by decide) ht).mp q)
theorem lt20 {t : Nat} (h : 20 < t) (ht : t < 2 ^ 31) : (20 : Int32) < nI t := nI_lt (a := 20) h ht
theorem L_opens (n : Nat) (hn : 5000 ≤ n) {kN wN : Nat → Nat} {s w h : Nat} (hS : St kN wN s w h) : ∃ r, fX4_opens n (fI kN) (fI wN) (nI w) (nI (w * h)) (nI s) (nI (alN w h)) (nI (fcN w h)) (nI (lcN w h)) = some r ∧ fX5_opens n (nI s) (nI w) (nI h) (fI kN) (fI wN) = some r := by
  obtain ⟨hk, hw, hs9, hsh⟩ := hS
  have hN := Sh0_N hsh
  unfold fX4_opens fX5_opens
  rcases there n hsh with ⟨-, -, h1, h2⟩ | ⟨hs, h1, h2⟩
  · simp only [h1, if_pos h2, Option.bind_some, if00]; exact ⟨_, rfl, rfl⟩
  · simp only [h1, if_neg h2, Option.bind_some, if10]
    have key : ∀ (k t : Nat), t ≤ 21 → 21 < t + k → ∃ r, fX4_opens_15 n k (fI kN) (fI wN) (nI w) (nI (w * h)) (nI s) (nI (alN w h)) (nI (fcN w h)) (nI (lcN w h)) (nI t) = some r ∧ fX5_opens_12 n k (nI s) (nI w) (nI h) (fI kN) (fI wN) (nI t) = some r := by
      intro k
      induction k with
      | zero => intro t h1 h2; omega
      | succ k ih =>
        intro t h1 h2
        rw [fX4_opens_15, fX5_opens_12]
        by_cases hb : 20 < t
        · simp only [if_pos (lt20 hb (by omega)), fX5_opens_36]
          exact ⟨_, rfl, rfl⟩
        · simp only [if_neg (nlt20 hb (by omega)), e_crackedSetBehind n hn hk hw hs9 hN (show t ≤ 30 by omega), e_crackedBehind n hn hk hw hs9 hN (show t ≤ 30 by omega), Option.bind_some, e_isOpenBy n hn hs (CR_lt kN wN s t (w * h)), e_isOpen n hn hs (CR_lt kN wN s t (w * h)), fX5_opens_36, nI_1]
          by_cases hz : opN w h (CR kN wN s t (w * h)) = true
          · simp only [if_pos hz, if10]
            exact ⟨_, rfl, rfl⟩
          · simp only [if_neg hz, if00]
            exact ih (t + 1) (by omega) (by omega)
    exact key n 0 (by omega) (by omega)
theorem L_dates (n : Nat) (hn : 5000 ≤ n) {kN wN : Nat → Nat} {s w h : Nat} (hS : St kN wN s w h) (p1 : Int32) : ∃ r, fX4_dates n (fI kN) (fI wN) (nI (w * h)) (nI s) (nI (alN w h)) p1 = some r ∧ fX5_dates n (nI s) (nI w) (nI h) (fI kN) (fI wN) p1 = some r := by
  obtain ⟨hk, hw, hs9, hsh⟩ := hS
  have hN := Sh0_N hsh
  unfold fX4_dates fX5_dates
  rcases there n hsh with ⟨-, -, h1, h2⟩ | ⟨hs, h1, h2⟩
  · simp only [h1, if_pos h2, Option.bind_some, if00]; exact ⟨_, rfl, rfl⟩
  · simp only [h1, if_neg h2, Option.bind_some, if10, e_cellsOf, i_bit (show w * h < 32 by omega)]
    rw [show nI (2 ^ (w * h)) - (1 : Int32) = nI (alN w h) from pk_sub Nat.one_le_two_pow]
    have hal := Sh_pow hs (alN_lt w h)
    rcases within_or n (A := 0) (B := nI (alN w h)) (a := 0) (b := alN w h) rfl rfl (by decide) (by omega) p1 with ⟨h4, h5⟩ | ⟨x, -, hx, rfl, h4, h5⟩
    · simp only [h4, h5, Option.bind_some, if00]; exact ⟨_, rfl, rfl⟩
    · simp only [h4, h5, Option.bind_some, if10]
      have key : ∀ (k t : Nat) (a : Int32), t ≤ 21 → 21 < t + k → ∃ r, fX4_dates_35 n k (fI kN) (fI wN) (nI (w * h)) (nI s) (nI (alN w h)) (nI x) a (nI t) = some r ∧ fX5_dates_33 n k (nI s) (nI w) (nI h) (fI kN) (fI wN) (nI x) a (nI t) = some r := by
        intro k
        induction k with
        | zero => intro t a h1 h2; omega
        | succ k ih =>
          intro t a h1 h2
          rw [fX4_dates_35, fX5_dates_33]
          by_cases hb : 20 < t
          · simp only [if_pos (lt20 hb (by omega))]
            exact ⟨_, rfl, rfl⟩
          · simp only [if_neg (nlt20 hb (by omega)), e_crackedSetBehind n hn hk hw hs9 hN (show t ≤ 30 by omega), e_crackedBehind n hn hk hw hs9 hN (show t ≤ 30 by omega), Option.bind_some, nI_1]
            by_cases hz : nI (CR kN wN s t (w * h)) = nI x
            · simp only [if_pos hz]
              exact ih (t + 1) _ (by omega) (by omega)
            · simp only [if_neg hz, Int32.or_zero]
              exact ih (t + 1) _ (by omega) (by omega)
      exact key n 0 0 (by omega) (by omega)
/-! ways -/
def wy (w h A now : Nat) : Nat → Nat → Nat → Nat
  | 0, _, x => x
  | j + 1, c, x => wy w h A now j (c + 1) (if A.testBit c = true ∧ mkN w h c &&& now ≠ 0 then x ||| 2 ^ c else x)
theorem wy_test {w h A now : Nat} : ∀ (j c x i : Nat), (wy w h A now j c x).testBit i = (x.testBit i || (decide (c ≤ i) && decide (i < c + j) && A.testBit i && decide (mkN w h i &&& now ≠ 0))) := by
  intro j
  induction j with
  | zero =>
    intro c x i
    have h1 : (decide (c ≤ i) && decide (i < c + 0)) = false := by
      by_cases q : c ≤ i
      · simp [q]
      · simp [q]
    rw [h1, wy]; simp
  | succ j ih =>
    intro c x i
    rw [wy, ih]
    by_cases hi : i = c
    · subst hi
      have h1 : decide (i + 1 ≤ i) = false := decide_eq_false (by omega)
      have h2 : decide (i ≤ i) = true := decide_eq_true (Nat.le_refl i)
      have h3 : decide (i < i + (j + 1)) = true := decide_eq_true (by omega)
      rw [h1, h2, h3]
      by_cases hq : A.testBit i = true ∧ mkN w h i &&& now ≠ 0
      · rw [if_pos hq, bit_sb, hq.1, decide_eq_true hq.2]; simp
      · rw [if_neg hq]
        by_cases ha : A.testBit i = true
        · have hm : ¬ mkN w h i &&& now ≠ 0 := fun q => hq ⟨ha, q⟩
          rw [decide_eq_false hm]; simp
        · have ha2 : A.testBit i = false := by simpa using ha
          rw [ha2]; simp
    · have h1 : decide (c + 1 ≤ i) = decide (c ≤ i) := decide_eq_decide.mpr (by omega)
      have h2 : decide (i < c + 1 + j) = decide (i < c + (j + 1)) := decide_eq_decide.mpr (by omega)
      rw [h1, h2]
      have h3 : (if A.testBit c = true ∧ mkN w h c &&& now ≠ 0 then x ||| 2 ^ c else x).testBit i = x.testBit i := by
        split
        · rw [bit_sb, decide_eq_false (fun e => hi e.symm), Bool.or_false]
        · rfl
      rw [h3]
theorem wy_lt {w h A now : Nat} : ∀ (j c x : Nat), c + j ≤ w * h → x < 2 ^ (w * h) → wy w h A now j c x < 2 ^ (w * h) := by
  intro j
  induction j with
  | zero => intro c x _ hx; exact hx
  | succ j ih =>
    intro c x hc hx
    rw [wy]
    refine ih (c + 1) _ (by omega) ?_
    split
    · exact Nat.or_lt_two_pow hx (Nat.pow_lt_pow_right (by decide) (by omega))
    · exact hx
theorem wy_J {w h A x : Nat} (hs : Sh w h) (hA : A < 2 ^ (w * h)) (hx : x < 2 ^ (w * h)) (hxA : sb x A) : wy w h A x (w * h) 0 x = J w h A x := by
  refine tb_ext (wy_lt _ _ _ (by omega) hx) (J_lt hA) fun i hi => ?_
  rw [wy_test, J_test, bes_mk hs hx hi, decide_eq_true (Nat.zero_le i), decide_eq_true (show i < 0 + w * h by omega)]
  cases hq : x.testBit i with
  | true => rw [hxA i hq]; simp
  | false =>
    cases A.testBit i <;> simp
theorem e_way_70 {w h A now : Nat} (n : Nat) (K : Int32 → Int32 → Int32 → (Nat → Int32) → (Nat → Int32) → Int32 → Int32 → Int32 → Int32 → Option Int32) (s x2 x5 : Int32) (kd wt : Nat → Int32) (hs : Sh w h) (hA : A < 2 ^ (w * h)) (hnow : now < 2 ^ (w * h)) : ∀ (k c x : Nat), c ≤ w * h → w * h < c + k → fX5_way_70 n K k s (nI w) (nI h) kd wt x2 (nI A) (nI now) x5 (nI x) (nI c) = K s (nI w) (nI h) kd wt x2 (nI A) x5 (nI (wy w h A now (w * h - c) c x)) := by
  have hN := (Sh_lt hs).1
  have hA2 := Sh_pow hs hA
  have hn2 := Sh_pow hs hnow
  intro k
  induction k with
  | zero => intro c x h1 h2; omega
  | succ k ih =>
    intro c x h1 h2
    rw [fX5_way_70, e_cellsOf, Option.bind_some]
    by_cases hi : w * h ≤ c
    · rw [if_pos (nI_le hi (by omega)), show w * h - c = 0 by omega]; rfl
    · rw [if_neg (nI_ge (by omega) (by omega)), e_isOf n (by omega) (by omega), Option.bind_some, nI_1]
      rw [show w * h - c = (w * h - (c + 1)) + 1 by omega, wy]
      by_cases hb : A.testBit c = true
      · rw [if_pos hb, if10, e_besides n hs (by omega), Option.bind_some, i_and]
        by_cases hm : mkN w h c &&& now = 0
        · rw [if_pos (by rw [hm]; rfl), i_or0, if_neg (fun q => q.2 hm)]
          exact ih (c + 1) x (by omega) (by omega)
        · have hm2 : mkN w h c &&& now < 2 ^ 31 := Nat.lt_of_le_of_lt Nat.and_le_right (by omega)
          rw [if_neg (show ¬ nI (mkN w h c &&& now) = 0 from fun q => hm (i_inj hm2 (by decide) q)), i_bit (by omega), i_or, if_pos ⟨hb, hm⟩]
          exact ih (c + 1) _ (by omega) (by omega)
      · rw [if_neg hb, if00, i_or0, if_neg (fun q => hb q.1)]
        exact ih (c + 1) x (by omega) (by omega)
theorem and_bit {x t : Nat} : (x &&& 2 ^ t = 0) ↔ x.testBit t = false := by
  constructor
  · intro h
    cases hq : x.testBit t with
    | false => rfl
    | true =>
      exact absurd h (and_ne.mpr ⟨t, hq, by rw [Nat.testBit_two_pow]; simp⟩)
  · intro h
    refine Classical.byContradiction fun hne => ?_
    obtain ⟨i, h1, h2⟩ := and_ne.mp hne
    rw [Nat.testBit_two_pow, decide_eq_true_iff] at h2
    subst h2
    rw [h] at h1; cases h1
theorem L_way (n : Nat) (hn : 5000 ≤ n) {kN wN : Nat → Nat} {s w h : Nat} (hS : St kN wN s w h) (p1 p2 : Int32) : ∃ r, fX4_way n (fI wN) (nI w) (nI (w * h)) (nI (alN w h)) (nI (fcN w h)) (nI (lcN w h)) p1 p2 = some r ∧ fX5_way n (nI s) (nI w) (nI h) (fI kN) (fI wN) p1 p2 = some r := by
  obtain ⟨hk, hw, hs9, hsh⟩ := hS
  have hN := Sh0_N hsh
  unfold fX4_way fX5_way
  rcases isCell2 n hsh p1 with ⟨h4, h5⟩ | ⟨c, hc, rfl, h4, h5⟩
  · simp only [h4, h5, Option.bind_some, if00]; exact ⟨_, rfl, rfl⟩
  · simp only [h4, h5, Option.bind_some, if10]
    rcases isCell2 n hsh p2 with ⟨h4, h5⟩ | ⟨t, ht, rfl, h4, h5⟩
    · simp only [h4, h5, Option.bind_some, if00]; exact ⟨_, rfl, rfl⟩
    · have hs := Sh0_sh hsh hc
      have h0 : fX5_crackedBehind n (nI s) (nI w) (nI h) (fI kN) (fI wN) (0 : Int32) = _ := e_crackedBehind (t := 0) n hn hk hw hs9 hN (by decide)
      have hA : CR kN wN s 0 (w * h) < 2 ^ (w * h) := CR_lt kN wN s 0 (w * h)
      simp only [h4, h5, Option.bind_some, if10, h0, fX0_fewestSteps, e_crackedSet' n hn kN s hw hN, i_bit (show c < 32 by omega), i_and]
      rw [Nat.and_comm (2 ^ c)]
      generalize CR kN wN s 0 (w * h) = A at hA
      have hA2 := Sh_pow hs hA
      have key : ∀ (k i x : Nat), i ≤ w * h → w * h < i + k → x < 2 ^ (w * h) → sb x A → ∃ r, fX0_fewestSteps_15 n k (fI wN) (nI w) (nI (w * h)) (nI (alN w h)) (nI (fcN w h)) (nI (lcN w h)) (nI t) (nI A) (nI x) (nI i) = some r ∧ fX5_way_34 n k (nI s) (nI w) (nI h) (fI kN) (fI wN) (nI t) (nI A) (nI x) (nI i) = some r := by
        intro k
        induction k with
        | zero => intro i x h1 h2; omega
        | succ k ih =>
          intro i x h1 h2 hx hxA
          have hx2 := Sh_pow hs hx
          rw [fX0_fewestSteps_15, fX5_way_34]
          simp only [e_cellsOf, Option.bind_some, e_isOf n (show A < 2 ^ 31 by omega) (show t < 32 by omega), e_isOf n (show x < 2 ^ 31 by omega) (show t < 32 by omega), i_bit (show t < 32 by omega), i_and, e_beside n hs hx, i_or, nI_1]
          by_cases hi : w * h ≤ i
          · simp only [if_pos (nI_le hi (show i < 2 ^ 31 by omega))]; exact ⟨_, rfl, rfl⟩
          · simp only [if_neg (nI_ge (show i < w * h by omega) (show w * h < 2 ^ 31 by omega))]
            have hm2 : x &&& 2 ^ t < 2 ^ 31 := Nat.lt_of_le_of_lt Nat.and_le_left (by omega)
            cases hq : x.testBit t with
            | true =>
              have h3 : ¬ nI (x &&& 2 ^ t) = 0 := fun q => by
                have h6 := and_bit.mp (i_inj (b := 0) hm2 (by decide) q)
                rw [hq] at h6; cases h6
              simp only [if_neg h3, hxA t hq, if_true, if10]
              exact ⟨_, rfl, rfl⟩
            | false =>
              have h3 : nI (x &&& 2 ^ t) = 0 := by rw [and_bit.mpr hq]; rfl
              have hJ := ih (i + 1) (J w h A x) (by omega) (by omega) (J_lt hA) J_A
              cases ha : A.testBit t with
              | true =>
                simp only [if_pos h3, if_true, if10, if00, Bool.false_eq_true, if_false]
                rw [show (0 : Int32) = nI 0 from rfl, e_way_70 n _ _ _ _ _ _ hs hA hx n 0 x (Nat.zero_le _) (by omega), Nat.sub_zero, wy_J hs hA hx hxA]
                simp only [nI_1]
                exact hJ
              | false =>
                simp only [if_pos h3, if00, Bool.false_eq_true, if_false]
                have key2 : ∀ (k i x : Nat), i ≤ w * h → w * h < i + k → x < 2 ^ (w * h) → sb x A → fX0_fewestSteps_15 n k (fI wN) (nI w) (nI (w * h)) (nI (alN w h)) (nI (fcN w h)) (nI (lcN w h)) (nI t) (nI A) (nI x) (nI i) = some (-9 : Int32) := by
                  intro k
                  induction k with
                  | zero => intro i x h1 h2; omega
                  | succ k ih2 =>
                    intro i x h1 h2 hx hxA
                    have hx2 := Sh_pow hs hx
                    rw [fX0_fewestSteps_15]
                    simp only [i_bit (show t < 32 by omega), i_and, e_beside n hs hx, i_or, nI_1, Option.bind_some]
                    by_cases hi : w * h ≤ i
                    · simp only [if_pos (nI_le hi (show i < 2 ^ 31 by omega))]
                    · simp only [if_neg (nI_ge (show i < w * h by omega) (show w * h < 2 ^ 31 by omega))]
                      have hq2 : x.testBit t = false := by
                        cases hz : x.testBit t with
                        | false => rfl
                        | true => have := hxA t hz; rw [ha] at this; cases this
                      have h3 : nI (x &&& 2 ^ t) = 0 := by rw [and_bit.mpr hq2]; rfl
                      simp only [if_pos h3]
                      exact ih2 (i + 1) (J w h A x) (by omega) (by omega) (J_lt hA) J_A
                exact ⟨_, key2 k (i + 1) (J w h A x) (by omega) (by omega) (J_lt hA) J_A, rfl⟩
      obtain ⟨r, h7, h8⟩ := key n 0 (A &&& 2 ^ c) (Nat.zero_le _) (by omega) (Nat.lt_of_le_of_lt Nat.and_le_left hA) (fun i hi => by
        rw [Nat.testBit_and, Bool.and_eq_true] at hi
        exact hi.1)
      refine ⟨r, ?_, h8⟩
      rw [show (0 : Int32) = nI 0 from rfl, h7]
      rfl
