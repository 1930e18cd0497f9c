/-! what cells lose, sets of cracked cells, open -/
abbrev fI (g : Nat → Nat) : Nat → Int32 := fun i => nI (g i)
def losN (k s : Nat) : Nat := if k = 1 then s + 1 else if k = 2 then s / 2 else s
def CR (kN wN : Nat → Nat) (s t N : Nat) : Nat := bs (fun i => decide (wN i ≤ t * losN (kN i) s)) N
theorem losN_le {k s : Nat} (hs : s ≤ 9) : losN k s ≤ 10 := by unfold losN; split <;> (try split) <;> omega
theorem e_loses0 (n : Nat) {kN : Nat → Nat} {s c : Nat} (hk : ∀ i, kN i ≤ 2) (hs : s ≤ 9) (hc : c < 12) : fX0_losesOf n (fI kN) (nI s) (nI c) = some (nI (losN (kN c) s)) := by
  unfold fX0_losesOf
  rw [gd_in hc (by decide), nI_clamp (by omega)]
  have h1 := hk c
  rcases (show kN c = 0 ∨ kN c = 1 ∨ kN c = 2 by omega) with h | h | h
  · simp only [fI, h]
    rw [if_neg (by decide), if_neg (by decide)]; rfl
  · simp only [fI, h]
    rw [if_pos (by decide), nI_1]; rfl
  · simp only [fI, h]
    rw [if_neg (by decide), if_pos (by decide), show (2 : Int32) = nI 2 from rfl, pk_div (by omega) (by decide) (by decide)]; rfl
theorem e_loses5 (n : Nat) {kN : Nat → Nat} {s c : Nat} (hk : ∀ i, kN i ≤ 2) (hs : s ≤ 9) (hc : c < 12) : fX5_losesOf n (nI s) (fI kN) (nI c) = some (nI (losN (kN c) s)) := by
  unfold fX5_losesOf
  rw [gd_in hc (by decide), nI_clamp (by omega), gd_in hc (by decide)]
  have h1 := hk c
  rcases (show kN c = 0 ∨ kN c = 1 ∨ kN c = 2 by omega) with h | h | h
  · simp only [fI, h]
    rw [if_pos (by decide)]; rfl
  · simp only [fI, h]
    rw [if_neg (by decide), if_pos (by decide), nI_1]; rfl
  · simp only [fI, h]
    rw [if_neg (by decide), if_neg (by decide), show (2 : Int32) = nI 2 from rfl, pk_div (by omega) (by decide) (by decide)]; rfl
theorem e_crackedSet_4 (n : Nat) {wN : Nat → Nat} {N : Nat} (hw : ∀ i, wN i ≤ 9) (hN : N ≤ 12) : ∀ (k i : Nat), i ≤ N → N < i + k → fX0_crackedSet_4 n k (fI wN) (nI N) (nI (bs (fun j => decide (wN j = 0)) i)) (nI i) = some (nI (bs (fun j => decide (wN j = 0)) N)) := by
  intro k
  induction k with
  | zero => intro i h1 h2; omega
  | succ k ih =>
    intro i h1 h2
    rw [fX0_crackedSet_4]
    by_cases h : N ≤ i
    · have h3 : i = N := by omega
      subst h3
      rw [if_pos (nI_le (Nat.le_refl _) (by omega))]
    · have hwi := hw i
      rw [if_neg (nI_ge (by omega) (by omega)), gd_in (by omega) (by decide), nI_clamp (by omega), nI_1]
      by_cases hz : wN i = 0
      · rw [if_pos (show fI wN i = 0 by simp only [fI, hz]; rfl), i_bit (by omega), i_or, ← bs_pos (P := fun j => decide (wN j = 0)) (by simp [hz])]
        exact ih (i + 1) (by omega) (by omega)
      · rw [if_neg (show ¬ fI wN i = 0 from fun q => hz (i_inj (by omega) (by decide) q)), ← bs_neg (P := fun j => decide (wN j = 0)) (by simp [hz])]
        exact ih (i + 1) (by omega) (by omega)
theorem CR0 (kN wN : Nat → Nat) (s N : Nat) : CR kN wN s 0 N = bs (fun j => decide (wN j = 0)) N := bs_congr (fun i _ => by rw [Nat.zero_mul]; simp)
theorem e_crackedSet (n : Nat) (hn : 5000 ≤ n) {kN wN : Nat → Nat} {s N : Nat} (hw : ∀ i, wN i ≤ 9) (hN : N ≤ 12) : fX0_crackedSet n (fI wN) (nI N) = some (nI (CR kN wN s 0 N)) := by
  unfold fX0_crackedSet
  rw [CR0]
  exact e_crackedSet_4 n hw hN n 0 (Nat.zero_le _) (by omega)
theorem e_isCell {n N : Nat} (hN : N < 2 ^ 31) (c : Int32) : (fX0_isCell n (nI N) c = some 0 ∧ fX5_within n c 0 0 = fX5_within n c 0 0 ∧ (c < 0 ∨ nI N ≤ c)) ∨ (fX0_isCell n (nI N) c = some 1 ∧ True ∧ ∃ j, j < N ∧ c = nI j) := by
  rcases pk_ix c hN with h | h | ⟨j, hj, rfl⟩
  · left
    refine ⟨?_, rfl, Or.inl h⟩
    unfold fX0_isCell
    rw [if_pos h]
  · left
    refine ⟨?_, rfl, Or.inr h⟩
    unfold fX0_isCell
    by_cases h0 : c < 0
    · rw [if_pos h0]
    · rw [if_neg h0, if_pos h]
  · right
    refine ⟨?_, trivial, j, hj, rfl⟩
    unfold fX0_isCell
    rw [if_neg (nI_pos (by omega)), if_neg (nI_ge hj hN)]
theorem e_isCell_in {n N j : Nat} (hN : N < 2 ^ 31) (hj : j < N) : fX0_isCell n (nI N) (nI j) = some 1 := by
  unfold fX0_isCell
  rw [if_neg (nI_pos (by omega)), if_neg (nI_ge hj hN)]
theorem mul_le_300 {t l : Nat} (ht : t ≤ 30) (hl : l ≤ 10) : t * l ≤ 300 := Nat.mul_le_mul ht hl
theorem e_isCrackedBehind (n : Nat) {kN wN : Nat → Nat} {s c t N : Nat} (hk : ∀ i, kN i ≤ 2) (hw : ∀ i, wN i ≤ 9) (hs : s ≤ 9) (hN : N ≤ 12) (hc : c < N) (ht : t ≤ 30) : fX0_isCrackedBehind n (fI kN) (fI wN) (nI N) (nI s) (nI c) (nI t) = some (if wN c ≤ t * losN (kN c) s then (1 : Int32) else 0) := by
  have hl := losN_le (k := kN c) hs
  have hm := mul_le_300 ht hl
  have hwc := hw c
  unfold fX0_isCrackedBehind
  rw [e_isCell_in (by omega) hc, Option.bind_some, if_neg (by decide), gd_in (by omega) (by decide), e_loses0 n hk hs (by omega), Option.bind_some, nI_clamp (by omega), pk_mul]
  by_cases h : wN c ≤ t * losN (kN c) s
  · rw [if_neg (show ¬ nI (t * losN (kN c) s) < fI wN c from nI_nlt h (by omega)), if_pos h]
  · rw [if_pos (show nI (t * losN (kN c) s) < fI wN c from nI_lt (by omega) (by omega)), if_neg h]
theorem e_crackedSetBehind_4 (n : Nat) {kN wN : Nat → Nat} {s t N : Nat} (hk : ∀ i, kN i ≤ 2) (hw : ∀ i, wN i ≤ 9) (hs : s ≤ 9) (hN : N ≤ 12) (ht : t ≤ 30) : ∀ (k i : Nat), i ≤ N → N < i + k → fX0_crackedSetBehind_4 n k (fI kN) (fI wN) (nI N) (nI s) (nI t) (nI (CR kN wN s t i)) (nI i) = some (nI (CR kN wN s t N)) := by
  intro k
  induction k with
  | zero => intro i h1 h2; omega
  | succ k ih =>
    intro i h1 h2
    rw [fX0_crackedSetBehind_4]
    by_cases h : N ≤ i
    · have h3 : i = N := by omega
      subst h3
      rw [if_pos (nI_le (Nat.le_refl _) (by omega))]
    · rw [if_neg (nI_ge (by omega) (by omega)), e_isCrackedBehind n hk hw hs hN (by omega) ht, Option.bind_some, nI_1]
      have h5 := ih (i + 1) (by omega) (by omega)
      by_cases hz : wN i ≤ t * losN (kN i) s
      · rw [if_pos hz, if_neg (by decide), i_bit (by omega), i_or]
        unfold CR at h5 ⊢
        rw [bs_pos (by simp [hz])] at h5
        exact h5
      · rw [if_neg hz, if_pos rfl]
        unfold CR at h5 ⊢
        rw [bs_neg (by simp [hz])] at h5
        exact h5
theorem e_crackedSetBehind (n : Nat) (hn : 5000 ≤ n) {kN wN : Nat → Nat} {s t N : Nat} (hk : ∀ i, kN i ≤ 2) (hw : ∀ i, wN i ≤ 9) (hs : s ≤ 9) (hN : N ≤ 12) (ht : t ≤ 30) : fX0_crackedSetBehind n (fI kN) (fI wN) (nI N) (nI s) (nI t) = some (nI (CR kN wN s t N)) := by
  unfold fX0_crackedSetBehind
  exact e_crackedSetBehind_4 n hk hw hs hN ht n 0 (Nat.zero_le _) (by omega)
theorem sub_le0 {a b : Nat} (ha : a ≤ 1000) (hb : b ≤ 1000) : nI a - nI b ≤ 0 ↔ a ≤ b := by
  rw [Int32.le_iff_toInt_le, pk_sub_toInt (by omega) (by omega), show (0 : Int32).toInt = 0 by decide]
  omega
theorem e_wetBehind (n : Nat) {kN wN : Nat → Nat} {s c t : Nat} (hk : ∀ i, kN i ≤ 2) (hw : ∀ i, wN i ≤ 9) (hs : s ≤ 9) (hc : c < 12) (ht : t ≤ 30) : fX5_wetBehind n (nI s) (fI kN) (fI wN) (nI c) (nI t) = some (nI (wN c - t * losN (kN c) s)) := by
  have hl := losN_le (k := kN c) hs
  have hm := mul_le_300 ht hl
  have hwc := hw c
  unfold fX5_wetBehind
  rw [gd_in hc (by decide), e_loses5 n hk hs hc, Option.bind_some, nI_clamp (by omega), pk_mul]
  by_cases h : wN c ≤ t * losN (kN c) s
  · rw [if_pos (show fI wN c - nI (t * losN (kN c) s) ≤ 0 from (sub_le0 (by omega) (by omega)).mpr h), show wN c - t * losN (kN c) s = 0 by omega]; rfl
  · rw [if_neg (show ¬ fI wN c - nI (t * losN (kN c) s) ≤ 0 from fun q => h ((sub_le0 (by omega) (by omega)).mp q))]
    show some (nI (wN c) - nI (t * losN (kN c) s)) = _
    rw [pk_sub (by omega)]
theorem e_cellsOf (n w h : Nat) : fX5_cellsOf n (nI w) (nI h) = some (nI (w * h)) := by unfold fX5_cellsOf; rw [pk_mul]
theorem e_crackedBehind_4 (n : Nat) {kN wN : Nat → Nat} {s t w h : Nat} (hk : ∀ i, kN i ≤ 2) (hw : ∀ i, wN i ≤ 9) (hs : s ≤ 9) (hN : w * h ≤ 12) (ht : t ≤ 30) : ∀ (k i : Nat), i ≤ w * h → w * h < i + k → fX5_crackedBehind_4 n k (nI s) (nI w) (nI h) (fI kN) (fI wN) (nI t) (nI (CR kN wN s t i)) (nI i) = some (nI (CR kN wN s t (w * h))) := by
  intro k
  induction k with
  | zero => intro i h1 h2; omega
  | succ k ih =>
    intro i h1 h2
    rw [fX5_crackedBehind_4, e_cellsOf, Option.bind_some]
    by_cases hh : w * h ≤ i
    · have h3 : i = w * h := by omega
      rw [if_pos (nI_le hh (by omega)), h3]
    · rw [if_neg (nI_ge (by omega) (by omega)), e_wetBehind n hk hw hs (by omega) ht, Option.bind_some, nI_1]
      have h5 := ih (i + 1) (by omega) (by omega)
      have hwi := hw i
      by_cases hz : wN i ≤ t * losN (kN i) s
      · rw [if_pos (by rw [show wN i - t * losN (kN i) s = 0 by omega]; rfl), i_bit (by omega), i_or]
        unfold CR at h5 ⊢
        rw [bs_pos (by simp [hz])] at h5
        exact h5
      · rw [if_neg (show ¬ nI (wN i - t * losN (kN i) s) = 0 from fun q => by have := i_inj (a := wN i - t * losN (kN i) s) (b := 0) (by omega) (by decide) q; omega), i_or0]
        unfold CR at h5 ⊢
        rw [bs_neg (by simp [hz])] at h5
        exact h5
theorem e_crackedBehind (n : Nat) (hn : 5000 ≤ n) {kN wN : Nat → Nat} {s t w h : Nat} (hk : ∀ i, kN i ≤ 2) (hw : ∀ i, wN i ≤ 9) (hs : s ≤ 9) (hN : w * h ≤ 12) (ht : t ≤ 30) : fX5_crackedBehind n (nI s) (nI w) (nI h) (fI kN) (fI wN) (nI t) = some (nI (CR kN wN s t (w * h))) := by
  unfold fX5_crackedBehind
  exact e_crackedBehind_4 n hk hw hs hN ht n 0 (Nat.zero_le _) (by omega)
theorem CR_lt (kN wN : Nat → Nat) (s t N : Nat) : CR kN wN s t N < 2 ^ N := bs_lt _ _
/-- those that are not cracked now -/
def WS (wN : Nat → Nat) (w h : Nat) : Nat := df (alN w h) (CR wN wN 0 0 (w * h))
theorem CR_any (kN wN kN' : Nat → Nat) (s s' N : Nat) : CR kN wN s 0 N = CR kN' wN s' 0 N := by rw [CR0, CR0]
theorem alN_lt (w h : Nat) : alN w h < 2 ^ (w * h) := Nat.sub_lt (Nat.two_pow_pos _) (by decide)
theorem WS_lt (wN : Nat → Nat) (w h : Nat) : WS wN w h < 2 ^ (w * h) := df_lt (alN_lt w h)
theorem e_wetSet (n : Nat) (hn : 5000 ≤ n) {wN : Nat → Nat} {w h : Nat} (hw : ∀ i, wN i ≤ 9) (hN : w * h ≤ 12) : fX0_wetSet n (fI wN) (nI (w * h)) (nI (alN w h)) = some (nI (WS wN w h)) := by
  unfold fX0_wetSet
  rw [e_crackedSet (kN := wN) (s := 0) n hn hw hN, Option.bind_some, i_df]
  rfl
theorem e_bitCount (n : Nat) {x : Nat} (hx : x < 4096) : fJ6_bitCount_0f7a4 n (nI x) = some (nI (pk x 12)) := decide_eq_true_iff.mp (List.all_eq_true.mp ck_bc x (List.mem_range.mpr hx))
theorem size_mono (m n : Nat) : ∀ (k : Nat) (a x r : Int32), fX5_size_4 m k a x = some r → ∀ j, fX5_size_4 n (k + j) a x = some r := by
  intro k
  induction k with
  | zero => intro a x r h; rw [fX5_size_4] at h; cases h
  | succ k ih =>
    intro a x r h j
    rw [fX5_size_4] at h
    rw [show k + 1 + j = (k + j) + 1 by omega, fX5_size_4]
    by_cases hx : x ≤ 0
    · rw [if_pos hx] at h ⊢; exact h
    · rw [if_neg hx] at h ⊢; exact ih _ _ _ h j
theorem e_size (n : Nat) (hn : 5000 ≤ n) {x : Nat} (hx : x < 4096) : fX5_size n (nI x) = some (nI (pk x 12)) := by
  have h1 := decide_eq_true_iff.mp (List.all_eq_true.mp ck_sz x (List.mem_range.mpr hx))
  have h2 := size_mono 0 n 13 _ _ _ h1 (n - 13)
  rw [show 13 + (n - 13) = n by omega] at h2
  exact h2
def bot (w h : Nat) : Nat := (2 ^ w - 1) * 2 ^ (w * h - w)
def opN (w h A : Nat) : Bool := decide (FL w h A (2 ^ w - 1) &&& bot w h ≠ 0)
theorem bot_lt {w h : Nat} (hs : Sh w h) : bot w h < 2 ^ 31 ∧ (2 ^ w - 1) * 2 ^ (w * h - w) < 2 ^ 32 ∧ 1 ≤ 2 ^ w ∧ w < 32 ∧ w * h - w < 32 ∧ w ≤ w * h ∧ w * (h - 1) = w * h - w ∧ 1 ≤ h := Sh_elim (P := fun w h => bot w h < 2 ^ 31 ∧ (2 ^ w - 1) * 2 ^ (w * h - w) < 2 ^ 32 ∧ 1 ≤ 2 ^ w ∧ w < 32 ∧ w * h - w < 32 ∧ w ≤ w * h ∧ w * (h - 1) = w * h - w ∧ 1 ≤ h) (by decide) (by decide) (by decide) (by decide) (by decide) (by decide) hs
theorem e_isOpenBy (n : Nat) (hn : 5000 ≤ n) {w h A : Nat} (hs : Sh w h) (hA : A < 2 ^ (w * h)) : fX0_isOpenBy n (nI w) (nI (w * h)) (nI (alN w h)) (nI (fcN w h)) (nI (lcN w h)) (nI A) = some (if opN w h A then (1 : Int32) else 0) := by
  obtain ⟨h1, h2, h3, h4, h5, h6, h7, h8⟩ := bot_lt hs
  unfold fX0_isOpenBy
  rw [i_bit h4, show (1 : Int32) = nI 1 from rfl, pk_sub h3, e_hanging n hn hs hA, Option.bind_some, pk_sub h6, i_shl h5 h2, i_and, show (2 ^ w - 1) * 2 ^ (w * h - w) = bot w h from rfl]
  unfold opN
  have h9 : FL w h A (2 ^ w - 1) &&& bot w h < 2 ^ 31 := Nat.lt_of_le_of_lt Nat.and_le_right h1
  by_cases hq : FL w h A (2 ^ w - 1) &&& bot w h = 0
  · rw [if_pos (show nI (FL w h A (2 ^ w - 1) &&& bot w h) = 0 by rw [hq]; rfl), if_neg (by simp [hq])]
  · rw [if_neg (show ¬ nI (FL w h A (2 ^ w - 1) &&& bot w h) = 0 from fun q => hq (i_inj h9 (by decide) q)), if_pos (by simp [hq])]
theorem e_isOpen (n : Nat) (hn : 5000 ≤ n) {w h A : Nat} (hs : Sh w h) (hA : A < 2 ^ (w * h)) : fX5_isOpen n (nI w) (nI h) (nI A) = some (if opN w h A then (1 : Int32) else 0) := by
  obtain ⟨h1, h2, h3, h4, h5, h6, h7, h8⟩ := bot_lt hs
  unfold fX5_isOpen
  rw [i_bit h4, show (1 : Int32) = nI 1 from rfl, pk_sub h3, e_spread n hn hs hA, Option.bind_some, pk_sub h8, pk_mul, h7, i_shl h5 h2, i_and, show (2 ^ w - 1) * 2 ^ (w * h - w) = bot w h from rfl]
  unfold opN
  have h9 : FL w h A (2 ^ w - 1) &&& bot w h < 2 ^ 31 := Nat.lt_of_le_of_lt Nat.and_le_right h1
  by_cases hq : FL w h A (2 ^ w - 1) &&& bot w h = 0
  · rw [if_pos (show nI (FL w h A (2 ^ w - 1) &&& bot w h) = 0 by rw [hq]; rfl), if_neg (by simp [hq])]
  · rw [if_neg (show ¬ nI (FL w h A (2 ^ w - 1) &&& bot w h) = 0 from fun q => hq (i_inj h9 (by decide) q)), if_pos (by simp [hq])]
theorem e_pieceOf (n : Nat) (hn : 5000 ≤ n) {kN wN : Nat → Nat} {s w h c : Nat} (hk : ∀ i, kN i ≤ 2) (hw : ∀ i, wN i ≤ 9) (hs9 : s ≤ 9) (hs : Sh w h) (hc : c < w * h) : fX5_pieceOf n (nI s) (nI w) (nI h) (fI kN) (fI wN) (nI c) = some (nI (FL w h (WS wN w h) (2 ^ c))) := by
  have hN := (Sh_lt hs).1
  unfold fX5_pieceOf
  rw [show (0 : Int32) = nI 0 from rfl, e_crackedBehind n hn hk hw hs9 hN (by decide), Option.bind_some, e_cellsOf, Option.bind_some, i_bit (by omega), i_bit (by omega), i_not, show (1 : Int32) = nI 1 from rfl, pk_sub Nat.one_le_two_pow, i_and, CR_any kN wN wN s 0]
  rw [show (2 ^ (w * h) - 1) &&& (CR wN wN 0 0 (w * h) ^^^ 4294967295) = WS wN w h from rfl, e_spread n hn hs (WS_lt wN w h), Option.bind_some]
