/-! the calls, class and reference side by side: the easy ones -/
theorem if10 {α : Type} {a b : α} : (if (1 : Int32) = 0 then a else b) = b := if_neg (by decide)
theorem if00 {α : Type} {a b : α} : (if (0 : Int32) = 0 then a else b) = a := if_pos rfl
def Sh0 (w h : Nat) : Prop := (w = 0 ∧ h = 0) ∨ Sh w h
def St (kN wN : Nat → Nat) (s w h : Nat) : Prop := (∀ i, kN i ≤ 2) ∧ (∀ i, wN i ≤ 9) ∧ s ≤ 9 ∧ Sh0 w h
theorem Sh0_N {w h : Nat} (hs : Sh0 w h) : w * h ≤ 12 := by
  rcases hs with ⟨rfl, rfl⟩ | hs
  · decide
  · exact (Sh_lt hs).1
theorem Sh0_sh {w h j : Nat} (hs : Sh0 w h) (hj : j < w * h) : Sh w h := by
  rcases hs with ⟨rfl, rfl⟩ | hs
  · omega
  · exact hs
theorem isCell2 (n : Nat) {w h : Nat} (hs : Sh0 w h) (c : Int32) : (fX0_isCell n (nI (w * h)) c = some 0 ∧ fX5_isCell n (nI w) (nI h) c = some 0) ∨ ∃ j, j < w * h ∧ c = nI j ∧ fX0_isCell n (nI (w * h)) c = some 1 ∧ fX5_isCell n (nI w) (nI h) c = some 1 := by
  have hN := Sh0_N hs
  have h5 : fX5_isCell n (nI w) (nI h) c = fX0_isCell n (nI (w * h)) c := by
    unfold fX5_isCell fX0_isCell
    rw [e_cellsOf, Option.bind_some]
  rw [h5]
  rcases e_isCell (n := n) (N := w * h) (by omega) c with ⟨h1, -, -⟩ | ⟨h1, -, j, hj, rfl⟩
  · exact Or.inl ⟨h1, h1⟩
  · exact Or.inr ⟨j, hj, rfl, h1, h1⟩
theorem within_or (n : Nat) {A B : Int32} {a b : Nat} (hA : A = nI a) (hB : B = nI b) (ha : a < 2 ^ 31) (hb : b < 2 ^ 31) (v : Int32) : (fX4_within n v A B = some 0 ∧ fX5_within n v A B = some 0) ∨ ∃ j, a ≤ j ∧ j ≤ b ∧ v = nI j ∧ fX4_within n v A B = some 1 ∧ fX5_within n v A B = some 1 := by
  subst hA; subst hB
  have h5 : fX5_within n v (nI a) (nI b) = fX4_within n v (nI a) (nI b) := rfl
  rw [h5]
  unfold fX4_within
  by_cases h1 : v < nI a
  · left; rw [if_pos h1]; exact ⟨rfl, rfl⟩
  · by_cases h2 : nI b < v
    · left; rw [if_neg h1, if_pos h2]; exact ⟨rfl, rfl⟩
    · right
      have h0 : ¬ v < 0 := fun q => h1 (by
        rw [Int32.lt_iff_toInt_lt] at q ⊢
        rw [nI_toInt ha]
        have : (0 : Int32).toInt = 0 := by decide
        omega)
      obtain ⟨j, hj, rfl⟩ := nI_of h0
      refine ⟨j, ?_, ?_, rfl, ?_⟩
      · exact Nat.not_lt.mp fun q => h1 (nI_lt q ha)
      · exact Nat.not_lt.mp fun q => h2 (nI_lt q hj)
      · rw [if_neg h1, if_neg h2]; exact ⟨rfl, rfl⟩
theorem digit5 (n : Nat) (v : Int32) : fX5_isDigit n v = fX5_within n v 0 9 := by
  unfold fX5_isDigit
  rcases within_or n (A := 0) (B := 9) (a := 0) (b := 9) rfl rfl (by decide) (by decide) v with ⟨-, h⟩ | ⟨j, -, -, -, -, h⟩
  · rw [h]; rfl
  · rw [h]; rfl
theorem there (n : Nat) {w h : Nat} (hs : Sh0 w h) : (w = 0 ∧ h = 0 ∧ fX0_isThere n (nI (w * h)) = some 0 ∧ nI w = 0) ∨ (Sh w h ∧ fX0_isThere n (nI (w * h)) = some 1 ∧ ¬ nI w = 0) := by
  rcases hs with ⟨rfl, rfl⟩ | hs
  · left; exact ⟨rfl, rfl, rfl, rfl⟩
  · right
    obtain ⟨h1, h2, h3, h4, h5, h6⟩ := Sh_lt hs
    refine ⟨hs, ?_, fun q => ?_⟩
    · unfold fX0_isThere
      rw [if_neg (nI_nle (by omega) (by omega))]
    · have := i_inj (a := w) (b := 0) (by omega) (by decide) q
      omega
theorem L_ofCell (n : Nat) (hn : 5000 ≤ n) {kN wN : Nat → Nat} {s w h : Nat} (hS : St kN wN s w h) (p1 p2 : Int32) : ∃ r, fX4_ofCell n (fI kN) (fI wN) (nI w) (nI (w * h)) (nI s) (nI (alN w h)) (nI (fcN w h)) (nI (lcN w h)) p1 p2 = some r ∧ fX5_ofCell n (nI s) (nI w) (nI h) (fI kN) (fI wN) p1 p2 = some r := by
  obtain ⟨hk, hw, hs9, hsh⟩ := hS
  have hN := Sh0_N hsh
  unfold fX4_ofCell fX5_ofCell
  rcases isCell2 n hsh p1 with ⟨h4, h5⟩ | ⟨j, hj, rfl, h4, h5⟩
  · simp only [h4, h5, Option.bind_some, if00]; exact ⟨_, rfl, rfl⟩
  · have hs := Sh0_sh hsh hj
    simp only [h4, h5, Option.bind_some, if10]
    by_cases h0 : p2 = 0
    · simp only [if_pos h0, gd_in (show j < 12 by omega) (by decide)]; exact ⟨_, rfl, rfl⟩
    · simp only [if_neg h0]
      by_cases h1 : p2 = 1
      · simp only [if_pos h1, gd_in (show j < 12 by omega) (by decide)]; exact ⟨_, rfl, rfl⟩
      · simp only [if_neg h1]
        by_cases h2 : p2 = 2
        · simp only [if_pos h2, e_loses0 n hk hs9 (show j < 12 by omega), e_loses5 n hk hs9 (show j < 12 by omega), Option.bind_some]; exact ⟨_, rfl, rfl⟩
        · simp only [if_neg h2]
          by_cases h3 : p2 = 3
          · simp only [if_pos h3, gd_in (show j < 12 by omega) (by decide)]
            split
            · exact ⟨_, rfl, rfl⟩
            · exact ⟨_, rfl, rfl⟩
          · simp only [if_neg h3]
            by_cases h6 : p2 = 4
            · have hlt := FL_lt (w := w) (h := h) (s := 2 ^ j) (WS_lt wN w h)
              simp only [if_pos h6, e_wetSet n hn hw hN, Option.bind_some, i_bit (show j < 32 by omega), e_hanging n hn hs (WS_lt wN w h), e_bitCount n (Sh_pow hs hlt), e_pieceOf n hn hk hw hs9 hs hj, e_size n hn (Sh_pow hs hlt)]
              exact ⟨_, rfl, rfl⟩
            · simp only [if_neg h6]; exact ⟨_, rfl, rfl⟩
theorem L_shine (n : Nat) {kN wN : Nat → Nat} {s w h : Nat} (hS : St kN wN s w h) (p1 : Int32) : ∃ r s', fX4_shine n (nI (w * h)) (nI s) p1 = some (r, nI s') ∧ fX5_shine n (nI s) (nI w) p1 = some (r, nI s') ∧ s' ≤ 9 := by
  obtain ⟨hk, hw, hs9, hsh⟩ := hS
  unfold fX4_shine fX5_shine
  rw [digit5]
  rcases within_or n (A := 0) (B := 9) (a := 0) (b := 9) rfl rfl (by decide) (by decide) p1 with ⟨h4, h5⟩ | ⟨j, -, hj, rfl, h4, h5⟩
  · simp only [h4, h5, Option.bind_some, if00]; exact ⟨_, s, rfl, rfl, hs9⟩
  · simp only [h4, h5, Option.bind_some, if10]
    rcases there n hsh with ⟨-, -, h1, h2⟩ | ⟨-, h1, h2⟩
    · simp only [h1, if_pos h2, Option.bind_some, if00]; exact ⟨_, s, rfl, rfl, hs9⟩
    · simp only [h1, if_neg h2, Option.bind_some, if10]; exact ⟨_, j, rfl, rfl, hj⟩
/-- a row with one cell changed -/
def upN (f : Nat → Nat) (c x : Nat) : Nat → Nat := fun i => if i = c then x else f i
theorem upd_fI (f : Nat → Nat) (c x : Nat) : upd (fI f) c (nI x) = fI (upN f c x) := by
  funext i
  simp only [upd, fI, upN]
  split <;> rfl
theorem upN_le {f : Nat → Nat} {c x b : Nat} (hf : ∀ i, f i ≤ b) (hx : x ≤ b) : ∀ i, upN f c x i ≤ b := by
  intro i
  unfold upN
  split
  · exact hx
  · exact hf i
theorem L_silt (n : Nat) {kN wN : Nat → Nat} {s w h : Nat} (hS : St kN wN s w h) (p1 p2 : Int32) : ∃ r kN', fX4_silt n (fI kN) (nI (w * h)) p1 p2 = some (r, fI kN') ∧ fX5_silt n (nI w) (nI h) (fI kN) p1 p2 = some (r, fI kN') ∧ ∀ i, kN' i ≤ 2 := by
  obtain ⟨hk, hw, hs9, hsh⟩ := hS
  have hN := Sh0_N hsh
  unfold fX4_silt fX5_silt
  rcases isCell2 n hsh p1 with ⟨h4, h5⟩ | ⟨c, hc, rfl, h4, h5⟩
  · simp only [h4, h5, Option.bind_some, if00]; exact ⟨_, kN, rfl, rfl, hk⟩
  · simp only [h4, h5, Option.bind_some, if10]
    rcases within_or n (A := 0) (B := 2) (a := 0) (b := 2) rfl rfl (by decide) (by decide) p2 with ⟨h4, h5⟩ | ⟨j, -, hj, rfl, h4, h5⟩
    · simp only [h4, h5, Option.bind_some, if00]; exact ⟨_, kN, rfl, rfl, hk⟩
    · simp only [h4, h5, Option.bind_some, if10, gd_in (show c < 12 by omega) (by decide), nI_clamp (show c < 2 ^ 31 by omega), upd_fI]
      exact ⟨_, _, rfl, rfl, upN_le hk hj⟩
theorem add9 {a b : Nat} (ha : a ≤ 9) (hb : b ≤ 9) : (nI a + nI b < (9 : Int32) ↔ a + b < 9) ∧ (nI a + nI b ≤ (9 : Int32) ↔ a + b ≤ 9) := by
  rw [nI_add, show (9 : Int32) = nI 9 from rfl]
  exact ⟨nI_ltI (by omega) (by decide), nI_leI (by omega) (by decide)⟩
/-- a cell that is poured on -/
def poN (wN : Nat → Nat) (c v : Nat) : Nat → Nat := upN wN c (if wN c + v < 9 then wN c + v else 9)
theorem e_pourOn (n : Nat) {wN : Nat → Nat} {c v N : Nat} (hw : ∀ i, wN i ≤ 9) (hN : N ≤ 12) (hc : c < N) (hv : v ≤ 9) : fX0_pourOn n (fI wN) (nI N) (nI c) (nI v) = if wN c = 0 then some ((0 : Int32), fI wN) else some ((1 : Int32), fI (poN wN c v)) := by
  have hwc := hw c
  unfold fX0_pourOn
  rw [e_isCell_in (by omega) hc, Option.bind_some, if_neg (by decide), gd_in (by omega) (by decide), gd_in (by omega) (by decide), gd_in (by omega) (by decide), nI_clamp (by omega)]
  by_cases hz : wN c = 0
  · rw [if_pos (show fI wN c = 0 by simp only [fI, hz]; rfl), if_pos hz]
  · rw [if_neg (show ¬ fI wN c = 0 from fun q => hz (i_inj (by omega) (by decide) q)), if_neg hz]
    unfold poN
    by_cases h9 : wN c + v < 9
    · rw [if_pos (show fI wN c + nI v < 9 from (add9 hwc hv).1.mpr h9), if_pos h9, ← upd_fI, ← nI_add]
    · rw [if_neg (show ¬ fI wN c + nI v < 9 from fun q => h9 ((add9 hwc hv).1.mp q)), if_neg h9, ← upd_fI]
      rfl
theorem e_pouredOn (n : Nat) {wN : Nat → Nat} {c v : Nat} (hw : ∀ i, wN i ≤ 9) (hc : c < 12) (hv : v ≤ 9) : fX5_pouredOn n (fI wN) (nI c) (nI v) = some (nI (poN wN c v c), fI (poN wN c v)) := by
  have hwc := hw c
  unfold fX5_pouredOn
  rw [gd_in hc (by decide), gd_in hc (by decide), gd_in hc (by decide), gd_in hc (by decide), gd_in hc (by decide), gd_in hc (by decide), nI_clamp (by omega)]
  unfold poN
  by_cases h9 : wN c + v ≤ 9
  · rw [if_pos (show fI wN c + nI v ≤ 9 from (add9 hwc hv).2.mpr h9)]
    have h8 : (if wN c + v < 9 then wN c + v else 9) = wN c + v := by split <;> omega
    rw [h8, show fI wN c + nI v = nI (wN c + v) from nI_add _ _, upd_fI]
  · rw [if_neg (show ¬ fI wN c + nI v ≤ 9 from fun q => h9 ((add9 hwc hv).2.mp q)), if_neg (show ¬ wN c + v < 9 by omega), show (9 : Int32) = nI 9 from rfl, upd_fI]
theorem poN_le {wN : Nat → Nat} {c v : Nat} (hw : ∀ i, wN i ≤ 9) : ∀ i, poN wN c v i ≤ 9 := upN_le hw (by split <;> omega)
theorem L_pour (n : Nat) {kN wN : Nat → Nat} {s w h : Nat} (hS : St kN wN s w h) (p1 p2 : Int32) : ∃ r wN', fX4_pour n (fI wN) (nI (w * h)) p1 p2 = some (r, fI wN') ∧ fX5_pour n (nI w) (nI h) (fI wN) p1 p2 = some (r, fI wN') ∧ ∀ i, wN' i ≤ 9 := by
  obtain ⟨hk, hw, hs9, hsh⟩ := hS
  have hN := Sh0_N hsh
  unfold fX4_pour fX5_pour
  rcases isCell2 n hsh p1 with ⟨h4, h5⟩ | ⟨c, hc, rfl, h4, h5⟩
  · simp only [h4, h5, Option.bind_some, if00]; exact ⟨_, wN, rfl, rfl, hw⟩
  · simp only [h4, h5, Option.bind_some, if10]
    rcases within_or n (A := 1) (B := 9) (a := 1) (b := 9) rfl rfl (by decide) (by decide) p2 with ⟨h4, h5⟩ | ⟨j, hj1, hj, rfl, h4, h5⟩
    · simp only [h4, h5, Option.bind_some, if00]; exact ⟨_, wN, rfl, rfl, hw⟩
    · have hwc := hw c
      simp only [h4, h5, Option.bind_some, if10, e_pourOn n hw hN hc hj, e_pouredOn n hw (show c < 12 by omega) hj, gd_in (show c < 12 by omega) (by decide), nI_clamp (show c < 2 ^ 31 by omega)]
      by_cases hz : wN c = 0
      · have hz2 : nI (wN c) = 0 := by rw [hz]; rfl
        simp only [if_pos hz, if_pos hz2, Option.bind_some, if00]
        exact ⟨_, wN, rfl, rfl, hw⟩
      · have hz2 : ¬ nI (wN c) = 0 := fun q => hz (i_inj (by omega) (by decide) q)
        simp only [if_neg hz, if_neg hz2, Option.bind_some, if10]
        exact ⟨_, _, rfl, rfl, poN_le hw⟩
theorem L_tell (n : Nat) {kN wN : Nat → Nat} {s w h : Nat} (hS : St kN wN s w h) (tr p1 : Int32) : ∃ r tr', fX4_tell n tr (fI kN) (fI wN) (nI (w * h)) p1 = some (r, tr') ∧ fX5_tell n tr (nI w) (nI h) (fI kN) (fI wN) p1 = some (r, tr') := by
  obtain ⟨hk, hw, hs9, hsh⟩ := hS
  have hN := Sh0_N hsh
  unfold fX4_tell fX5_tell
  rcases isCell2 n hsh p1 with ⟨h4, h5⟩ | ⟨c, hc, rfl, h4, h5⟩
  · simp only [h4, h5, Option.bind_some, if00]; exact ⟨_, _, rfl, rfl⟩
  · simp only [h4, h5, Option.bind_some, if10]
    simp only [fX4_tellingOfSand, fX4_tellingOfClay, fX4_tellingOfMud, fX4_leave, fX5_begins, Option.bind_some, gd_in (show c < 12 by omega) (by decide)]
    split
    · exact ⟨_, _, rfl, rfl⟩
    · split
      · refine ⟨_, _, rfl, ?_⟩
        rw [nI_clamp (by omega)]
        show some ((2 : Int32) * nI (wN c) + (100 : Int32), _) = some (nI (wN c) + (100 : Int32) + nI (wN c), _)
        rw [show (2 : Int32) = nI 2 from rfl, show (100 : Int32) = nI 100 from rfl, pk_mul, nI_add, nI_add, nI_add, show 2 * wN c + 100 = wN c + 100 + wN c by omega]
      · exact ⟨_, _, rfl, rfl⟩
theorem L_draw (n : Nat) {kN wN : Nat → Nat} {s w h : Nat} (hS : St kN wN s w h) (tr p1 : Int32) : ∃ r tr', fX4_draw n tr (fI kN) (nI (w * h)) p1 = some (r, tr') ∧ fX5_draw n tr (nI w) (nI h) (fI kN) p1 = some (r, tr') := by
  obtain ⟨hk, hw, hs9, hsh⟩ := hS
  have hN := Sh0_N hsh
  unfold fX4_draw fX5_draw
  rcases isCell2 n hsh p1 with ⟨h4, h5⟩ | ⟨c, hc, rfl, h4, h5⟩
  · simp only [h4, h5, Option.bind_some, if00]; exact ⟨_, _, rfl, rfl⟩
  · simp only [h4, h5, Option.bind_some, if10]
    simp only [fX4_leave, fX5_draw_26, fX5_begins, Option.bind_some, gd_in (show c < 12 by omega) (by decide)]
    by_cases h2 : fI kN (nI c).toNatClampNeg = (2 : Int32)
    · rw [if_pos h2, if_pos h2, if_pos h2]; exact ⟨_, _, rfl, rfl⟩
    · rw [if_neg h2, if_neg h2, if_neg h2]; exact ⟨_, _, rfl, rfl⟩
theorem L_as (n : Nat) {kN wN : Nat → Nat} {s w h : Nat} (hS : St kN wN s w h) (fl p1 p2 : Int32) : ∃ r fl', fX4_as n fl (fI kN) (nI (w * h)) p1 p2 = some (r, fl') ∧ fX5_as n fl (nI w) (nI h) (fI kN) p1 p2 = some (r, fl') := by
  obtain ⟨hk, hw, hs9, hsh⟩ := hS
  have hN := Sh0_N hsh
  unfold fX4_as fX5_as
  rcases isCell2 n hsh p1 with ⟨h4, h5⟩ | ⟨c, hc, rfl, h4, h5⟩
  · simp only [h4, h5, Option.bind_some, if00]; exact ⟨_, _, rfl, rfl⟩
  · simp only [h4, h5, Option.bind_some, if10]
    rcases within_or n (A := 0) (B := 2) (a := 0) (b := 2) rfl rfl (by decide) (by decide) p2 with ⟨h4, h5⟩ | ⟨j, -, hj, rfl, h4, h5⟩
    · simp only [h4, h5, Option.bind_some, if00]; exact ⟨_, _, rfl, rfl⟩
    · have hkc := hk c
      simp only [h4, h5, Option.bind_some, if10, gd_in (show c < 12 by omega) (by decide), nI_clamp (show c < 2 ^ 31 by omega)]
      by_cases hq : j ≤ kN c
      · simp only [if_pos (show nI j ≤ nI (kN c) from nI_le hq (by omega)), if_neg (show ¬ nI (kN c) < nI j from nI_nlt hq (by omega))]; exact ⟨_, _, rfl, rfl⟩
      · simp only [if_neg (show ¬ nI j ≤ nI (kN c) from nI_ge (by omega) (by omega)), if_pos (show nI (kN c) < nI j from nI_lt (by omega) (by omega)), fX4_faulted, fX5_fails, Option.bind_some]; exact ⟨_, _, rfl, rfl⟩
theorem CR_4096 {kN wN : Nat → Nat} {s t w h : Nat} (hs : Sh0 w h) : CR kN wN s t (w * h) < 4096 := Nat.lt_of_lt_of_le (CR_lt kN wN s t (w * h)) (show 2 ^ (w * h) ≤ 2 ^ 12 from Nat.pow_le_pow_right (by decide) (Sh0_N hs))
theorem L_many (n : Nat) (hn : 5000 ≤ n) {kN wN : Nat → Nat} {s w h : Nat} (hS : St kN wN s w h) (hr q p1 : Int32) : ∃ r, fX4_many n hr (fI wN) (nI w) (nI h) (nI (w * h)) (nI s) q p1 = some r ∧ fX5_many n (nI s) (nI w) (nI h) hr (fI kN) (fI wN) q p1 = some r := by
  obtain ⟨hk, hw, hs9, hsh⟩ := hS
  have hN := Sh0_N hsh
  unfold fX4_many fX5_many
  rw [e_crackedSet (kN := kN) (s := s) n hn hw hN, Option.bind_some, e_bitCount n (CR_4096 hsh), Option.bind_some]
  rw [show fX5_crackedBehind n (nI s) (nI w) (nI h) (fI kN) (fI wN) (0 : Int32) = _ from e_crackedBehind (t := 0) n hn hk hw hs9 hN (by decide), Option.bind_some, e_size n hn (CR_4096 hsh), Option.bind_some]
  split
  · exact ⟨_, rfl, rfl⟩
  · split
    · exact ⟨_, rfl, rfl⟩
    · split
      · exact ⟨_, rfl, rfl⟩
      · split
        · exact ⟨_, rfl, rfl⟩
        · split
          · exact ⟨_, rfl, rfl⟩
          · split
            · exact ⟨_, rfl, rfl⟩
            · exact ⟨_, rfl, rfl⟩
