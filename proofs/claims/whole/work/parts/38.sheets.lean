/-! sheets: the class has four rows, the reference one row of 240 -/
def Sr (row : Nat → Nat → Int32) (lane len sorts slong mc : Nat → Int32) : Prop :=
  ∀ k, k < 4 → ((lane k = -1 ∧ sorts k = -9) ∨ ∃ a L, a ≤ 2 ∧ L ≤ 60 ∧ lane k = nI a ∧ sorts k = nI a ∧ len k = nI L ∧ slong k = nI L) ∧ ∀ i, i < 60 → row k i = mc (60 * k + i)
theorem bz0 {α : Type} {k : Option α} : bz 0 k = k := if_pos (Or.inl rfl)
theorem bz1 {α : Type} {k : Option α} : bz 1 k = k := if_pos (Or.inr rfl)
theorem sheet_or (n : Nat) (p : Int32) : (fX4_isSheet n p = some 0 ∧ fX5_isSheet n p = some 0) ∨ ∃ k, k < 4 ∧ p = nI k ∧ fX4_isSheet n p = some 1 ∧ fX5_isSheet n p = some 1 := by
  unfold fX4_isSheet fX5_isSheet
  rcases within_or n (A := 0) (B := 3) (a := 0) (b := 3) rfl rfl (by decide) (by decide) p with ⟨h4, h5⟩ | ⟨j, -, hj, rfl, h4, h5⟩
  · left; simp only [h4, h5, Option.bind_some, bz0, and_self]
  · right; refine ⟨j, by omega, rfl, ?_⟩; simp only [h4, h5, Option.bind_some, bz1, and_self]
theorem lane_or (n : Nat) (p : Int32) : (fX4_isLane n p = some 0 ∧ fX5_isSort n p = some 0) ∨ ∃ k, k < 3 ∧ p = nI k ∧ fX4_isLane n p = some 1 ∧ fX5_isSort n p = some 1 := by
  unfold fX4_isLane fX5_isSort
  rcases within_or n (A := 0) (B := 2) (a := 0) (b := 2) rfl rfl (by decide) (by decide) p with ⟨h4, h5⟩ | ⟨j, -, hj, rfl, h4, h5⟩
  · left; simp only [h4, h5, Option.bind_some, bz0, and_self]
  · right; refine ⟨j, by omega, rfl, ?_⟩; simp only [h4, h5, Option.bind_some, bz1, and_self]
theorem nI_ne_m1 {a : Nat} (ha : a < 2 ^ 31) : ¬ nI a = (-1 : Int32) := fun e => by
  have h7 : (nI a).toInt = (-1 : Int32).toInt := by rw [e]
  rw [nI_toInt ha] at h7
  have h8 : (-1 : Int32).toInt = -1 := by decide
  omega
theorem nI_ne_m9 {a : Nat} (ha : a < 2 ^ 31) : ¬ nI a = (-9 : Int32) := fun e => by
  have h7 : (nI a).toInt = (-9 : Int32).toInt := by rw [e]
  rw [nI_toInt ha] at h7
  have h8 : (-9 : Int32).toInt = -9 := by decide
  omega
theorem nothing_m1 (n : Nat) : fX2_isNothing n (-1 : Int32) = some 1 := rfl
theorem nothing_nI (n : Nat) {a : Nat} (ha : a < 2 ^ 31) : fX2_isNothing n (nI a) = some 0 := by unfold fX2_isNothing; rw [if_neg (nI_ne_m1 ha)]
/-- a place of a row: the class's look, the reference's look -/
theorem place_or (n : Nat) {L : Nat} (hL : L ≤ 60) (p : Int32) : (fX2_hasPlace n (nI L) p = some 0 ∧ fX5_within n p 0 (nI L - 1) = some 0) ∨ ∃ i, i < L ∧ p = nI i ∧ fX2_hasPlace n (nI L) p = some 1 ∧ fX5_within n p 0 (nI L - 1) = some 1 := by
  have hle : ∀ i : Nat, i < 2 ^ 31 → (nI L - 1 < nI i ↔ L ≤ i) := by
    intro i hi
    rw [show (1 : Int32) = nI 1 from rfl, Int32.lt_iff_toInt_lt, pk_sub_toInt (by omega) (by decide), nI_toInt hi]
    omega
  unfold fX2_hasPlace fX5_within
  by_cases h0 : p < 0
  · left; rw [if_pos h0, if_pos h0]; exact ⟨rfl, rfl⟩
  · obtain ⟨i, hi, rfl⟩ := nI_of h0
    rw [if_neg h0, if_neg h0]
    by_cases h1 : L ≤ i
    · left; rw [if_pos (nI_le h1 hi), if_pos ((hle i hi).mpr h1)]; exact ⟨rfl, rfl⟩
    · right
      refine ⟨i, by omega, rfl, ?_⟩
      rw [if_neg (nI_ge (by omega) (by omega)), if_neg (fun q => h1 ((hle i hi).mp q))]
      exact ⟨rfl, rfl⟩
theorem vu_ne {α : Type} {f : Nat → α} {k j : Nat} {v : α} (h : j ≠ k) : va_up f k v j = f j := if_neg h
theorem vu_eq {α : Type} {f : Nat → α} {k : Nat} {v : α} : va_up f k v k = v := if_pos rfl
theorem ud_ne {f : Nat → Int32} {k j : Nat} {v : Int32} (h : j ≠ k) : upd f k v j = f j := if_neg h
theorem ud_eq {f : Nat → Int32} {k : Nat} {v : Int32} : upd f k v k = v := if_pos rfl
theorem i60 (k i : Nat) : (60 : Int32) * nI k + nI i = nI (60 * k + i) := by rw [show (60 : Int32) = nI 60 from rfl, pk_mul, nI_add]
/-! a new row -/
def rz (r : Nat → Int32) (j : Nat) : Nat → Int32 := fun i => if i < j then 0 else r i
theorem rz_step (r : Nat → Int32) (j : Nat) : upd (rz r j) j 0 = rz r (j + 1) := by
  funext i
  unfold upd rz
  by_cases h : i = j
  · subst h; rw [if_pos rfl, if_pos (by omega)]
  · rw [if_neg h]
    by_cases h2 : i < j
    · rw [if_pos h2, if_pos (by omega)]
    · rw [if_neg h2, if_neg (by omega)]
theorem e_becomeRow_12 (n : Nat) (r : Nat → Int32) (la le : Int32) : ∀ (k j : Nat), j ≤ 60 → 60 < j + k → fX2_becomeRow_12 n k (rz r j) la le (nI j) = some (rz r 60, la, le) := by
  intro k
  induction k with
  | zero => intro j h1 h2; omega
  | succ k ih =>
    intro j h1 h2
    rw [fX2_becomeRow_12]
    by_cases h : 60 ≤ j
    · have h3 : j = 60 := by omega
      subst h3
      rw [if_pos (show (60 : Int32) ≤ nI 60 by decide)]
    · rw [if_neg (show ¬ (60 : Int32) ≤ nI j from nI_ge (b := 60) (by omega) (by decide)), gd_in (by omega) (by decide), nI_clamp (by omega), rz_step, nI_1]
      exact ih (j + 1) (by omega) (by omega)
def mz (m : Nat → Int32) (b j : Nat) : Nat → Int32 := fun i => if b ≤ i ∧ i < b + j then 0 else m i
theorem mz_step (m : Nat → Int32) (b j : Nat) : upd (mz m b j) (b + j) 0 = mz m b (j + 1) := by
  funext i
  unfold upd mz
  by_cases h : i = b + j
  · subst h; rw [if_pos rfl, if_pos (by omega)]
  · rw [if_neg h]
    by_cases h2 : b ≤ i ∧ i < b + j
    · rw [if_pos h2, if_pos (by omega)]
    · rw [if_neg h2, if_neg (by omega)]
theorem e_sheet_57 (n : Nat) (m so sl : Nat → Int32) (fl : Int32) {c : Nat} (hc : c < 4) : ∀ (k j : Nat), j ≤ 60 → 60 < j + k → fX5_sheet_57 n k fl so sl (mz m (60 * c) j) (nI c) (nI j) = some ((1 : Int32), fl, so, sl, mz m (60 * c) 60) := by
  intro k
  induction k with
  | zero => intro j h1 h2; omega
  | succ k ih =>
    intro j h1 h2
    rw [fX5_sheet_57, i60]
    by_cases h : 60 ≤ j
    · have h3 : j = 60 := by omega
      subst h3
      rw [if_pos (show (60 : Int32) ≤ nI 60 by decide)]
    · rw [if_neg (show ¬ (60 : Int32) ≤ nI j from nI_ge (b := 60) (by omega) (by decide)), gd_in (by omega) (by decide), nI_clamp (by omega), mz_step, nI_1]
      exact ih (j + 1) (by omega) (by omega)
theorem rz0 (r : Nat → Int32) : rz r 0 = r := by funext i; exact if_neg (Nat.not_lt_zero i)
theorem mz0 (m : Nat → Int32) (b : Nat) : mz m b 0 = m := by funext i; exact if_neg (by omega)
theorem L_sheet (n : Nat) (hn : 5000 ≤ n) {row : Nat → Nat → Int32} {lane len so sl mc : Nat → Int32} (hR : Sr row lane len so sl mc) (fl p1 p2 p3 : Int32) : ∃ r fl' row' lane' len' so' sl' mc', fX4_sheet n fl row lane len p1 p2 p3 = some (r, fl', row', lane', len') ∧ fX5_sheet n fl so sl mc p1 p2 p3 = some (r, fl', so', sl', mc') ∧ Sr row' lane' len' so' sl' mc' := by
  unfold fX4_sheet fX5_sheet
  rcases sheet_or n p1 with ⟨h4, h5⟩ | ⟨c, hc, rfl, h4, h5⟩
  · simp only [h4, h5, Option.bind_some, if00]; exact ⟨_, _, _, _, _, _, _, _, rfl, rfl, hR⟩
  · simp only [h4, h5, Option.bind_some, if10]
    rcases lane_or n p2 with ⟨h4, h5⟩ | ⟨a, ha, rfl, h4, h5⟩
    · simp only [h4, h5, Option.bind_some, if00]; exact ⟨_, _, _, _, _, _, _, _, rfl, rfl, hR⟩
    · simp only [h4, h5, Option.bind_some, if10]
      by_cases h60 : p3 ≤ (60 : Int32)
      · simp only [if_pos h60]
        by_cases h0 : 0 ≤ p3
        · have h0' : ¬ p3 < 0 := fun q => by
            rw [Int32.lt_iff_toInt_lt] at q
            rw [Int32.le_iff_toInt_le] at h0
            omega
          obtain ⟨L, hL, rfl⟩ := nI_of h0'
          have hL60 : L ≤ 60 := (nI_leI (b := 60) hL (by decide)).mp h60
          have e1 : fX2_becomeRow n (row c) (lane c) (len c) (nI a) (nI L) = some (rz (row c) 60, nI a, nI L) := by
            unfold fX2_becomeRow
            have h := e_becomeRow_12 n (row c) (nI a) (nI L) n 0 (by omega) (by omega)
            rw [rz0] at h
            exact h
          have e2 : fX5_sheet_57 n n (0 : Int32) (upd so c (nI a)) (upd sl c (nI L)) mc (nI c) (0 : Int32) = some ((1 : Int32), (0 : Int32), upd so c (nI a), upd sl c (nI L), mz mc (60 * c) 60) := by
            have h := e_sheet_57 n mc (upd so c (nI a)) (upd sl c (nI L)) 0 hc n 0 (by omega) (by omega)
            rw [mz0] at h
            exact h
          simp only [if_pos h0, gd_in hc (show 4 < 2 ^ 31 by decide), nI_clamp (show c < 2 ^ 31 by omega), e1, e2, Option.bind_some]
          refine ⟨_, _, _, _, _, _, _, _, rfl, rfl, ?_⟩
          intro k hk
          by_cases hkc : k = c
          · subst hkc
            refine ⟨Or.inr ⟨a, L, by omega, hL60, vu_eq, ud_eq, vu_eq, ud_eq⟩, fun i hi => ?_⟩
            rw [vu_eq]
            unfold rz mz
            rw [if_pos hi, if_pos (by omega)]
          · rw [vu_ne hkc, ud_ne hkc, vu_ne hkc, ud_ne hkc, vu_ne hkc]
            refine ⟨(hR k hk).1, fun i hi => ?_⟩
            rw [(hR k hk).2 i hi]
            unfold mz
            rw [if_neg (by omega)]
        · simp only [if_neg h0, fX4_faulted, fX5_fails, Option.bind_some]
          exact ⟨_, _, _, _, _, _, _, _, rfl, rfl, hR⟩
      · simp only [if_neg h60]; exact ⟨_, _, _, _, _, _, _, _, rfl, rfl, hR⟩
theorem L_lose (n : Nat) {row : Nat → Nat → Int32} {lane len so sl mc : Nat → Int32} (hR : Sr row lane len so sl mc) (p1 : Int32) : ∃ r lane' len' so', fX4_lose n lane len p1 = some (r, lane', len') ∧ fX5_lose n so p1 = some (r, so') ∧ Sr row lane' len' so' sl mc := by
  unfold fX4_lose fX5_lose
  rcases sheet_or n p1 with ⟨h4, h5⟩ | ⟨c, hc, rfl, h4, h5⟩
  · simp only [h4, h5, Option.bind_some, if00]; exact ⟨_, _, _, _, rfl, rfl, hR⟩
  · have hnew : Sr row (va_up lane c (-1)) (va_up len c 0) (upd so c (-9)) sl mc := by
      intro k hk
      by_cases hkc : k = c
      · subst hkc
        exact ⟨Or.inl ⟨vu_eq, ud_eq⟩, (hR k hk).2⟩
      · rw [vu_ne hkc, vu_ne hkc, ud_ne hkc]
        exact hR k hk
    simp only [h4, h5, Option.bind_some, if10, gd_in hc (show 4 < 2 ^ 31 by decide), nI_clamp (show c < 2 ^ 31 by omega), fX4_lose_26, fX5_lose_25, fX2_becomeNothing]
    rcases (hR c hc).1 with ⟨e1, e2⟩ | ⟨a, L, ha, hL, e1, e2, e3, e4⟩
    · simp only [e1, e2, nothing_m1, Option.bind_some, if10, if_true]
      exact ⟨_, _, _, _, rfl, rfl, hnew⟩
    · simp only [e1, e2, nothing_nI n (show a < 2 ^ 31 by omega), Option.bind_some, if00, if_neg (nI_ne_m9 (show a < 2 ^ 31 by omega))]
      exact ⟨_, _, _, _, rfl, rfl, hnew⟩
theorem Sr_put {row : Nat → Nat → Int32} {lane len so sl mc : Nat → Int32} (hR : Sr row lane len so sl mc) {c i : Nat} (hi : i < 60) (v : Int32) : Sr (va_up row c (upd (row c) i v)) lane len so sl (upd mc (60 * c + i) v) := by
  intro k hk
  refine ⟨(hR k hk).1, fun j hj => ?_⟩
  by_cases hkc : k = c
  · subst hkc
    rw [vu_eq]
    by_cases hji : j = i
    · subst hji; rw [ud_eq, ud_eq]
    · rw [ud_ne hji, ud_ne (by omega)]; exact (hR k hk).2 j hj
  · rw [vu_ne hkc, ud_ne (by omega)]; exact (hR k hk).2 j hj
theorem L_put (n : Nat) {row : Nat → Nat → Int32} {lane len so sl mc : Nat → Int32} (hR : Sr row lane len so sl mc) (fl p1 p2 p3 : Int32) : ∃ r fl' row' mc', fX4_put n fl row lane len p1 p2 p3 = some (r, fl', row') ∧ fX5_put n fl so sl mc p1 p2 p3 = some (r, fl', mc') ∧ Sr row' lane len so sl mc' := by
  unfold fX4_put fX5_put
  rcases sheet_or n p1 with ⟨h4, h5⟩ | ⟨c, hc, rfl, h4, h5⟩
  · simp only [h4, h5, Option.bind_some, if00]; exact ⟨_, _, _, _, rfl, rfl, hR⟩
  · simp only [h4, h5, Option.bind_some, if10, gd_in hc (show 4 < 2 ^ 31 by decide), nI_clamp (show c < 2 ^ 31 by omega)]
    rcases (hR c hc).1 with ⟨e1, e2⟩ | ⟨a, L, ha, hL, e1, e2, e3, e4⟩
    · simp only [e1, e2, nothing_m1, Option.bind_some, if10, if_true, fX4_faulted, fX5_fails]
      exact ⟨_, _, _, _, rfl, rfl, hR⟩
    · simp only [e1, e2, e3, e4, nothing_nI n (show a < 2 ^ 31 by omega), Option.bind_some, if00, if_neg (nI_ne_m9 (show a < 2 ^ 31 by omega))]
      rcases place_or n hL p2 with ⟨h4, h5⟩ | ⟨i, hi, rfl, h4, h5⟩
      · simp only [h4, h5, Option.bind_some, if00, fX4_faulted, fX5_fails]
        exact ⟨_, _, _, _, rfl, rfl, hR⟩
      · simp only [h4, h5, Option.bind_some, if10, fX2_setAt, fX2_cutToLane, gd_in (show i < 60 by omega) (show 60 < 2 ^ 31 by decide), i60, gd_in (show 60 * c + i < 240 by omega) (show 240 < 2 ^ 31 by decide), nI_clamp (show i < 2 ^ 31 by omega), nI_clamp (show 60 * c + i < 2 ^ 31 by omega)]
        rcases (show a = 0 ∨ a = 1 ∨ a = 2 by omega) with rfl | rfl | rfl
        · exact ⟨_, _, _, _, rfl, rfl, Sr_put hR (by omega) _⟩
        · exact ⟨_, _, _, _, rfl, rfl, Sr_put hR (by omega) _⟩
        · exact ⟨_, _, _, _, rfl, rfl, Sr_put hR (by omega) _⟩
theorem faultAs_nI (n : Nat) {a b : Nat} (ha : a < 3) (hb : b < 3) : fX2_faultAs n (nI a) (nI b) = some (if a = b then (0 : Int32) else 2) := by
  unfold fX2_faultAs
  rw [nothing_nI n (by omega), Option.bind_some, if00]
  by_cases h : a = b
  · rw [if_pos (by rw [h]), if_pos h]
  · rw [if_neg (fun e => h (i_inj (by omega) (by omega) e)), if_neg h]
theorem L_cell (n : Nat) {row : Nat → Nat → Int32} {lane len so sl mc : Nat → Int32} (hR : Sr row lane len so sl mc) (fl p1 p2 p3 : Int32) : ∃ r fl', fX4_cell n fl row lane len p1 p2 p3 = some (r, fl') ∧ fX5_cell n fl so sl mc p1 p2 p3 = some (r, fl') := by
  unfold fX4_cell fX5_cell
  rcases sheet_or n p1 with ⟨h4, h5⟩ | ⟨c, hc, rfl, h4, h5⟩
  · simp only [h4, h5, Option.bind_some, if00]; exact ⟨_, _, rfl, rfl⟩
  · simp only [h4, h5, Option.bind_some, if10]
    rcases lane_or n p3 with ⟨h4, h5⟩ | ⟨b, hb, rfl, h4, h5⟩
    · simp only [h4, h5, Option.bind_some, if00]; exact ⟨_, _, rfl, rfl⟩
    · simp only [h4, h5, Option.bind_some, if10, gd_in hc (show 4 < 2 ^ 31 by decide), nI_clamp (show c < 2 ^ 31 by omega), fX4_cell_62, fX5_cell_50, fX5_lost]
      rcases (hR c hc).1 with ⟨e1, e2⟩ | ⟨a, L, ha, hL, e1, e2, e3, e4⟩
      · simp only [e1, e2, if_true, show fX2_faultAs n (-1 : Int32) (nI b) = some 1 from rfl, Option.bind_some, if10]
        exact ⟨_, _, rfl, rfl⟩
      · simp only [e1, e2, e3, e4, faultAs_nI n (show a < 3 by omega) hb, Option.bind_some, if_neg (nI_ne_m9 (show a < 2 ^ 31 by omega))]
        by_cases hab : a = b
        · subst hab
          simp only [if_true, if00]
          rcases place_or n hL p2 with ⟨h4, h5⟩ | ⟨i, hi, rfl, h4, h5⟩
          · simp only [h4, h5, Option.bind_some, if00]
            exact ⟨_, _, rfl, rfl⟩
          · simp only [h4, h5, Option.bind_some, if10, if00, if_true, fX2_codeAt, gd_in (show i < 60 by omega) (show 60 < 2 ^ 31 by decide), i60, gd_in (show 60 * c + i < 240 by omega) (show 240 < 2 ^ 31 by decide), nI_clamp (show i < 2 ^ 31 by omega), nI_clamp (show 60 * c + i < 2 ^ 31 by omega), (hR c hc).2 i (show i < 60 by omega)]
            exact ⟨_, _, rfl, rfl⟩
        · have hne : ¬ nI a = nI b := fun e => hab (i_inj (by omega) (by omega) e)
          simp only [if_neg hab, if_neg hne]
          exact ⟨_, _, rfl, rfl⟩
