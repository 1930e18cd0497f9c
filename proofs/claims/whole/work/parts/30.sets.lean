/-! numbers and sets of cells: Int32 by nI, sets as numbers below 2^12 -/
theorem gd_in {α : Type} {i N : Nat} {k : Option α} (h : i < N) (hN : N < 2 ^ 31) : gd (nI i) N k = k := by
  unfold gd
  rw [if_neg (nI_in h hN)]
theorem i_or (a b : Nat) : nI a ||| nI b = nI (a ||| b) := by
  apply Int32.toBitVec_inj.1
  show BitVec.ofNat 32 a ||| BitVec.ofNat 32 b = BitVec.ofNat 32 (a ||| b)
  apply BitVec.eq_of_getLsbD_eq
  intro i hi
  simp [hi]
theorem i_and (a b : Nat) : nI a &&& nI b = nI (a &&& b) := by
  apply Int32.toBitVec_inj.1
  show BitVec.ofNat 32 a &&& BitVec.ofNat 32 b = BitVec.ofNat 32 (a &&& b)
  apply BitVec.eq_of_getLsbD_eq
  intro i hi
  simp [hi]
theorem i_xor (a b : Nat) : nI a ^^^ nI b = nI (a ^^^ b) := by
  apply Int32.toBitVec_inj.1
  show BitVec.ofNat 32 a ^^^ BitVec.ofNat 32 b = BitVec.ofNat 32 (a ^^^ b)
  apply BitVec.eq_of_getLsbD_eq
  intro i hi
  simp [hi]
theorem i_m1 : (-1 : Int32) = nI 4294967295 := by decide
theorem i_not (b : Nat) : nI b ^^^ (-1 : Int32) = nI (b ^^^ 4294967295) := by rw [i_m1, i_xor]
theorem i_s : ∀ n, n < 32 → ((nI n &&& 31).toBitVec.smod 32).toNat = n := by decide +kernel
theorem i_shl {a k : Nat} (hk : k < 32) (h : a * 2 ^ k < 2 ^ 32) : nI a <<< (nI k &&& 31) = nI (a * 2 ^ k) := pk_shlN _ k (i_s k hk) h
theorem i_shr {a k : Nat} (hk : k < 32) (h : a < 2 ^ 31) : nI a >>> (nI k &&& 31) = nI (a / 2 ^ k) := pk_shrN h _ k (i_s k hk)
theorem i_bit {k : Nat} (hk : k < 32) : (1 : Int32) <<< (nI k &&& 31) = nI (2 ^ k) := by
  have h : 1 * 2 ^ k < 2 ^ 32 := by rw [Nat.one_mul]; exact Nat.pow_lt_pow_right (by decide) hk
  have h1 := i_shl (a := 1) hk h
  rw [Nat.one_mul] at h1
  exact h1
theorem i_inj {a b : Nat} (ha : a < 2 ^ 31) (hb : b < 2 ^ 31) (h : nI a = nI b) : a = b := (nI_eq ha hb).mp h
/-- the numbers below N that have P, as a set -/
def bs (P : Nat → Bool) : Nat → Nat
  | 0 => 0
  | i + 1 => if P i then bs P i ||| 2 ^ i else bs P i
theorem bs_lt (P : Nat → Bool) : ∀ N, bs P N < 2 ^ N := by
  intro N
  induction N with
  | zero => exact Nat.one_pos
  | succ N ih =>
    unfold bs
    have h1 : bs P N < 2 ^ (N + 1) := Nat.lt_of_lt_of_le ih (Nat.pow_le_pow_right (by decide) (Nat.le_succ N))
    split
    · exact Nat.or_lt_two_pow h1 (Nat.pow_lt_pow_right (by decide) (Nat.lt_succ_self N))
    · exact h1
theorem bs_test (P : Nat → Bool) : ∀ N i, (bs P N).testBit i = (decide (i < N) && P i) := by
  intro N
  induction N with
  | zero => intro i; simp [bs]
  | succ N ih =>
    intro i
    unfold bs
    by_cases h : P N = true
    · rw [if_pos h, Nat.testBit_or, ih, Nat.testBit_two_pow]
      by_cases hi : i = N
      · subst hi; simp [h]
      · have : N ≠ i := fun e => hi e.symm
        have h2 : decide (i < N + 1) = decide (i < N) := by
          apply decide_eq_decide.mpr; omega
        simp [this, h2]
    · rw [if_neg h, ih]
      by_cases hi : i = N
      · subst hi; simp [h]
      · have h2 : decide (i < N + 1) = decide (i < N) := by
          apply decide_eq_decide.mpr; omega
        rw [h2]
theorem bs_congr {P Q : Nat → Bool} : ∀ {N : Nat}, (∀ i, i < N → P i = Q i) → bs P N = bs Q N := by
  intro N
  induction N with
  | zero => intro _; rfl
  | succ N ih =>
    intro h
    unfold bs
    rw [ih (fun i hi => h i (Nat.lt_succ_of_lt hi)), h N (Nat.lt_succ_self N)]
theorem bs_pos {P : Nat → Bool} {i : Nat} (h : P i = true) : bs P (i + 1) = bs P i ||| 2 ^ i := by rw [bs, if_pos h]
theorem bs_neg {P : Nat → Bool} {i : Nat} (h : P i = false) : bs P (i + 1) = bs P i := by rw [bs, if_neg (by rw [h]; decide)]
/-- what is in a and not in b -/
def df (a b : Nat) : Nat := a &&& (b ^^^ 4294967295)
theorem m32_test (i : Nat) : (4294967295 : Nat).testBit i = decide (i < 32) := by
  have h := Nat.testBit_two_pow_sub_one 32 i
  exact h
theorem df_test {a b i : Nat} (hi : i < 32) : (df a b).testBit i = (a.testBit i && !b.testBit i) := by
  unfold df
  rw [Nat.testBit_and, Nat.testBit_xor, m32_test, decide_eq_true hi]
  cases a.testBit i <;> cases b.testBit i <;> rfl
theorem df_lt {a b k : Nat} (h : a < 2 ^ k) : df a b < 2 ^ k := Nat.lt_of_le_of_lt Nat.and_le_left h
theorem i_df (a b : Nat) : nI a &&& (nI b ^^^ (-1 : Int32)) = nI (df a b) := by rw [i_not, i_and]; rfl
theorem tb_lt {a k i : Nat} (h : a < 2 ^ k) (hi : k ≤ i) : a.testBit i = false := Nat.testBit_lt_two_pow (Nat.lt_of_lt_of_le h (Nat.pow_le_pow_right (by decide) hi))
theorem tb_ext {a b k : Nat} (ha : a < 2 ^ k) (hb : b < 2 ^ k) (h : ∀ i, i < k → a.testBit i = b.testBit i) : a = b := by
  apply Nat.eq_of_testBit_eq
  intro i
  rcases Nat.lt_or_ge i k with q | q
  · exact h i q
  · rw [tb_lt ha q, tb_lt hb q]
/-- how many numbers below k are in x -/
def pk (x : Nat) : Nat → Nat
  | 0 => 0
  | k + 1 => pk x k + (if x.testBit k then 1 else 0)
theorem pk_leN (x : Nat) : ∀ k, pk x k ≤ k := by
  intro k
  induction k with
  | zero => exact Nat.le_refl _
  | succ k ih => unfold pk; split <;> omega
theorem pk_mono {x y : Nat} : ∀ {k : Nat}, (∀ i, i < k → x.testBit i = true → y.testBit i = true) → pk x k ≤ pk y k := by
  intro k
  induction k with
  | zero => intro _; exact Nat.le_refl _
  | succ k ih =>
    intro h
    have h1 := ih (fun i hi => h i (Nat.lt_succ_of_lt hi))
    have h2 := h k (Nat.lt_succ_self k)
    unfold pk
    by_cases hx : x.testBit k = true
    · rw [if_pos hx, if_pos (h2 hx)]; omega
    · rw [if_neg hx]; split <;> omega
theorem pk_strict {x y : Nat} : ∀ {k : Nat}, (∀ i, i < k → x.testBit i = true → y.testBit i = true) → (∃ i, i < k ∧ y.testBit i = true ∧ x.testBit i = false) → pk x k < pk y k := by
  intro k
  induction k with
  | zero => intro _ h; obtain ⟨i, hi, _⟩ := h; omega
  | succ k ih =>
    intro h he
    have h1 : ∀ i, i < k → x.testBit i = true → y.testBit i = true := fun i hi => h i (Nat.lt_succ_of_lt hi)
    obtain ⟨i, hi, hy, hx⟩ := he
    unfold pk
    by_cases hk : i = k
    · subst hk
      have h3 := pk_mono h1
      rw [if_pos hy, if_neg (by rw [hx]; decide)]
      omega
    · have h3 := ih h1 ⟨i, by omega, hy, hx⟩
      have h2 := h k (Nat.lt_succ_self k)
      by_cases hx : x.testBit k = true
      · rw [if_pos hx, if_pos (h2 hx)]; omega
      · rw [if_neg hx]; split <;> omega
/-! the shapes -/
def Sh (w h : Nat) : Prop := (w = 2 ∨ w = 3 ∨ w = 4) ∧ (h = 2 ∨ h = 3)
def fcN (w h : Nat) : Nat := if h = 0 then 0 else if h = 2 then 1 + 2 ^ w else 1 + 2 ^ w + 2 ^ (2 * w)
def lcN (w h : Nat) : Nat := fcN w h * 2 ^ (w - 1)
def alN (w h : Nat) : Nat := 2 ^ (w * h) - 1
/-- the cells beside those of x -/
def besN (w h x : Nat) : Nat := ((((x &&& (lcN w h ^^^ 4294967295)) * 2) ||| ((x &&& (fcN w h ^^^ 4294967295)) / 2)) ||| ((x * 2 ^ w) ||| (x / 2 ^ w))) &&& alN w h
/-- those beside one cell -/
def mkN (w h c : Nat) : Nat := ((if 0 < c % w then 2 ^ (c - 1) else 0) ||| (if c % w < w - 1 then 2 ^ (c + 1) else 0)) ||| (if w ≤ c then 2 ^ (c - w) else 0) ||| (if c + w < w * h then 2 ^ (c + w) else 0)
def ckb (w h : Nat) : Bool := (List.range (2 ^ (w * h))).all fun x => (List.range (w * h)).all fun c => (besN w h x).testBit c == decide (mkN w h c &&& x ≠ 0)
theorem ckb22 : ckb 2 2 = true := by decide +kernel
theorem ckb32 : ckb 3 2 = true := by decide +kernel
theorem ckb42 : ckb 4 2 = true := by decide +kernel
theorem ckb23 : ckb 2 3 = true := by decide +kernel
theorem ckb33 : ckb 3 3 = true := by decide +kernel
theorem ckb43 : ckb 4 3 = true := by decide +kernel
theorem Sh_elim {P : Nat → Nat → Prop} (h22 : P 2 2) (h32 : P 3 2) (h42 : P 4 2) (h23 : P 2 3) (h33 : P 3 3) (h43 : P 4 3) {w h : Nat} (hs : Sh w h) : P w h := by
  obtain ⟨h1, h2⟩ := hs
  rcases h1 with rfl | rfl | rfl <;> rcases h2 with rfl | rfl <;> assumption
theorem ckb_all {w h : Nat} (hs : Sh w h) : ckb w h = true := Sh_elim (P := fun w h => ckb w h = true) ckb22 ckb32 ckb42 ckb23 ckb33 ckb43 hs
theorem bes_mk {w h x c : Nat} (hs : Sh w h) (hx : x < 2 ^ (w * h)) (hc : c < w * h) : (besN w h x).testBit c = decide (mkN w h c &&& x ≠ 0) := by
  have h1 := List.all_eq_true.mp (ckb_all hs) x (List.mem_range.mpr hx)
  have h2 := List.all_eq_true.mp h1 c (List.mem_range.mpr hc)
  exact eq_of_beq h2
theorem Sh_lt {w h : Nat} (hs : Sh w h) : w * h ≤ 12 ∧ 4 ≤ w * h ∧ 2 ≤ w ∧ w ≤ 4 ∧ 2 ≤ h ∧ h ≤ 3 := Sh_elim (P := fun w h => w * h ≤ 12 ∧ 4 ≤ w * h ∧ 2 ≤ w ∧ w ≤ 4 ∧ 2 ≤ h ∧ h ≤ 3) (by decide) (by decide) (by decide) (by decide) (by decide) (by decide) hs
theorem Sh_pow {w h x : Nat} (hs : Sh w h) (hx : x < 2 ^ (w * h)) : x < 4096 := Nat.lt_of_lt_of_le hx (show 2 ^ (w * h) ≤ 2 ^ 12 from Nat.pow_le_pow_right (by decide) (Sh_lt hs).1)
