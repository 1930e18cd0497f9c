/-! odds: both count the same ways, and both tell them in least terms -/
def cnP (g : Nat → Bool) (M : Nat) : Nat → Nat → Nat
  | 0, P => if g P = true then 1 else 0
  | k + 1, P => (if M.testBit k = true then cnP g M k (P + 2 ^ k) else 0) + cnP g M k P
theorem cn_all (M : Nat) : ∀ k P, cnP (fun _ => true) M k P = 2 ^ pk M k := by
  intro k
  induction k with
  | zero => intro P; rfl
  | succ k ih =>
    intro P
    rw [cnP, ih, ih, pk]
    by_cases h : M.testBit k = true
    · rw [if_pos h, if_pos h, Nat.pow_succ]; omega
    · rw [if_neg h, if_neg h, Nat.add_zero, Nat.zero_add]
theorem cn_le (g : Nat → Bool) (M : Nat) : ∀ k P, cnP g M k P ≤ 2 ^ pk M k := by
  intro k
  induction k with
  | zero => intro P; rw [cnP]; split <;> simp [pk]
  | succ k ih =>
    intro P
    rw [cnP, pk]
    have h1 := ih P
    have h2 := ih (P + 2 ^ k)
    by_cases h : M.testBit k = true
    · rw [if_pos h, if_pos h, Nat.pow_succ]; omega
    · rw [if_neg h, if_neg h]; simpa using h1
theorem tb_mod {M k : Nat} : M.testBit k = decide (M / 2 ^ k % 2 = 1) := Nat.testBit_eq_decide_div_mod_eq
theorem mod_succ (M k : Nat) : M % 2 ^ (k + 1) = M % 2 ^ k + 2 ^ k * (M / 2 ^ k % 2) := Nat.mod_pow_succ
theorem mul_test {k q i : Nat} (b : Nat) (hb : b < 2 ^ k) : (2 ^ k * q + b).testBit i = if i < k then b.testBit i else q.testBit (i - k) := Nat.testBit_two_pow_mul_add q hb i
theorem sb_low {k Q M : Nat} (h : sb (2 ^ (k + 1) * Q) M) (hk : M.testBit k = true) : sb (2 ^ k * (2 * Q + 1)) M := by
  intro i hi
  have h1 : 2 ^ k * (2 * Q + 1) = 2 ^ (k + 1) * Q + 2 ^ k := by rw [Nat.mul_add, Nat.pow_succ]; rw [Nat.mul_one, Nat.mul_assoc]
  rw [h1, mul_test (2 ^ k) (Nat.pow_lt_pow_right (by decide) (Nat.lt_succ_self k))] at hi
  by_cases hik : i < k + 1
  · rw [if_pos hik, Nat.testBit_two_pow, decide_eq_true_iff] at hi
    rw [← hi]; exact hk
  · rw [if_neg hik] at hi
    apply h i
    have h2 := mul_test (k := k + 1) (q := Q) (i := i) 0 (Nat.two_pow_pos _)
    rw [Nat.add_zero, if_neg hik] at h2
    rw [h2]; exact hi
theorem two_q (k Q : Nat) : 2 ^ k * (2 * Q) = 2 ^ (k + 1) * Q := by rw [Nat.pow_succ, Nat.mul_assoc]
theorem and_low {k Q M : Nat} (h : sb (2 ^ (k + 1) * Q) M) : (2 ^ k * (2 * Q + 1) - 1) &&& M = 2 ^ k * (2 * Q) + M % 2 ^ k := by
  have hp := Nat.two_pow_pos k
  have h1 : 2 ^ k * (2 * Q + 1) - 1 = 2 ^ k * (2 * Q) + (2 ^ k - 1) := by rw [Nat.mul_add, Nat.mul_one]; omega
  apply Nat.eq_of_testBit_eq
  intro i
  rw [h1, Nat.testBit_and, mul_test _ (by omega), mul_test _ (Nat.mod_lt _ hp)]
  by_cases hi : i < k
  · rw [if_pos hi, if_pos hi, Nat.testBit_two_pow_sub_one, Nat.testBit_mod_two_pow]
  · rw [if_neg hi, if_neg hi]
    cases hq : (2 * Q).testBit (i - k) with
    | false => rfl
    | true =>
      have h2 := mul_test (k := k) (q := 2 * Q) (i := i) 0 hp
      rw [Nat.add_zero, if_neg hi, hq, two_q] at h2
      rw [h i h2]; rfl
theorem e_ow (n : Nat) (hn : 5000 ≤ n) {w h A M : Nat} (wt : Nat → Int32) (hs : Sh w h) (hA : A < 2 ^ (w * h)) (hM : M < 2 ^ (w * h)) : ∀ (k Q a V F : Nat), k ≤ 12 → V + 2 ^ pk M k ≤ 100000 → sb (2 ^ k * Q) M →
    fX0_openWays_23 n (F + 2 ^ pk M k) wt (nI w) (nI (w * h)) (nI (alN w h)) (nI (fcN w h)) (nI (lcN w h)) (nI A) (nI M) (nI a) (nI (2 ^ k * Q + M % 2 ^ k)) (nI (V + 2 ^ pk M k)) =
    fX0_openWays_23 n F wt (nI w) (nI (w * h)) (nI (alN w h)) (nI (fcN w h)) (nI (lcN w h)) (nI A) (nI M) (nI (a + cnP (fun y => opN w h (A ||| y)) M k (2 ^ k * Q))) ((nI (2 ^ k * Q) - 1) &&& nI M) (nI V) := by
  have hN := (Sh_lt hs).1
  intro k
  induction k with
  | zero =>
    intro Q a V F _ hV hsub
    rw [show pk M 0 = 0 from rfl, Nat.pow_zero] at hV
    rw [Nat.pow_zero, Nat.one_mul] at hsub ⊢
    rw [Nat.mod_one, Nat.add_zero, show pk M 0 = 0 from rfl, Nat.pow_zero, fX0_openWays_23]
    have hQ : Q < 2 ^ (w * h) := Nat.lt_of_le_of_lt (sb_le hsub) hM
    have hAQ : A ||| Q < 2 ^ (w * h) := Nat.or_lt_two_pow hA hQ
    simp only [if_neg (nI_nle (show 0 < V + 1 by omega) (show V + 1 < 2 ^ 31 by omega)), i_or, e_isOpenBy n hn hs hAQ, Option.bind_some, pk_m1, nI_1]
    rw [cnP]
    by_cases ho : opN w h (A ||| Q) = true
    · simp only [if_pos ho, if10]
    · simp only [if_neg ho, if00]; rfl
  | succ k ih =>
    intro Q a V F hk hV hsub
    have hpk : 2 ^ pk M k ≤ 4096 := show 2 ^ pk M k ≤ 2 ^ 12 from Nat.pow_le_pow_right (by decide) (Nat.le_trans (pk_leN M k) (by omega))
    rw [mod_succ, pk, cnP]
    by_cases hb : M.testBit k = true
    · have hb2 : M / 2 ^ k % 2 = 1 := by rw [tb_mod, decide_eq_true_iff] at hb; exact hb
      rw [if_pos hb, if_pos hb, hb2, Nat.mul_one]
      have e1 : F + 2 ^ (pk M k + 1) = (F + 2 ^ pk M k) + 2 ^ pk M k := by rw [Nat.pow_succ]; omega
      have e2 : V + 2 ^ (pk M k + 1) = (V + 2 ^ pk M k) + 2 ^ pk M k := by rw [Nat.pow_succ]; omega
      have e3 : 2 ^ (k + 1) * Q + (M % 2 ^ k + 2 ^ k) = 2 ^ k * (2 * Q + 1) + M % 2 ^ k := by rw [Nat.mul_add, two_q, Nat.mul_one]; omega
      have e4 : 2 ^ (k + 1) * Q + 2 ^ k = 2 ^ k * (2 * Q + 1) := by rw [Nat.mul_add, two_q, Nat.mul_one]
      have h5 : 1 ≤ 2 ^ k * (2 * Q + 1) := Nat.mul_pos (Nat.two_pow_pos k) (by omega)
      rw [pk, if_pos hb, e2] at hV
      have hpp := Nat.two_pow_pos (pk M k)
      rw [e1, e2, e3, ih (2 * Q + 1) a (V + 2 ^ pk M k) (F + 2 ^ pk M k) (by omega) hV (sb_low hsub hb)]
      rw [show nI (2 ^ k * (2 * Q + 1)) - (1 : Int32) = nI (2 ^ k * (2 * Q + 1) - 1) from pk_sub h5, i_and, and_low hsub]
      rw [ih (2 * Q) _ V F (by omega) (by omega) (by rw [two_q]; exact hsub), two_q, e4, Nat.add_assoc]
    · have hb2 : M / 2 ^ k % 2 = 0 := by
        have h6 : ¬ M / 2 ^ k % 2 = 1 := fun e => hb (by rw [tb_mod, e]; rfl)
        omega
      rw [if_neg hb, if_neg hb, hb2, Nat.mul_zero, Nat.add_zero, Nat.add_zero, Nat.zero_add, ← two_q]
      rw [pk, if_neg hb, Nat.add_zero] at hV
      exact ih (2 * Q) a V F (by omega) hV (by rw [two_q]; exact hsub)
/-- a sum over len numbers from P on -/
def sm (f : Nat → Nat) : Nat → Nat → Nat
  | _, 0 => 0
  | P, len + 1 => f P + sm f (P + 1) len
theorem sm_add (f : Nat → Nat) : ∀ (a P b : Nat), sm f P (a + b) = sm f P a + sm f (P + a) b := by
  intro a
  induction a with
  | zero => intro P b; rw [Nat.zero_add, sm, Nat.zero_add, Nat.add_zero]
  | succ a ih => intro P b; rw [show a + 1 + b = (a + b) + 1 by omega, sm, ih, sm, show P + 1 + a = P + (a + 1) by omega, Nat.add_assoc]
theorem sm_zero (f : Nat → Nat) : ∀ (len P : Nat), (∀ i, i < len → f (P + i) = 0) → sm f P len = 0 := by
  intro len
  induction len with
  | zero => intro P _; rfl
  | succ len ih =>
    intro P h
    have h0 := h 0 (by omega)
    rw [Nat.add_zero] at h0
    rw [sm, ih (P + 1) (fun i hi => by have := h (i + 1) (by omega); rw [show P + 1 + i = P + (i + 1) by omega]; exact this), h0]
theorem or_dbl (x y b c : Nat) (hb : b < 2) (hc : c < 2) (hbc : b + c < 2) : (2 * x + b) ||| (2 * y + c) = 2 * (x ||| y) + (b + c) := by
  apply Nat.eq_of_testBit_eq
  intro i
  cases i with
  | zero =>
    rw [Nat.testBit_or, Nat.testBit_zero, Nat.testBit_zero, Nat.testBit_zero]
    rcases (show (b = 0 ∧ c = 0) ∨ (b = 1 ∧ c = 0) ∨ (b = 0 ∧ c = 1) by omega) with ⟨rfl, rfl⟩ | ⟨rfl, rfl⟩ | ⟨rfl, rfl⟩ <;> simp [Nat.mul_add_mod]
  | succ i =>
    rw [Nat.testBit_or, Nat.testBit_succ, Nat.testBit_succ, Nat.testBit_succ, show (2 * x + b) / 2 = x by omega, show (2 * y + c) / 2 = y by omega, show (2 * (x ||| y) + (b + c)) / 2 = (x ||| y) by omega, Nat.testBit_or]
theorem div_step (A k : Nat) : A / 2 ^ k = 2 * (A / 2 ^ (k + 1)) + A / 2 ^ k % 2 := by
  rw [Nat.pow_succ, ← Nat.div_div_eq_div_mul]
  omega
theorem sm_cn (g : Nat → Bool) {A M N : Nat} (hMA : ∀ i, i < N → M.testBit i = !A.testBit i) : ∀ (k Q : Nat), k ≤ N → sb (2 ^ k * Q) M → sm (fun S => if S &&& A = A ∧ g S = true then 1 else 0) (2 ^ k * (Q ||| A / 2 ^ k)) (2 ^ k) = cnP (fun y => g (A ||| y)) M k (2 ^ k * Q) := by
  intro k
  induction k with
  | zero =>
    intro Q _ _
    rw [Nat.pow_zero, Nat.one_mul, Nat.one_mul, Nat.div_one, cnP, Nat.or_comm Q A]
    show (if (A ||| Q) &&& A = A ∧ g (A ||| Q) = true then 1 else 0) + 0 = _
    have h1 : (A ||| Q) &&& A = A := by
      apply Nat.eq_of_testBit_eq
      intro i
      rw [Nat.testBit_and, Nat.testBit_or]
      cases A.testBit i <;> simp
    rw [Nat.add_zero]
    by_cases hg : g (A ||| Q) = true
    · rw [if_pos ⟨h1, hg⟩, if_pos hg]
    · rw [if_neg (fun q => hg q.2), if_neg hg]
  | succ k ih =>
    intro Q hk hsub
    have e0 : 2 ^ (k + 1) = 2 ^ k + 2 ^ k := by rw [Nat.pow_succ]; omega
    have hm := hMA k (by omega)
    have hd := div_step A k
    rw [cnP]
    generalize hf : (fun S => if S &&& A = A ∧ g S = true then 1 else 0) = f at ih ⊢
    have hsplit : sm f (2 ^ (k + 1) * (Q ||| A / 2 ^ (k + 1))) (2 ^ (k + 1)) = sm f (2 ^ k * (2 * (Q ||| A / 2 ^ (k + 1)))) (2 ^ k) + sm f (2 ^ k * (2 * (Q ||| A / 2 ^ (k + 1)) + 1)) (2 ^ k) := by
      rw [two_q, Nat.mul_add, two_q, Nat.mul_one, ← sm_add, ← e0]
    rw [hsplit]
    by_cases hb : A.testBit k = true
    · have hb2 : A / 2 ^ k % 2 = 1 := by rw [tb_mod, decide_eq_true_iff] at hb; exact hb
      rw [hb2] at hd
      have hz : sm f (2 ^ k * (2 * (Q ||| A / 2 ^ (k + 1)))) (2 ^ k) = 0 := by
        apply sm_zero
        intro i hi
        rw [← hf]
        refine if_neg fun q => ?_
        have h1 : ((2 ^ k * (2 * (Q ||| A / 2 ^ (k + 1))) + i) &&& A).testBit k = true := by rw [q.1]; exact hb
        rw [Nat.testBit_and, mul_test i hi, if_neg (Nat.lt_irrefl k), Nat.sub_self, Nat.testBit_zero, Bool.and_eq_true, decide_eq_true_iff] at h1
        omega
      have h2 := ih (2 * Q) (by omega) (by rw [two_q]; exact hsub)
      have h3 := or_dbl Q (A / 2 ^ (k + 1)) 0 1 (by decide) (by decide) (by decide)
      rw [hd, show 2 * Q ||| (2 * (A / 2 ^ (k + 1)) + 1) = 2 * (Q ||| A / 2 ^ (k + 1)) + 1 from h3] at h2
      rw [hz, h2, hm, hb, two_q]
      simp
    · have hbf : A.testBit k = false := by simpa using hb
      have hb2 : A / 2 ^ k % 2 = 0 := by
        have h6 : ¬ A / 2 ^ k % 2 = 1 := fun e => hb (by rw [tb_mod, e]; rfl)
        omega
      rw [hb2, Nat.add_zero] at hd
      have hM : M.testBit k = true := by rw [hm, hbf]; rfl
      have h2 := ih (2 * Q) (by omega) (by rw [two_q]; exact hsub)
      have h3 := or_dbl Q (A / 2 ^ (k + 1)) 0 0 (by decide) (by decide) (by decide)
      rw [hd, show 2 * Q ||| 2 * (A / 2 ^ (k + 1)) = 2 * (Q ||| A / 2 ^ (k + 1)) from h3] at h2
      have h4 := ih (2 * Q + 1) (by omega) (sb_low hsub hM)
      have h5 := or_dbl Q (A / 2 ^ (k + 1)) 1 0 (by decide) (by decide) (by decide)
      rw [hd, show (2 * Q + 1) ||| 2 * (A / 2 ^ (k + 1)) = 2 * (Q ||| A / 2 ^ (k + 1)) + 1 from h5] at h4
      rw [h2, h4, if_pos hM, two_q, show 2 ^ k * (2 * Q + 1) = 2 ^ (k + 1) * Q + 2 ^ k by rw [Nat.mul_add, two_q, Nat.mul_one], Nat.add_comm]
/-! least terms -/
theorem e_lg {y : Nat} (hy : y < 2 ^ 31) : (lg_cmp (lN y) (0 : Int64) = 0) ↔ y = 0 := by
  unfold lg_cmp
  constructor
  · intro h
    refine Classical.byContradiction fun hne => ?_
    have h1 : lN y > (0 : Int64) := (lN_lt (a := 0) (by decide) hy).mpr (by omega)
    rw [if_pos h1] at h
    exact absurd h (by decide)
  · rintro rfl
    decide
theorem e_gcd (n : Nat) {u d : Nat} (hu : u < 2 ^ 31) (hd : d < 2 ^ 31) (q : Int32) : ∀ (k x y : Nat), y < k → x < 2 ^ 31 → y < 2 ^ 31 → 0 < x + y → fX5_inLeastTerms_6 n k (lN u) (lN d) q (lN x) (lN y) = some (if q = 0 then lN (u / Nat.gcd x y) else lN (d / Nat.gcd x y)) := by
  intro k
  induction k with
  | zero => intro x y h1; omega
  | succ k ih =>
    intro x y h1 hx hy h0
    rw [fX5_inLeastTerms_6]
    by_cases hz : y = 0
    · subst hz
      have hxn : ¬ lN x = 0 := fun e => by
        have := (lN_eq (a := x) (b := 0) hx (by decide)).mp e
        omega
      rw [if_pos ((e_lg hy).mpr rfl), Nat.gcd_zero_right]
      unfold nzl
      rw [if_neg hxn, if_neg hxn, pk_lDiv (by omega) (by omega) (by omega), pk_lDiv (by omega) (by omega) (by omega)]
      split <;> rfl
    · have hyn : ¬ lN y = 0 := fun e => hz ((lN_eq (a := y) (b := 0) hy (by decide)).mp e)
      rw [if_neg (fun e => hz ((e_lg hy).mp e))]
      unfold nzl
      rw [if_neg hyn, pk_lRem (by omega) (by omega) (by omega)]
      have hm : x % y < y := Nat.mod_lt _ (by omega)
      rw [ih y (x % y) (by omega) hy (by omega) (by omega), Nat.gcd_comm x y, Nat.gcd_rec y x, Nat.gcd_comm (x % y) y]
theorem gcd_odd {u m : Nat} (h : u % 2 = 1) : Nat.gcd u (2 ^ m) = 1 := by
  have h1 : Nat.Coprime u 2 := by
    show Nat.gcd u 2 = 1
    rw [Nat.gcd_comm, Nat.gcd_rec, h]
    rfl
  exact Nat.Coprime.pow_right m h1
theorem e_odds_47 (n : Nat) (wt : Nat → Int32) (a b c d e q : Int32) : ∀ (k u m i : Nat), u < 2 ^ 31 → i + m ≤ 12 → 12 < i + k → fX4_odds_47 n k wt a b c d e q (nI u) (nI (2 ^ m)) (nI i) = some (if q = 0 then lN (u / Nat.gcd u (2 ^ m)) else lN (2 ^ m / Nat.gcd u (2 ^ m))) := by
  intro k
  induction k with
  | zero => intro u m i h1 h2 h3; omega
  | succ k ih =>
    intro u m i h1 h2 h3
    have hm31 : 2 ^ m < 2 ^ 31 := Nat.pow_lt_pow_right (by decide) (by omega)
    have h79 : ∀ g, g = 1 → fX4_odds_79 n wt a b c d e q (nI u) (nI (2 ^ m)) = some (if q = 0 then lN (u / g) else lN (2 ^ m / g)) := by
      rintro g rfl
      unfold fX4_odds_79
      rw [nI_l h1, nI_l hm31, Nat.div_one, Nat.div_one]
      split <;> rfl
    rw [fX4_odds_47]
    by_cases h12 : 12 ≤ i
    · have hm0 : m = 0 := by omega
      rw [if_pos (show (12 : Int32) ≤ nI i from nI_le (a := 12) h12 (by omega))]
      exact h79 _ (by rw [hm0, Nat.pow_zero, Nat.gcd_one_right])
    · rw [if_neg (show ¬ (12 : Int32) ≤ nI i from nI_ge (b := 12) (by omega) (by decide))]
      by_cases hm0 : m = 0
      · rw [if_pos (show nI (2 ^ m) ≤ (1 : Int32) by rw [hm0]; decide)]
        exact h79 _ (by rw [hm0, Nat.pow_zero, Nat.gcd_one_right])
      · have hp : 1 < 2 ^ m := Nat.one_lt_two_pow hm0
        rw [if_neg (show ¬ nI (2 ^ m) ≤ (1 : Int32) from nI_ge (a := 1) hp hm31), show (1 : Int32) = nI 1 from rfl, i_and, Nat.and_one_is_mod]
        by_cases hev : u % 2 = 0
        · rw [if_pos (by rw [hev]; rfl), i_shr (by decide) h1, i_shr (by decide) hm31, Nat.pow_one, show nI i + nI 1 = nI (i + 1) from nI_add i 1]
          obtain ⟨j, rfl⟩ : ∃ j, m = j + 1 := ⟨m - 1, by omega⟩
          rw [show 2 ^ (j + 1) / 2 = 2 ^ j by rw [Nat.pow_succ]; omega, ih (u / 2) j (i + 1) (by omega) (by omega) (by omega)]
          have hg : Nat.gcd u (2 ^ (j + 1)) = 2 * Nat.gcd (u / 2) (2 ^ j) := by
            have h5 : u = 2 * (u / 2) := by omega
            rw [Nat.pow_succ, Nat.mul_comm (2 ^ j) 2]
            conv => lhs; rw [h5]
            exact Nat.gcd_mul_left 2 (u / 2) (2 ^ j)
          rw [hg, ← Nat.div_div_eq_div_mul, ← Nat.div_div_eq_div_mul, show 2 ^ (j + 1) / 2 = 2 ^ j by rw [Nat.pow_succ]; omega]
        · rw [if_neg (show ¬ nI (u % 2) = 0 from fun e => hev (i_inj (b := 0) (by omega) (by decide) e))]
          exact h79 _ (gcd_odd (by omega))
theorem pk_ext {M N : Nat} (hM : M < 2 ^ N) : ∀ j, pk M (N + j) = pk M N := by
  intro j
  induction j with
  | zero => rfl
  | succ j ih => rw [← Nat.add_assoc, pk, tb_lt hM (by omega), ih]; rfl
theorem e_odds_34 (n : Nat) (hn : 5000 ≤ n) {w h A : Nat} (s : Int32) (kd wt : Nat → Int32) (q : Int32) (hs : Sh w h) (hA : A < 2 ^ (w * h)) (f1 f2 : Nat → Nat) (hf1 : ∀ S, f1 S = if S &&& A = A ∧ opN w h S = true then 1 else 0) (hf2 : ∀ S, f2 S = if S &&& A = A ∧ (fun _ : Nat => true) S = true then 1 else 0) : ∀ (len k S u d : Nat), S + len = 2 ^ (w * h) → len < k → fX5_odds_34 n k s (nI w) (nI h) kd wt q (nI A) (nI u) (nI d) (nI S) = (fX5_inLeastTerms n (nI (u + sm f1 S len)).toInt64 (nI (d + sm f2 S len)).toInt64 q).bind fun q85_1 => some q85_1 := by
  have hN := (Sh_lt hs).1
  have hP : 2 ^ (w * h) ≤ 4096 := show 2 ^ (w * h) ≤ 2 ^ 12 from Nat.pow_le_pow_right (by decide) hN
  intro len
  induction len with
  | zero =>
    intro k S u d h1 h2
    obtain ⟨k, rfl⟩ : ∃ j, k = j + 1 := ⟨k - 1, by omega⟩
    rw [fX5_odds_34]
    simp only [e_cellsOf, Option.bind_some, i_bit (show w * h < 32 by omega), if_pos (nI_le (show 2 ^ (w * h) ≤ S by omega) (show S < 2 ^ 31 by omega)), sm, Nat.add_zero]
  | succ len ih =>
    intro k S u d h1 h2
    obtain ⟨k, rfl⟩ : ∃ j, k = j + 1 := ⟨k - 1, by omega⟩
    have hS : S < 2 ^ (w * h) := by omega
    have hsa : S &&& A < 2 ^ 31 := Nat.lt_of_le_of_lt Nat.and_le_left (by omega)
    rw [fX5_odds_34, sm, sm]
    simp only [e_cellsOf, Option.bind_some, i_bit (show w * h < 32 by omega), if_neg (nI_ge hS (show 2 ^ (w * h) < 2 ^ 31 by omega)), i_and, e_isOpen n hn hs hS, nI_1]
    by_cases hc : S &&& A = A
    · have g2 : f2 S = 1 := by rw [hf2]; exact if_pos ⟨hc, rfl⟩
      rw [if_pos (show nI (S &&& A) = nI A by rw [hc]), g2]
      by_cases ho : opN w h S = true
      · have g1 : f1 S = 1 := by rw [hf1]; exact if_pos ⟨hc, ho⟩
        simp only [if_pos ho, if10, g1]
        rw [ih k (S + 1) (u + 1) (d + 1) (by omega) (by omega), Nat.add_assoc, Nat.add_assoc]
      · have g1 : f1 S = 0 := by rw [hf1]; exact if_neg fun z => ho z.2
        have g0 : nI u + (0 : Int32) = nI u := by rw [show (0 : Int32) = nI 0 from rfl, nI_add]; rfl
        simp only [if_neg ho, if00, if_true, g1, g0, Nat.zero_add]
        rw [ih k (S + 1) u (d + 1) (by omega) (by omega), Nat.add_assoc]
    · have g2 : f2 S = 0 := by rw [hf2]; exact if_neg fun z => hc z.1
      have g1 : f1 S = 0 := by rw [hf1]; exact if_neg fun z => hc z.1
      rw [if_neg (show ¬ nI (S &&& A) = nI A from fun e => hc (i_inj hsa (by omega) e)), g1, g2, ih k (S + 1) u d (by omega) (by omega), Nat.zero_add, Nat.zero_add]
theorem L_odds (n : Nat) (hn : 5000 ≤ n) {kN wN : Nat → Nat} {s w h : Nat} (hS : St kN wN s w h) (p1 : Int32) : ∃ r, fX4_odds n (fI wN) (nI w) (nI (w * h)) (nI (alN w h)) (nI (fcN w h)) (nI (lcN w h)) p1 = some r ∧ fX5_odds n (nI s) (nI w) (nI h) (fI kN) (fI wN) p1 = some r := by
  obtain ⟨hk, hw, hs9, hsh⟩ := hS
  have hN := Sh0_N hsh
  unfold fX4_odds fX5_odds
  rcases within_or n (A := 0) (B := 1) (a := 0) (b := 1) rfl rfl (by decide) (by decide) p1 with ⟨h4, h5⟩ | ⟨t, -, ht, rfl, h4, h5⟩
  · simp only [h4, h5, Option.bind_some, if00]; exact ⟨_, rfl, rfl⟩
  · simp only [h4, h5, Option.bind_some, if10]
    rcases there n hsh with ⟨-, -, h1, h2⟩ | ⟨hs, h1, h2⟩
    · simp only [h1, if_pos h2, Option.bind_some, if00]; exact ⟨_, rfl, rfl⟩
    · have hP : 2 ^ (w * h) ≤ 4096 := show 2 ^ (w * h) ≤ 2 ^ 12 from Nat.pow_le_pow_right (by decide) hN
      have h0 : fX5_crackedBehind n (nI s) (nI w) (nI h) (fI kN) (fI wN) (0 : Int32) = _ := e_crackedBehind (t := 0) n hn hk hw hs9 hN (by decide)
      have hA : CR kN wN s 0 (w * h) < 2 ^ (w * h) := CR_lt kN wN s 0 (w * h)
      have hM := WS_lt wN w h
      have hMA : ∀ i, i < w * h → (WS wN w h).testBit i = !(CR kN wN s 0 (w * h)).testBit i := by
        intro i hi
        rw [WS_test hN, CR0_test, decide_eq_true hi]
        rfl
      have hpe : pk (WS wN w h) 12 = pk (WS wN w h) (w * h) := by
        have h6 := pk_ext hM (12 - w * h)
        rw [show w * h + (12 - w * h) = 12 by omega] at h6
        exact h6
      have hpl := pk_leN (WS wN w h) (w * h)
      have hp2 : 2 ^ pk (WS wN w h) (w * h) ≤ 4096 := show 2 ^ pk (WS wN w h) (w * h) ≤ 2 ^ 12 from Nat.pow_le_pow_right (by decide) (by omega)
      simp only [h1, if_neg h2, Option.bind_some, if10, h0, fX0_openWays, e_crackedSet' n hn kN s hw hN, e_wetSet n hn hw hN, e_bitCount n (Sh_pow hs hM), hpe, i_bit (show pk (WS wN w h) (w * h) < 32 by omega)]
      generalize CR kN wN s 0 (w * h) = A at hA hMA ⊢
      generalize WS wN w h = M at hM hMA hpl hp2 ⊢
      have hA0 : A / 2 ^ (w * h) = 0 := Nat.div_eq_of_lt hA
      have hsm := sm_cn (opN w h) hMA (w * h) 0 (Nat.le_refl _) (by rw [Nat.mul_zero]; intro i hi; rw [Nat.zero_testBit] at hi; cases hi)
      have hsa := sm_cn (fun _ => true) hMA (w * h) 0 (Nat.le_refl _) (by rw [Nat.mul_zero]; intro i hi; rw [Nat.zero_testBit] at hi; cases hi)
      rw [hA0, Nat.or_zero, Nat.mul_zero] at hsm hsa
      rw [cn_all] at hsa
      have how := e_ow n hn (fI wN) hs hA hM (w * h) 0 0 0 (n - 2 ^ pk M (w * h)) hN (by omega) (by rw [Nat.mul_zero]; intro i hi; rw [Nat.zero_testBit] at hi; cases hi)
      rw [Nat.mul_zero, Nat.zero_add, Nat.zero_add, Nat.mod_eq_of_lt hM, show n - 2 ^ pk M (w * h) + 2 ^ pk M (w * h) = n by omega, Nat.zero_add] at how
      have hcl := cn_le (fun y => opN w h (A ||| y)) M (w * h) 0
      generalize cnP (fun y => opN w h (A ||| y)) M (w * h) 0 = u at hsm how hcl
      have how2 : fX0_openWays_23 n n (fI wN) (nI w) (nI (w * h)) (nI (alN w h)) (nI (fcN w h)) (nI (lcN w h)) (nI A) (nI M) (0 : Int32) (nI M) (nI (2 ^ pk M (w * h))) = some (nI u) := by
        refine Eq.trans how ?_
        obtain ⟨j, hj⟩ : ∃ j, n - 2 ^ pk M (w * h) = j + 1 := ⟨n - 2 ^ pk M (w * h) - 1, by omega⟩
        rw [hj, fX0_openWays_23, if_pos (by decide)]
      have hod := e_odds_34 n hn (nI s) (fI kN) (fI wN) (nI t) hs hA _ _ (fun _ => rfl) (fun _ => rfl) (2 ^ (w * h)) n 0 0 0 (by omega) (by omega)
      rw [hsm, Nat.zero_add, Nat.zero_add, hsa] at hod
      have hod2 : fX5_odds_34 n n (nI s) (nI w) (nI h) (fI kN) (fI wN) (nI t) (nI A) (0 : Int32) (0 : Int32) (0 : Int32) = _ := hod
      rw [how2, Option.bind_some, hod2]
      have h47 : fX4_odds_47 n n (fI wN) (nI w) (nI (w * h)) (nI (alN w h)) (nI (fcN w h)) (nI (lcN w h)) (nI t) (nI u) (nI (2 ^ pk M (w * h))) (0 : Int32) = _ := e_odds_47 n (fI wN) (nI w) (nI (w * h)) (nI (alN w h)) (nI (fcN w h)) (nI (lcN w h)) (nI t) n u (pk M (w * h)) 0 (by omega) (by omega) (by omega)
      rw [h47]
      unfold fX5_inLeastTerms
      rw [nI_l (by omega), nI_l (by omega), e_gcd n (by omega) (by omega) (nI t) n u _ (by omega) (by omega) (by omega) (by have := Nat.two_pow_pos (pk M (w * h)); omega), Option.bind_some]
      exact ⟨_, rfl, rfl⟩
