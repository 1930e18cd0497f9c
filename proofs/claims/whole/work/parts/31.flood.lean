/-! the flood: class by steps, reference by sweeps, both the least closed set -/
def sb (x y : Nat) : Prop := ∀ i, x.testBit i = true → y.testBit i = true
theorem sb_refl (x : Nat) : sb x x := fun _ h => h
theorem sb_trans {x y z : Nat} (h1 : sb x y) (h2 : sb y z) : sb x z := fun i h => h2 i (h1 i h)
theorem sb_anti {x y : Nat} (h1 : sb x y) (h2 : sb y x) : x = y := by
  apply Nat.eq_of_testBit_eq
  intro i
  cases hx : x.testBit i with
  | true => exact (h1 i hx).symm
  | false =>
    cases hy : y.testBit i with
    | true => exact absurd (h2 i hy) (by rw [hx]; decide)
    | false => rfl
theorem and_ne {a b : Nat} : a &&& b ≠ 0 ↔ ∃ i, a.testBit i = true ∧ b.testBit i = true := by
  constructor
  · intro h
    obtain ⟨i, hi⟩ := Nat.exists_testBit_of_ne_zero h
    rw [Nat.testBit_and, Bool.and_eq_true] at hi
    exact ⟨i, hi⟩
  · rintro ⟨i, h1, h2⟩ h0
    have h3 : (a &&& b).testBit i = true := by rw [Nat.testBit_and, h1, h2]; rfl
    rw [h0, Nat.zero_testBit] at h3
    cases h3
def J (w h A x : Nat) : Nat := (x ||| besN w h x) &&& A
def itJ (w h A : Nat) : Nat → Nat → Nat
  | 0, x => x
  | k + 1, x => itJ w h A k (J w h A x)
def FL (w h A s : Nat) : Nat := itJ w h A (w * h) (s &&& A)
section FLD
variable {w h A x k : Nat}
theorem J_lt (hA : A < 2 ^ k) : J w h A x < 2 ^ k := Nat.lt_of_le_of_lt Nat.and_le_right hA
theorem J_test (i : Nat) : (J w h A x).testBit i = ((x.testBit i || (besN w h x).testBit i) && A.testBit i) := by unfold J; rw [Nat.testBit_and, Nat.testBit_or]
theorem J_sup (hx : sb x A) : sb x (J w h A x) := by
  intro i hi
  rw [J_test, hi, hx i hi]; rfl
theorem J_A : sb (J w h A x) A := by
  intro i hi
  rw [J_test, Bool.and_eq_true] at hi
  exact hi.2
theorem itJ_fix (hf : J w h A x = x) : ∀ j, itJ w h A j x = x := by
  intro j
  induction j with
  | zero => rfl
  | succ j ih => rw [itJ, hf]; exact ih
theorem itJ_A : ∀ (j : Nat) {x : Nat}, sb x A → sb (itJ w h A j x) A := by
  intro j
  induction j with
  | zero => intro x hx; exact hx
  | succ j ih => intro x hx; rw [itJ]; exact ih J_A
theorem itJ_lt (hA : A < 2 ^ k) : ∀ (j : Nat) {x : Nat}, x < 2 ^ k → itJ w h A j x < 2 ^ k := by
  intro j
  induction j with
  | zero => intro x hx; exact hx
  | succ j ih => intro x hx; rw [itJ]; exact ih (J_lt hA)
theorem itJ_sup : ∀ (j : Nat) {x : Nat}, sb x A → sb x (itJ w h A j x) := by
  intro j
  induction j with
  | zero => intro x hx; exact sb_refl x
  | succ j ih => intro x hx; rw [itJ]; exact sb_trans (J_sup hx) (ih J_A)
theorem itJ_succ : ∀ (j x : Nat), itJ w h A (j + 1) x = J w h A (itJ w h A j x) := by
  intro j
  induction j with
  | zero => intro x; rfl
  | succ j ih => intro x; rw [itJ, ih]; rfl
theorem itJ_add : ∀ (b a x : Nat), itJ w h A (a + b) x = itJ w h A a (itJ w h A b x) := by
  intro b
  induction b with
  | zero => intro a x; rfl
  | succ b ih => intro a x; rw [← Nat.add_assoc, itJ, ih]; rfl
theorem chain (hx : sb x A) (hx2 : x < 2 ^ k) (hA : A < 2 ^ k) : ∀ j, (∃ i, i < j ∧ J w h A (itJ w h A i x) = itJ w h A i x) ∨ j ≤ pk (itJ w h A j x) k := by
  intro j
  induction j with
  | zero => exact Or.inr (Nat.zero_le _)
  | succ j ih =>
    rcases ih with ⟨i, hi, he⟩ | hp
    · exact Or.inl ⟨i, Nat.lt_succ_of_lt hi, he⟩
    · by_cases he : J w h A (itJ w h A j x) = itJ w h A j x
      · exact Or.inl ⟨j, Nat.lt_succ_self j, he⟩
      · right
        have h1 : sb (itJ w h A j x) (itJ w h A (j + 1) x) := by rw [itJ_succ]; exact J_sup (itJ_A j hx)
        have h2 : pk (itJ w h A j x) k < pk (itJ w h A (j + 1) x) k := by
          refine pk_strict (fun i _ => h1 i) ?_
          refine Classical.byContradiction fun hn => he ?_
          rw [← itJ_succ]
          refine (tb_ext (itJ_lt hA j hx2) (itJ_lt hA (j + 1) hx2) fun i hi => ?_).symm
          cases hq : (itJ w h A j x).testBit i with
          | true => exact (h1 i hq).symm
          | false =>
            cases hr : (itJ w h A (j + 1) x).testBit i with
            | false => rfl
            | true => exact absurd ⟨i, hi, hr, hq⟩ hn
        omega
theorem itJ_end (hx : sb x A) (hx2 : x < 2 ^ k) (hA : A < 2 ^ k) : J w h A (itJ w h A k x) = itJ w h A k x := by
  rcases chain (w := w) (h := h) hx hx2 hA (k + 1) with ⟨i, hi, he⟩ | hp
  · have h1 : itJ w h A k x = itJ w h A i x := by
      have h2 : k = (k - i) + i := by omega
      rw [h2, itJ_add, itJ_fix he]
    rw [h1, he]
  · exact absurd hp (by have := pk_leN (itJ w h A (k + 1) x) k; omega)
end FLD
theorem bes_mono {w h x y : Nat} (hs : Sh w h) (hx : x < 2 ^ (w * h)) (hy : y < 2 ^ (w * h)) (hxy : sb x y) {c : Nat} (hc : c < w * h) (hb : (besN w h x).testBit c = true) : (besN w h y).testBit c = true := by
  rw [bes_mk hs hx hc, decide_eq_true_iff] at hb
  rw [bes_mk hs hy hc, decide_eq_true_iff]
  obtain ⟨i, h1, h2⟩ := and_ne.mp hb
  exact and_ne.mpr ⟨i, h1, hxy i h2⟩
/-- closed within A -/
def cl (w h A T : Nat) : Prop := ∀ c, c < w * h → A.testBit c = true → (besN w h T).testBit c = true → T.testBit c = true
theorem J_min {w h A x T : Nat} (hs : Sh w h) (hA : A < 2 ^ (w * h)) (hx : x < 2 ^ (w * h)) (hT : T < 2 ^ (w * h)) (hc : cl w h A T) (hxT : sb x T) : sb (J w h A x) T := by
  intro i hi
  rw [J_test, Bool.and_eq_true, Bool.or_eq_true] at hi
  obtain ⟨h1, h2⟩ := hi
  rcases h1 with h1 | h1
  · exact hxT i h1
  · have hlt : i < w * h := by
      rcases Nat.lt_or_ge i (w * h) with q | q
      · exact q
      · rw [tb_lt hA q] at h2; cases h2
    exact hc i hlt h2 (bes_mono hs hx hT hxT hlt h1)
theorem itJ_min {w h A T : Nat} (hs : Sh w h) (hA : A < 2 ^ (w * h)) (hT : T < 2 ^ (w * h)) (hc : cl w h A T) : ∀ (j : Nat) {x : Nat}, x < 2 ^ (w * h) → sb x T → sb (itJ w h A j x) T := by
  intro j
  induction j with
  | zero => intro x _ hx; exact hx
  | succ j ih => intro x hx1 hx; rw [itJ]; exact ih (J_lt hA) (J_min hs hA hx1 hT hc hx)
theorem and_lt {a b k : Nat} (h : b < 2 ^ k) : a &&& b < 2 ^ k := Nat.lt_of_le_of_lt Nat.and_le_right h
theorem and_sbr (a b : Nat) : sb (a &&& b) b := by
  intro i hi
  rw [Nat.testBit_and, Bool.and_eq_true] at hi
  exact hi.2
theorem FL_lt {w h A s : Nat} (hA : A < 2 ^ (w * h)) : FL w h A s < 2 ^ (w * h) := itJ_lt hA _ (and_lt hA)
theorem FL_A {w h A s : Nat} : sb (FL w h A s) A := itJ_A _ (and_sbr s A)
theorem FL_sup {w h A s : Nat} : sb (s &&& A) (FL w h A s) := itJ_sup _ (and_sbr s A)
theorem FL_fix {w h A s : Nat} (hA : A < 2 ^ (w * h)) : J w h A (FL w h A s) = FL w h A s := itJ_end (and_sbr s A) (and_lt hA) hA
theorem FL_cl {w h A s : Nat} (hA : A < 2 ^ (w * h)) : cl w h A (FL w h A s) := by
  intro c hc h1 h2
  have h3 : (J w h A (FL w h A s)).testBit c = true := by rw [J_test, h1, h2, Bool.or_true]; rfl
  rw [FL_fix hA] at h3
  exact h3
theorem FL_min {w h A s T : Nat} (hs : Sh w h) (hA : A < 2 ^ (w * h)) (hT : T < 2 ^ (w * h)) (hc : cl w h A T) (hT2 : sb (s &&& A) T) : sb (FL w h A s) T := itJ_min hs hA hT hc _ (and_lt hA) hT2
/-! the class -/
theorem mul_pow_lt {x w : Nat} (hx : x < 4096) (hw : w ≤ 12) : x * 2 ^ w < 2 ^ 32 := Nat.lt_of_le_of_lt (Nat.mul_le_mul (Nat.le_of_lt hx) (Nat.pow_le_pow_right (by decide) hw)) (by decide : 4096 * 2 ^ 12 < 2 ^ 32)
theorem e_beside {w h x : Nat} (n : Nat) (hs : Sh w h) (hx : x < 2 ^ (w * h)) : fX0_beside n (nI w) (nI (alN w h)) (nI (fcN w h)) (nI (lcN w h)) (nI x) = some (nI (besN w h x)) := by
  have hx2 := Sh_pow hs hx
  have hw := (Sh_lt hs).2.2.2.1
  unfold fX0_beside
  rw [i_not, i_not, i_and, i_and, show (1 : Int32) = nI 1 from rfl, i_shl (by decide) (mul_pow_lt (Nat.lt_of_le_of_lt Nat.and_le_left hx2) (by decide)), i_shr (by decide) (Nat.lt_of_le_of_lt Nat.and_le_left (by omega)), i_shl (by omega) (mul_pow_lt hx2 (by omega)), i_shr (by omega) (by omega), i_or, i_or, i_or, i_and]
  rfl
theorem e_hanging_7 {w h A : Nat} (n : Nat) (hs : Sh w h) (hA : A < 2 ^ (w * h)) : ∀ (k i x : Nat), i ≤ w * h → w * h < i + k → x < 2 ^ (w * h) → fX0_hanging_7 n k (nI w) (nI (w * h)) (nI (alN w h)) (nI (fcN w h)) (nI (lcN w h)) (nI A) (nI x) (nI i) = some (nI (itJ w h A (w * h - i) x)) := by
  have hN := (Sh_lt hs).1
  intro k
  induction k with
  | zero => intro i x h1 h2; omega
  | succ k ih =>
    intro i x h1 h2 hx
    have hx2 := Sh_pow hs hx
    rw [fX0_hanging_7]
    by_cases hi : w * h ≤ i
    · rw [if_pos (nI_le hi (by omega)), show w * h - i = 0 by omega]; rfl
    · rw [if_neg (nI_ge (by omega) (by omega)), e_beside n hs hx, Option.bind_some, i_or, i_and, nI_1]
      have hJ : J w h A x < 2 ^ (w * h) := J_lt hA
      have hJ2 := Sh_pow hs hJ
      show (if nI (J w h A x) = nI x then some (nI x) else fX0_hanging_7 n k (nI w) (nI (w * h)) (nI (alN w h)) (nI (fcN w h)) (nI (lcN w h)) (nI A) (nI (J w h A x)) (nI (i + 1))) = _
      by_cases he : J w h A x = x
      · rw [if_pos (show nI (J w h A x) = nI x by rw [he]), itJ_fix he]
      · rw [if_neg (fun q => he (i_inj (by omega) (by omega) (show nI (J w h A x) = nI x from q)))]
        have h3 := ih (i + 1) (J w h A x) (by omega) (by omega) hJ
        rw [show w * h - i = (w * h - (i + 1)) + 1 by omega]
        exact h3
theorem e_hanging {w h A s : Nat} (n : Nat) (hn : 5000 ≤ n) (hs : Sh w h) (hA : A < 2 ^ (w * h)) : fX0_hanging n (nI w) (nI (w * h)) (nI (alN w h)) (nI (fcN w h)) (nI (lcN w h)) (nI s) (nI A) = some (nI (FL w h A s)) := by
  have hN := (Sh_lt hs).1
  unfold fX0_hanging
  rw [i_and, show (0 : Int32) = nI 0 from rfl, e_hanging_7 n hs hA n 0 _ (Nat.zero_le _) (by omega) (and_lt hA)]
  rfl
/-! the reference -/
def sw (w h A c x : Nat) : Nat := if A.testBit c = true ∧ mkN w h c &&& x ≠ 0 then x ||| 2 ^ c else x
def swp (w h A : Nat) : Nat → Nat → Nat → Nat
  | 0, _, x => x
  | j + 1, c, x => swp w h A j (c + 1) (sw w h A c x)
theorem bit_sb {x c i : Nat} : (x ||| 2 ^ c).testBit i = (x.testBit i || decide (c = i)) := by rw [Nat.testBit_or, Nat.testBit_two_pow]
theorem sw_sup {w h A c x : Nat} : sb x (sw w h A c x) := by
  intro i hi
  unfold sw
  split
  · rw [bit_sb, hi]; rfl
  · exact hi
theorem sw_lt {w h A c x : Nat} (hx : x < 2 ^ (w * h)) (hc : c < w * h) : sw w h A c x < 2 ^ (w * h) := by
  unfold sw
  split
  · exact Nat.or_lt_two_pow hx (Nat.pow_lt_pow_right (by decide) hc)
  · exact hx
theorem sw_A {w h A c x : Nat} (hx : sb x A) : sb (sw w h A c x) A := by
  intro i hi
  unfold sw at hi
  split at hi
  · rename_i hq
    rw [bit_sb, Bool.or_eq_true, decide_eq_true_iff] at hi
    rcases hi with hi | rfl
    · exact hx i hi
    · exact hq.1
  · exact hx i hi
theorem sw_min {w h A c x T : Nat} (hs : Sh w h) (hc : c < w * h) (hx : x < 2 ^ (w * h)) (hT : T < 2 ^ (w * h)) (hcl : cl w h A T) (hxT : sb x T) : sb (sw w h A c x) T := by
  intro i hi
  unfold sw at hi
  split at hi
  · rename_i hq
    rw [bit_sb, Bool.or_eq_true, decide_eq_true_iff] at hi
    rcases hi with hi | rfl
    · exact hxT i hi
    · refine hcl c hc hq.1 (bes_mono hs hx hT hxT hc ?_)
      rw [bes_mk hs hx hc, decide_eq_true_iff]
      exact hq.2
  · exact hxT i hi
theorem swp_sup {w h A : Nat} : ∀ (j : Nat) {c x : Nat}, sb x (swp w h A j c x) := by
  intro j
  induction j with
  | zero => intro c x; exact sb_refl x
  | succ j ih => intro c x; rw [swp]; exact sb_trans sw_sup ih
theorem swp_lt {w h A : Nat} : ∀ (j : Nat) {c x : Nat}, c + j ≤ w * h → x < 2 ^ (w * h) → swp w h A j c x < 2 ^ (w * h) := by
  intro j
  induction j with
  | zero => intro c x _ hx; exact hx
  | succ j ih => intro c x hc hx; rw [swp]; exact ih (by omega) (sw_lt hx (by omega))
theorem swp_A {w h A : Nat} : ∀ (j : Nat) {c x : Nat}, sb x A → sb (swp w h A j c x) A := by
  intro j
  induction j with
  | zero => intro c x hx; exact hx
  | succ j ih => intro c x hx; rw [swp]; exact ih (sw_A hx)
theorem swp_min {w h A T : Nat} (hs : Sh w h) (hT : T < 2 ^ (w * h)) (hcl : cl w h A T) : ∀ (j : Nat) {c x : Nat}, c + j ≤ w * h → x < 2 ^ (w * h) → sb x T → sb (swp w h A j c x) T := by
  intro j
  induction j with
  | zero => intro c x _ _ hx; exact hx
  | succ j ih => intro c x hc hx1 hx; rw [swp]; exact ih (by omega) (sw_lt hx1 (by omega)) (sw_min hs (by omega) hx1 hT hcl hx)
theorem swp_fix {w h A : Nat} : ∀ (j : Nat) {c x : Nat}, swp w h A j c x = x → ∀ d, c ≤ d → d < c + j → A.testBit d = true → mkN w h d &&& x ≠ 0 → x.testBit d = true := by
  intro j
  induction j with
  | zero => intro c x _ d h1 h2; omega
  | succ j ih =>
    intro c x he d h1 h2 h3 h4
    rw [swp] at he
    have h5 : sw w h A c x = x := by
      refine sb_anti ?_ sw_sup
      have h6 := swp_sup (w := w) (h := h) (A := A) j (c := c + 1) (x := sw w h A c x)
      rw [he] at h6
      exact h6
    by_cases hd : d = c
    · subst hd
      unfold sw at h5
      rw [if_pos ⟨h3, h4⟩] at h5
      rw [← h5, bit_sb]
      simp
    · rw [h5] at he
      exact ih he d (by omega) (by omega) h3 h4
theorem ck_bes {w h : Nat} (hs : Sh w h) : ((List.range (w * h)).all fun c => decide (fX5_besides 0 (nI w) (nI h) (nI c) = some (nI (mkN w h c)))) = true :=
  Sh_elim (P := fun w h => ((List.range (w * h)).all fun c => decide (fX5_besides 0 (nI w) (nI h) (nI c) = some (nI (mkN w h c)))) = true) (by decide +kernel) (by decide +kernel) (by decide +kernel) (by decide +kernel) (by decide +kernel) (by decide +kernel) hs
theorem e_besides {w h c : Nat} (n : Nat) (hs : Sh w h) (hc : c < w * h) : fX5_besides n (nI w) (nI h) (nI c) = some (nI (mkN w h c)) := by
  have h1 := List.all_eq_true.mp (ck_bes hs) c (List.mem_range.mpr hc)
  exact decide_eq_true_iff.mp h1
theorem e_isOf (n : Nat) {x c : Nat} (hx : x < 2 ^ 31) (hc : c < 32) : fX5_isOf n (nI x) (nI c) = some (if x.testBit c then (1 : Int32) else 0) := by
  unfold fX5_isOf
  rw [i_shr hc hx, show (1 : Int32) = nI 1 from rfl, i_and, Nat.and_one_is_mod]
  rw [Nat.testBit_eq_decide_div_mod_eq]
  have h2 : x / 2 ^ c % 2 < 2 := Nat.mod_lt _ (by decide)
  by_cases h3 : x / 2 ^ c % 2 = 1
  · rw [if_pos (by rw [h3]), if_pos (by rw [h3]; rfl)]
  · rw [if_neg (fun q => h3 (i_inj (by omega) (by decide) q)), if_neg (by simpa using h3)]
theorem i_or0 (a : Nat) : nI a ||| (0 : Int32) = nI a := by rw [show (0 : Int32) = nI 0 from rfl, i_or, Nat.or_zero]
theorem e_spread_19 {w h A : Nat} (n : Nat) (K : Int32 → Int32 → Int32 → Int32 → Int32 → Option Int32) (was : Int32) (hs : Sh w h) (hA : A < 2 ^ (w * h)) : ∀ (k c x : Nat), c ≤ w * h → w * h < c + k → x < 2 ^ (w * h) → fX5_spreadIn_19 n K k (nI w) (nI h) (nI A) (nI x) was (nI c) = K (nI w) (nI h) (nI A) (nI (swp w h A (w * h - c) c x)) was := by
  have hN := (Sh_lt hs).1
  have hA2 := Sh_pow hs hA
  intro k
  induction k with
  | zero => intro c x h1 h2; omega
  | succ k ih =>
    intro c x h1 h2 hx
    have hx2 := Sh_pow hs hx
    rw [fX5_spreadIn_19]
    rw [show fX5_cellsOf n (nI w) (nI h) = some (nI (w * h)) by unfold fX5_cellsOf; rw [pk_mul], Option.bind_some]
    by_cases hi : w * h ≤ c
    · rw [if_pos (nI_le hi (by omega)), show w * h - c = 0 by omega]; rfl
    · rw [if_neg (nI_ge (by omega) (by omega)), e_isOf n (by omega) (by omega), Option.bind_some, nI_1]
      rw [show w * h - c = (w * h - (c + 1)) + 1 by omega, swp]
      by_cases hb : A.testBit c = true
      · rw [if_pos hb, if_neg (by decide), e_besides n hs (by omega), Option.bind_some, i_and]
        by_cases hm : mkN w h c &&& x = 0
        · rw [if_pos (by rw [hm]; rfl), i_or0, show sw w h A c x = x by unfold sw; rw [if_neg (fun q => q.2 hm)]]
          exact ih (c + 1) x (by omega) (by omega) hx
        · have hm2 : mkN w h c &&& x < 2 ^ 31 := Nat.lt_of_le_of_lt Nat.and_le_right (by omega)
          rw [if_neg (show ¬ nI (mkN w h c &&& x) = 0 from fun q => hm (i_inj hm2 (by decide) q)), i_bit (by omega), i_or]
          have h3 : sw w h A c x = x ||| 2 ^ c := by unfold sw; rw [if_pos ⟨hb, hm⟩]
          rw [← h3]
          exact ih (c + 1) _ (by omega) (by omega) (sw_lt hx (by omega))
      · rw [if_neg hb, if_pos rfl, i_or0, show sw w h A c x = x by unfold sw; rw [if_neg (fun q => hb q.1)]]
        exact ih (c + 1) x (by omega) (by omega) hx
theorem sb_le {x y : Nat} (h : sb x y) : x ≤ y := by
  have h1 : x = x &&& y := by
    apply Nat.eq_of_testBit_eq
    intro i
    rw [Nat.testBit_and]
    cases hx : x.testBit i with
    | true => rw [h i hx]; rfl
    | false => rfl
  rw [h1]
  exact Nat.and_le_right
theorem e_spread_7 {w h A s0 : Nat} (n : Nat) (hn : 5000 ≤ n) (hs : Sh w h) (hA : A < 2 ^ (w * h)) : ∀ (k x was : Nat), x < 2 ^ (w * h) → was < 2 ^ (w * h) → (x = was → cl w h A x) → sb s0 x → sb x A → (∀ T, T < 2 ^ (w * h) → cl w h A T → sb s0 T → sb x T) → ((x = was ∧ 1 ≤ k) ∨ 2 ^ (w * h) + 2 ≤ x + k) → ∃ X, fX5_spreadIn_7 n k (nI w) (nI h) (nI A) (nI x) (nI was) = some (nI X) ∧ X < 2 ^ (w * h) ∧ sb s0 X ∧ cl w h A X ∧ ∀ T, T < 2 ^ (w * h) → cl w h A T → sb s0 T → sb X T := by
  have hN := (Sh_lt hs).1
  intro k
  induction k with
  | zero =>
    intro x was hx _ _ _ _ _ hk
    rcases hk with hk | hk
    · omega
    · omega
  | succ k ih =>
    intro x was hx hwas hcl h0 hxA hmin hk
    have hx2 := Sh_pow hs hx
    have hw2 := Sh_pow hs hwas
    rw [fX5_spreadIn_7]
    by_cases he : x = was
    · rw [if_pos (by rw [he])]
      exact ⟨x, rfl, hx, h0, hcl he, hmin⟩
    · rw [if_neg (fun q => he (i_inj (by omega) (by omega) q)), show (0 : Int32) = nI 0 from rfl]
      rw [e_spread_19 n _ _ hs hA n 0 x (Nat.zero_le _) (by omega) hx, Nat.sub_zero]
      have hy := swp_lt (w := w) (h := h) (A := A) (w * h) (c := 0) (x := x) (by omega) hx
      have hsup : sb x (swp w h A (w * h) 0 x) := swp_sup _
      have hle := sb_le hsup
      refine ih _ x hy hx (fun q => ?_) (sb_trans h0 hsup) (swp_A _ hxA) (fun T h1 h2 h3 => swp_min hs h1 h2 _ (by omega) hx (hmin T h1 h2 h3)) ?_
      · intro c hc h1 h2
        rw [q] at h2 ⊢
        refine swp_fix _ q c (Nat.zero_le _) (by omega) h1 ?_
        rw [bes_mk hs hx hc, decide_eq_true_iff] at h2
        exact h2
      · by_cases hq : swp w h A (w * h) 0 x = x
        · left
          refine ⟨hq, ?_⟩
          rcases hk with hk | hk
          · exact absurd hk.1 he
          · omega
        · right
          rcases hk with hk | hk
          · exact absurd hk.1 he
          · omega
theorem e_spread {w h A s : Nat} (n : Nat) (hn : 5000 ≤ n) (hs : Sh w h) (hA : A < 2 ^ (w * h)) : fX5_spreadIn n (nI w) (nI h) (nI A) (nI s) = some (nI (FL w h A s)) := by
  have hN := (Sh_lt hs).1
  have hP : 2 ^ (w * h) ≤ 4096 := show 2 ^ (w * h) ≤ 2 ^ 12 from Nat.pow_le_pow_right (by decide) hN
  unfold fX5_spreadIn
  rw [i_and, Nat.and_comm A s, show (0 : Int32) = nI 0 from rfl]
  obtain ⟨X, h1, h2, h3, h4, h5⟩ := e_spread_7 (s0 := s &&& A) n hn hs hA n (s &&& A) 0 (and_lt hA) (Nat.two_pow_pos _) (fun q c hc _ hb => by
    rw [q, bes_mk hs (Nat.two_pow_pos _) hc, Nat.and_zero] at hb
    simp at hb) (sb_refl _) (and_sbr s A) (fun T _ _ h => h) (Or.inr (by omega))
  rw [h1, sb_anti (h5 _ (FL_lt hA) (FL_cl hA) FL_sup) (FL_min hs hA h2 h4 h3)]
