/-! copy -/
theorem cp_step_f {mc : Nat → Int32} {sa sb m q : Nat} (hq : q < m) (hc : sb ≤ sa ∨ sa + m ≤ sb) : upd (va_cpy mc mc sa sb q) (sb + q) (va_cpy mc mc sa sb q (sa + q)) = va_cpy mc mc sa sb (q + 1) := by
  have hv : va_cpy mc mc sa sb q (sa + q) = mc (sa + q) := pk_cpy_out (by omega)
  rw [hv]
  funext x
  by_cases hx : x = sb + q
  · subst hx
    rw [ud_eq, pk_cpy_in (by omega) (by omega), show sa + (sb + q - sb) = sa + q by omega]
  · rw [ud_ne hx]
    by_cases h1 : sb ≤ x ∧ x < sb + q
    · rw [pk_cpy_in h1.1 h1.2, pk_cpy_in h1.1 (by omega)]
    · rw [pk_cpy_out (by omega), pk_cpy_out (by omega)]
theorem cp_step_b {mc : Nat → Int32} {sa sb m q : Nat} (hq : q < m) (hc : sa ≤ sb ∨ sb + m ≤ sa) : upd (va_cpy mc mc (sa + (m - q)) (sb + (m - q)) q) (sb + (m - 1 - q)) (va_cpy mc mc (sa + (m - q)) (sb + (m - q)) q (sa + (m - 1 - q))) = va_cpy mc mc (sa + (m - (q + 1))) (sb + (m - (q + 1))) (q + 1) := by
  have hv : va_cpy mc mc (sa + (m - q)) (sb + (m - q)) q (sa + (m - 1 - q)) = mc (sa + (m - 1 - q)) := pk_cpy_out (by omega)
  rw [hv]
  funext x
  by_cases hx : x = sb + (m - 1 - q)
  · subst hx
    rw [ud_eq, pk_cpy_in (by omega) (by omega)]
    congr 1
    omega
  · rw [ud_ne hx]
    by_cases h1 : sb + (m - q) ≤ x ∧ x < sb + (m - q) + q
    · rw [pk_cpy_in h1.1 h1.2, pk_cpy_in (by omega) (by omega)]
      congr 1
      omega
    · rw [pk_cpy_out (by omega), pk_cpy_out (by omega)]
theorem cpy0 {mc : Nat → Int32} (sa sb : Nat) : va_cpy mc mc sa sb 0 = mc := by
  funext x
  exact pk_cpy_out (by omega)
theorem e_copy_f (n : Nat) (fl : Int32) (so sl mc : Nat → Int32) {a i b j m : Nat} (ha : a < 4) (hb : b < 4) (hi : i + m ≤ 60) (hj : j + m ≤ 60) (hc : 60 * b + j ≤ 60 * a + i ∨ 60 * a + i + m ≤ 60 * b + j) : ∀ (k q : Nat), q ≤ m → m < q + k → fX5_copy_166 n k fl so sl (va_cpy mc mc (60 * a + i) (60 * b + j) q) (nI a) (nI i) (nI b) (nI j) (nI m) (0 : Int32) (nI q) = some (nI m, fl, va_cpy mc mc (60 * a + i) (60 * b + j) m) := by
  intro k
  induction k with
  | zero => intro q h1 h2; omega
  | succ k ih =>
    intro q h1 h2
    rw [fX5_copy_166]
    by_cases h : m ≤ q
    · have h3 : q = m := by omega
      rw [if_pos (nI_le h (by omega)), h3]
    · simp only [if_neg (nI_ge (show q < m by omega) (show m < 2 ^ 31 by omega)), if00, i60, nI_add, gd_in (show 60 * a + i + q < 240 by omega) (show 240 < 2 ^ 31 by decide), gd_in (show 60 * b + j + q < 240 by omega) (show 240 < 2 ^ 31 by decide), nI_clamp (show 60 * a + i + q < 2 ^ 31 by omega), nI_clamp (show 60 * b + j + q < 2 ^ 31 by omega), nI_1]
      rw [cp_step_f (show q < m by omega) hc]
      exact ih (q + 1) (by omega) (by omega)
theorem e_copy_b (n : Nat) (fl : Int32) (so sl mc : Nat → Int32) {a i b j m : Nat} (ha : a < 4) (hb : b < 4) (hi : i + m ≤ 60) (hj : j + m ≤ 60) (hc : 60 * a + i ≤ 60 * b + j ∨ 60 * b + j + m ≤ 60 * a + i) : ∀ (k q : Nat), q ≤ m → m < q + k → fX5_copy_166 n k fl so sl (va_cpy mc mc (60 * a + i + (m - q)) (60 * b + j + (m - q)) q) (nI a) (nI i) (nI b) (nI j) (nI m) (1 : Int32) (nI q) = some (nI m, fl, va_cpy mc mc (60 * a + i) (60 * b + j) m) := by
  intro k
  induction k with
  | zero => intro q h1 h2; omega
  | succ k ih =>
    intro q h1 h2
    rw [fX5_copy_166]
    by_cases h : m ≤ q
    · have h3 : q = m := by omega
      rw [if_pos (nI_le h (by omega)), h3, Nat.sub_self, Nat.add_zero, Nat.add_zero]
    · have e1 : nI m - (1 : Int32) - nI q = nI (m - 1 - q) := by rw [show (1 : Int32) = nI 1 from rfl, pk_sub (by omega), pk_sub (by omega)]
      simp only [if_neg (nI_ge (show q < m by omega) (show m < 2 ^ 31 by omega)), if10, e1, i60, nI_add, gd_in (show 60 * a + i + (m - 1 - q) < 240 by omega) (show 240 < 2 ^ 31 by decide), gd_in (show 60 * b + j + (m - 1 - q) < 240 by omega) (show 240 < 2 ^ 31 by decide), nI_clamp (show 60 * a + i + (m - 1 - q) < 2 ^ 31 by omega), nI_clamp (show 60 * b + j + (m - 1 - q) < 2 ^ 31 by omega), nI_1]
      rw [cp_step_b (show q < m by omega) hc]
      exact ih (q + 1) (by omega) (by omega)
theorem Sr_copy {row : Nat → Nat → Int32} {lane len so sl mc : Nat → Int32} (hR : Sr row lane len so sl mc) {a i b j m : Nat} (ha : a < 4) (hb : b < 4) (hi : i + m ≤ 60) (hj : j + m ≤ 60) : Sr (va_up row b (va_cpy (row a) (row b) i j m)) lane len so sl (va_cpy mc mc (60 * a + i) (60 * b + j) m) := by
  intro k hk
  refine ⟨(hR k hk).1, fun x hx => ?_⟩
  by_cases hkb : k = b
  · subst hkb
    rw [vu_eq]
    by_cases h1 : j ≤ x ∧ x < j + m
    · rw [pk_cpy_in h1.1 h1.2, pk_cpy_in (by omega) (by omega), (hR a ha).2 _ (by omega)]
      congr 1
      omega
    · rw [pk_cpy_out (by omega), pk_cpy_out (by omega)]
      exact (hR k hk).2 x hx
  · rw [vu_ne hkb, pk_cpy_out (by omega)]
    exact (hR k hk).2 x hx
theorem has_some (n : Nat) (L p q : Int32) : ∃ v, fX2_has n L p q = some v := by
  unfold fX2_has
  split
  · exact ⟨_, rfl⟩
  · split
    · exact ⟨_, rfl⟩
    · split
      · exact ⟨_, rfl⟩
      · split
        · exact ⟨_, rfl⟩
        · exact ⟨_, rfl⟩
theorem L_copy (n : Nat) (hn : 5000 ≤ n) {row : Nat → Nat → Int32} {lane len so sl mc : Nat → Int32} (hR : Sr row lane len so sl mc) (fl p1 p2 p3 p4 p5 : Int32) : ∃ r fl' row' mc', fX4_copy n fl row lane len p1 p2 p3 p4 p5 = some (r, fl', row') ∧ fX5_copy n fl so sl mc p1 p2 p3 p4 p5 = some (r, fl', mc') ∧ Sr row' lane len so sl mc' := by
  unfold fX4_copy fX5_copy
  rcases sheet_or n p1 with ⟨h4, h5⟩ | ⟨a, ha, rfl, h4, h5⟩
  · simp only [h4, h5, Option.bind_some, if00]; exact ⟨_, _, _, _, rfl, rfl, hR⟩
  · simp only [h4, h5, Option.bind_some, if10]
    rcases sheet_or n p3 with ⟨h4, h5⟩ | ⟨b, hb, rfl, h4, h5⟩
    · simp only [h4, h5, Option.bind_some, if00]; exact ⟨_, _, _, _, rfl, rfl, hR⟩
    · simp only [h4, h5, Option.bind_some, if10, gd_in ha (show 4 < 2 ^ 31 by decide), gd_in hb (show 4 < 2 ^ 31 by decide), nI_clamp (show a < 2 ^ 31 by omega), nI_clamp (show b < 2 ^ 31 by omega), fX4_faulted, fX5_fails, fX5_copy_109, fX5_copy_110]
      rcases (hR a ha).1 with ⟨e1, e2⟩ | ⟨la, L1, hla, hL1, e1, e2, e3, e4⟩
      · simp only [e1, e2, nothing_m1, Option.bind_some, if10, if_true]
        exact ⟨_, _, _, _, rfl, rfl, hR⟩
      · simp only [e1, e2, e3, e4, nothing_nI n (show la < 2 ^ 31 by omega), Option.bind_some, if00, if_neg (nI_ne_m9 (show la < 2 ^ 31 by omega))]
        rcases (hR b hb).1 with ⟨f1, f2⟩ | ⟨lb, L3, hlb, hL3, f1, f2, f3, f4⟩
        · simp only [f1, f2, nothing_m1, Option.bind_some, if10, if_true]
          exact ⟨_, _, _, _, rfl, rfl, hR⟩
        · simp only [f1, f2, f3, f4, nothing_nI n (show lb < 2 ^ 31 by omega), Option.bind_some, if00, if_neg (nI_ne_m9 (show lb < 2 ^ 31 by omega))]
          by_cases hab : nI la = nI lb
          · simp only [if_pos hab]
            by_cases a1 : p2 < 0
            · simp only [fX2_has, if_pos a1, Option.bind_some, if00]; exact ⟨_, _, _, _, rfl, rfl, hR⟩
            · by_cases a2 : p4 < 0
              · obtain ⟨v, hv⟩ := has_some n (nI L1) p2 p5
                have hz : fX2_has n (nI L3) p4 p5 = some 0 := by unfold fX2_has; rw [if_pos a2]
                simp only [hv, hz, if_neg a1, if_pos a2, Option.bind_some, if00, if_true, ite_self]
                exact ⟨_, _, _, _, rfl, rfl, hR⟩
              · by_cases a3 : p5 < 0
                · simp only [fX2_has, if_neg a1, if_neg a2, if_pos a3, Option.bind_some, if00, ite_self]
                  exact ⟨_, _, _, _, rfl, rfl, hR⟩
                · obtain ⟨i, hi, rfl⟩ := nI_of a1
                  obtain ⟨j, hj, rfl⟩ := nI_of a2
                  obtain ⟨m, hm, rfl⟩ := nI_of a3
                  by_cases a4 : L1 < i
                  · simp only [fX2_has, if_neg a1, if_neg a2, if_neg a3, if_pos (nI_lt a4 hi), Option.bind_some, if00]
                    exact ⟨_, _, _, _, rfl, rfl, hR⟩
                  · have b4 : ¬ nI L1 < nI i := nI_nlt (by omega) (by omega)
                    have c4 : nI L1 - nI i = nI (L1 - i) := pk_sub (by omega)
                    by_cases a5 : L3 < j
                    · obtain ⟨v, hv⟩ := has_some n (nI L1) (nI i) (nI m)
                      have hz : fX2_has n (nI L3) (nI j) (nI m) = some 0 := by unfold fX2_has; rw [if_neg a2, if_pos (nI_lt a5 hj)]
                      simp only [hv, hz, if_neg a1, if_neg a2, if_neg a3, if_neg b4, if_pos (nI_lt a5 hj), Option.bind_some, if00, if_true, ite_self]
                      exact ⟨_, _, _, _, rfl, rfl, hR⟩
                    · have b5 : ¬ nI L3 < nI j := nI_nlt (by omega) (by omega)
                      have c5 : nI L3 - nI j = nI (L3 - j) := pk_sub (by omega)
                      simp only [fX2_has, if_neg a1, if_neg a2, if_neg a3, if_neg b4, if_neg b5, c4, c5, if10, fX5_copy_161]
                      by_cases a6 : L1 - i < m
                      · simp only [if_pos (nI_lt a6 hm), Option.bind_some, if00]
                        exact ⟨_, _, _, _, rfl, rfl, hR⟩
                      · simp only [if_neg (nI_nlt (show m ≤ L1 - i by omega) (show L1 - i < 2 ^ 31 by omega)), Option.bind_some, if10]
                        by_cases a7 : L3 - j < m
                        · simp only [if_pos (nI_lt a7 hm), if_neg (nI_ge a7 hm), Option.bind_some, if00]
                          exact ⟨_, _, _, _, rfl, rfl, hR⟩
                        · have hcpg : cpg (nI i) (nI j) (nI m) 60 60 (some (nI m, (0 : Int32), va_up row b (va_cpy (row a) (row b) i j m))) = some (nI m, (0 : Int32), va_up row b (va_cpy (row a) (row b) i j m)) := by
                            unfold cpg
                            rw [nI_clamp hi, nI_clamp hj, nI_clamp hm, if_neg]
                            rintro (z | z | z | z | z)
                            · exact a1 z
                            · exact a2 z
                            · exact a3 z
                            · omega
                            · omega
                          simp only [if_neg (nI_nlt (show m ≤ L3 - j by omega) (show L3 - j < 2 ^ 31 by omega)), if_pos (nI_le (show m ≤ L3 - j by omega) (show L3 - j < 2 ^ 31 by omega)), Option.bind_some, if10, nI_clamp hi, nI_clamp hj, nI_clamp hm, hcpg]
                          by_cases hij : j ≤ i
                          · have e := e_copy_f n 0 so sl mc ha hb (show i + m ≤ 60 by omega) (show j + m ≤ 60 by omega) (by omega) n 0 (by omega) (by omega)
                            rw [cpy0] at e
                            have e' : fX5_copy_166 n n (0 : Int32) so sl mc (nI a) (nI i) (nI b) (nI j) (nI m) (0 : Int32) (0 : Int32) = _ := e
                            simp only [if_pos (nI_le hij hi), e']
                            exact ⟨_, _, _, _, rfl, rfl, Sr_copy hR ha hb (by omega) (by omega)⟩
                          · have e := e_copy_b n 0 so sl mc ha hb (show i + m ≤ 60 by omega) (show j + m ≤ 60 by omega) (by omega) n 0 (by omega) (by omega)
                            rw [cpy0] at e
                            have e' : fX5_copy_166 n n (0 : Int32) so sl mc (nI a) (nI i) (nI b) (nI j) (nI m) (1 : Int32) (0 : Int32) = _ := e
                            simp only [if_neg (nI_ge (show i < j by omega) hj), e']
                            exact ⟨_, _, _, _, rfl, rfl, Sr_copy hR ha hb (by omega) (by omega)⟩
          · simp only [if_neg hab]
            exact ⟨_, _, _, _, rfl, rfl, hR⟩
