/-! a bay by a text: its head, and taking it -/
theorem bz_w (n : Nat) {v A B : Int32} (h : fX4_within n v A B = some 0 ∨ fX4_within n v A B = some 1) : ((fX4_within n v A B).bind fun q => bz q (some q)) = fX4_within n v A B := by
  rcases h with h | h
  · rw [h]; rfl
  · rw [h]; rfl
section BAYB
variable {n : Nat} {row mc : Nat → Int32} {L i m b : Nat}
theorem go_0 (hL : L ≤ 60) (hm : i + m ≤ L) (hp : 0 < m) : fX4_goesOn n row (nI L) (nI i) (nI 0) = if row i = (98 : Int32) then some 1 else some 0 := by
  unfold fX4_goesOn
  simp only [go_code hL hm hp, Option.bind_some, if_pos (show nI 0 = 0 from rfl), Nat.add_zero]
theorem go_1 (hL : L ≤ 60) (hm : i + m ≤ L) (hp : 1 < m) (h : fX4_within n (row (i + 1)) 48 57 = some 0 ∨ fX4_within n (row (i + 1)) 48 57 = some 1) : fX4_goesOn n row (nI L) (nI i) (nI 1) = fX4_within n (row (i + 1)) 48 57 := by
  unfold fX4_goesOn
  simp only [go_code hL hm hp, Option.bind_some, if_neg (show ¬ nI 1 = 0 by decide), if_pos (show nI 1 = 1 from rfl)]
  exact bz_w n h
theorem go_2 (hL : L ≤ 60) (hm : i + m ≤ L) (hp : 2 < m) (h : fX4_within n (row (i + 2)) 50 52 = some 0 ∨ fX4_within n (row (i + 2)) 50 52 = some 1) : fX4_goesOn n row (nI L) (nI i) (nI 2) = fX4_within n (row (i + 2)) 50 52 := by
  unfold fX4_goesOn
  simp only [go_code hL hm hp, Option.bind_some, if_neg (show ¬ nI 2 = 0 by decide), if_neg (show ¬ nI 2 = 1 by decide), if_pos (show nI 2 = 2 from rfl)]
  exact bz_w n h
theorem go_3 (hL : L ≤ 60) (hm : i + m ≤ L) (hp : 3 < m) (h : fX4_within n (row (i + 3)) 50 51 = some 0 ∨ fX4_within n (row (i + 3)) 50 51 = some 1) : fX4_goesOn n row (nI L) (nI i) (nI 3) = fX4_within n (row (i + 3)) 50 51 := by
  unfold fX4_goesOn
  simp only [go_code hL hm hp, Option.bind_some, if_neg (show ¬ nI 3 = 0 by decide), if_neg (show ¬ nI 3 = 1 by decide), if_neg (show ¬ nI 3 = 2 by decide), if_pos (show nI 3 = 3 from rfl)]
  exact bz_w n h
theorem head_go (hn : 5000 ≤ n) (hL : L ≤ 60) (hm : i + m ≤ L) (hb : b + 60 ≤ 240) (hrow : ∀ x, x < 60 → row x = mc (b + x)) (rs rwd rdp : Int32) (rkd rwt : Nat → Int32) :
    (∃ (f : Nat) (y1 y2 y3 : Int32) (rk' rw' : Nat → Int32), fX4_firstFault_2 n n row (nI L) (nI i) (nI m) (nI 0) = some (nI f) ∧ f < 1000 ∧ fX5_readBay n mc (nI (b + i)) rs rwd rdp rkd rwt (nI (b + i + m)) = some ((0 : Int32), nI (b + i + f), y1, y2, y3, rk', rw')) ∨
    (∃ (w h sN : Nat) (rk' rw' : Nat → Int32), Sh w h ∧ sN ≤ 9 ∧ row (i + 1) = nI (48 + sN) ∧ row (i + 2) = nI (48 + w) ∧ row (i + 3) = nI (48 + h) ∧ m = 4 + 2 * (w * h) ∧ fX4_firstFault_2 n n row (nI L) (nI i) (nI m) (nI 0) = some (-9 : Int32) ∧ fX5_readBay n mc (nI (b + i)) rs rwd rdp rkd rwt (nI (b + i + m)) = some ((1 : Int32), nI (b + i + m), nI sN, nI w, nI h, rk', rw') ∧ ∀ d, d < w * h → rk' d = kbl (row (i + (4 + 2 * d))) ∧ rw' d = row (i + (5 + 2 * d)) - 48 ∧ (∃ a, a ≤ 2 ∧ rk' d = nI a) ∧ ∃ a, a ≤ 9 ∧ rw' d = nI a) := by
  have hr : ∀ p, p < m → mc (b + i + p) = row (i + p) := fun p hp => by rw [hrow _ (by omega), Nat.add_assoc]
  obtain ⟨k, hk⟩ : ∃ k, n = k + 1 + 1 + 1 + 1 + 1 := ⟨n - 5, by omega⟩
  have hfu : fX4_firstFault_2 n n row (nI L) (nI i) (nI m) (nI 0) = fX4_firstFault_2 n (k + 1 + 1 + 1 + 1 + 1) row (nI L) (nI i) (nI m) (nI 0) := by rw [← hk]
  rw [hfu]
  unfold fX5_readBay
  by_cases m0 : m = 0
  · left
    refine ⟨0, rs, rwd, rdp, rkd, rwt, by rw [m0]; exact ff_short hL (by omega) (by omega), by omega, ?_⟩
    rw [if_pos (nI_le (by omega) (by omega)), Nat.add_zero]
  · have h0 := hr 0 (by omega)
    rw [Nat.add_zero, Nat.add_zero] at h0
    rw [if_neg (nI_ge (show b + i < b + i + m by omega) (by omega)), gd_in (by omega) (by decide), nI_clamp (by omega), h0]
    have g0 := go_0 (n := n) (row := row) hL hm (by omega)
    by_cases c0 : row i = (98 : Int32)
    · rw [if_pos c0] at g0
      rw [if_pos c0, ff_step hL hm (by omega) 1 g0, if10, nI_1, e_digit n (by omega) (by omega) (by omega)]
      by_cases m1 : m = 1
      · left
        rw [if_pos (by omega), Option.bind_some, if_pos rfl]
        exact ⟨1, _, _, _, _, _, by rw [m1]; exact ff_short hL (by omega) (by omega), by omega, rfl⟩
      · rw [if_neg (by omega), hr 1 (by omega)]
        rcases dg_or n (A := 48) (B := 57) (A' := (48 : Int32) + 0) (B' := (48 : Int32) + 9) (lo := 0) (hi := 9) rfl rfl (by decide) (by decide) (by decide) (by decide) (row (i + 1)) with ⟨d4, d5⟩ | ⟨sN, -, hs9, es, d4, d5⟩
        · left
          have g1 := go_1 (n := n) hL hm (by omega) (Or.inl d4)
          rw [d4] at g1
          rw [d5, Option.bind_some, if00, Option.bind_some, if_pos rfl, Nat.zero_add, ff_step hL hm (by omega) 0 g1, if_pos rfl]
          exact ⟨1, _, _, _, _, _, rfl, by omega, rfl⟩
        · have g1 := go_1 (n := n) hL hm (by omega) (Or.inr d4)
          rw [d4] at g1
          rw [d5, Option.bind_some, if10, Option.bind_some, es, sub48, if_neg (nI_ne_m9 (by omega)), Nat.zero_add, ff_step hL hm (by omega) 1 g1, if10, e_digit n (by omega) (by omega) (by omega), show b + i + 1 + 1 = b + i + 2 by omega]
          by_cases m2 : m = 2
          · left
            rw [if_pos (by omega), Option.bind_some, if_pos rfl]
            exact ⟨2, _, _, _, _, _, by rw [m2]; exact ff_short hL (by omega) (by omega), by omega, rfl⟩
          · rw [if_neg (by omega), hr 2 (by omega)]
            rcases dg_or n (A := 50) (B := 52) (A' := (48 : Int32) + 2) (B' := (48 : Int32) + 4) (lo := 2) (hi := 4) rfl rfl (by decide) (by decide) (by decide) (by decide) (row (i + 2)) with ⟨d4, d5⟩ | ⟨w, hw1, hw2, ew, d4, d5⟩
            · left
              have g2 := go_2 (n := n) hL hm (by omega) (Or.inl d4)
              rw [d4] at g2
              rw [d5, Option.bind_some, if00, Option.bind_some, if_pos rfl, ff_step hL hm (by omega) 0 g2, if_pos rfl]
              exact ⟨2, _, _, _, _, _, rfl, by omega, rfl⟩
            · have g2 := go_2 (n := n) hL hm (by omega) (Or.inr d4)
              rw [d4] at g2
              rw [d5, Option.bind_some, if10, Option.bind_some, ew, sub48, if_neg (nI_ne_m9 (by omega)), ff_step hL hm (by omega) 1 g2, if10, e_digit n (by omega) (by omega) (by omega), show b + i + 2 + 1 = b + i + 3 by omega]
              by_cases m3 : m = 3
              · left
                rw [if_pos (by omega), Option.bind_some, if_pos rfl]
                exact ⟨3, _, _, _, _, _, by rw [m3]; exact ff_short hL (by omega) (by omega), by omega, rfl⟩
              · rw [if_neg (by omega), hr 3 (by omega)]
                rcases dg_or n (A := 50) (B := 51) (A' := (48 : Int32) + 2) (B' := (48 : Int32) + 3) (lo := 2) (hi := 3) rfl rfl (by decide) (by decide) (by decide) (by decide) (row (i + 3)) with ⟨d4, d5⟩ | ⟨h, hh1, hh2, eh, d4, d5⟩
                · left
                  have g3 := go_3 (n := n) hL hm (by omega) (Or.inl d4)
                  rw [d4] at g3
                  rw [d5, Option.bind_some, if00, Option.bind_some, if_pos rfl, ff_step hL hm (by omega) 0 g3, if_pos rfl]
                  exact ⟨3, _, _, _, _, _, rfl, by omega, rfl⟩
                · have g3 := go_3 (n := n) hL hm (by omega) (Or.inr d4)
                  rw [d4] at g3
                  have hs : Sh w h := ⟨by omega, by omega⟩
                  rw [d5, Option.bind_some, if10, Option.bind_some, eh, sub48, if_neg (nI_ne_m9 (by omega)), ff_step hL hm (by omega) 1 g3, if10]
                  have hN := (Sh_lt hs).1
                  rcases cells_go (n := n) hL hm hb hrow hs ew eh (nI sN) (w * h) 0 (k + 1) n rkd rwt (by omega) (by omega) (by omega) (by omega) (fun d hd => absurd hd (Nat.not_lt_zero d)) with ⟨f, rk', rw', z1, z2, z3⟩ | ⟨rk', rw', z1, z2, z3, z4⟩
                  · left
                    exact ⟨f, _, _, _, rk', rw', z1, z2, z3⟩
                  · right
                    exact ⟨w, h, sN, rk', rw', hs, hs9, rfl, rfl, rfl, z2, z1, z3, z4⟩
    · left
      rw [if_neg c0] at g0
      rw [if_neg c0, ff_step hL hm (by omega) 0 g0, if_pos rfl]
      exact ⟨0, _, _, _, _, _, rfl, by omega, rfl⟩
end BAYB
def mixI (g f : Nat → Int32) (i : Nat) : Nat → Int32 := fun j => if j < i then f j else g j
theorem mixI_step (g f : Nat → Int32) (i : Nat) : upd (mixI g f i) i (f i) = mixI g f (i + 1) := by
  funext j
  unfold upd mixI
  by_cases h : j = i
  · subst h; rw [if_pos rfl, if_pos (by omega)]
  · rw [if_neg h]
    by_cases h2 : j < i
    · rw [if_pos h2, if_pos (by omega)]
    · rw [if_neg h2, if_neg (by omega)]
theorem mixI_0 (g f : Nat → Int32) : mixI g f 0 = g := by funext j; exact if_neg (Nat.not_lt_zero j)
theorem mixI_congr {g f f' : Nat → Int32} {N : Nat} (h : ∀ d, d < N → f d = f' d) : mixI g f N = mixI g f' N := by
  funext j
  unfold mixI
  split
  · rename_i hj; exact h j hj
  · rfl
theorem mixI_fI {g : Nat → Nat} {f : Nat → Int32} {N B : Nat} (hB : B < 2 ^ 31) (hg : ∀ i, g i ≤ B) (h : ∀ d, d < N → ∃ a, a ≤ B ∧ f d = nI a) : ∃ g', mixI (fI g) f N = fI g' ∧ ∀ i, g' i ≤ B := by
  refine ⟨fun j => if j < N then (f j).toNatClampNeg else g j, ?_, fun j => ?_⟩
  · funext j
    unfold mixI
    show (if j < N then f j else nI (g j)) = nI (if j < N then (f j).toNatClampNeg else g j)
    by_cases hj : j < N
    · obtain ⟨a, ha, e⟩ := h j hj
      rw [if_pos hj, if_pos hj, e, nI_clamp (by omega)]
    · rw [if_neg hj, if_neg hj]
  · show (if j < N then (f j).toNatClampNeg else g j) ≤ B
    by_cases hj : j < N
    · obtain ⟨a, ha, e⟩ := h j hj
      rw [if_pos hj, e, nI_clamp (by omega)]; exact ha
    · rw [if_neg hj]; exact hg j
theorem e_setShape (n : Nat) (hn : 5000 ≤ n) {w h : Nat} (hs : Sh w h) (a b c d e f : Int32) : fX0_setShape n a b c d e f (nI w) (nI h) = some (nI w, nI h, nI (w * h), nI (alN w h), nI (fcN w h), nI (lcN w h)) := by
  obtain ⟨k, rfl⟩ : ∃ k, n = k + 1 + 1 + 1 + 1 := ⟨n - 4, by omega⟩
  exact Sh_elim (P := fun w h => fX0_setShape (k + 1 + 1 + 1 + 1) a b c d e f (nI w) (nI h) = some (nI w, nI h, nI (w * h), nI (alN w h), nI (fcN w h), nI (lcN w h))) rfl rfl rfl rfl rfl rfl hs
theorem e_becomeText_31 (n : Nat) {row kd wt : Nat → Int32} {L i w h : Nat} (hL : L ≤ 60) (hs : Sh w h) (hi : i + (4 + 2 * (w * h)) ≤ L) (su al fc lc : Int32) : ∀ (k c : Nat), c ≤ w * h → w * h < c + k → fX0_becomeText_31 n k (mixI kd (fun d => kbl (row (i + (4 + 2 * d)))) c) (mixI wt (fun d => row (i + (5 + 2 * d)) - 48) c) (nI w) (nI h) (nI (w * h)) su al fc lc row (nI L) (nI i) (nI c) = some (mixI kd (fun d => kbl (row (i + (4 + 2 * d)))) (w * h), mixI wt (fun d => row (i + (5 + 2 * d)) - 48) (w * h), nI w, nI h, nI (w * h), su, al, fc, lc) := by
  have hN := (Sh_lt hs).1
  intro k
  induction k with
  | zero => intro c h1 h2; omega
  | succ k ih =>
    intro c h1 h2
    rw [fX0_becomeText_31]
    by_cases hc : w * h ≤ c
    · have h3 : c = w * h := by omega
      rw [if_pos (nI_le hc (by omega)), h3]
    · have e1 : nI i + (4 : Int32) + (2 : Int32) * nI c = nI (i + (4 + 2 * c)) := by rw [show (4 : Int32) = nI 4 from rfl, show (2 : Int32) = nI 2 from rfl, pk_mul, nI_add, nI_add, Nat.add_assoc]
      have e2 : nI (i + (4 + 2 * c)) + (1 : Int32) = nI (i + (5 + 2 * c)) := by rw [nI_1, show i + (4 + 2 * c) + 1 = i + (5 + 2 * c) by omega]
      simp only [if_neg (nI_ge (show c < w * h by omega) (show w * h < 2 ^ 31 by omega)), e1, e2, e_codeAt n hL (show i + (4 + 2 * c) < L by omega), e_digitAt n hL (show i + (5 + 2 * c) < L by omega), Option.bind_some, e_kbl, gd_in (show c < 12 by omega) (show 12 < 2 ^ 31 by decide), nI_clamp (show c < 2 ^ 31 by omega), nI_1]
      have s1 := mixI_step kd (fun d => kbl (row (i + (4 + 2 * d)))) c
      have s2 := mixI_step wt (fun d => row (i + (5 + 2 * d)) - 48) c
      rw [s1, s2]
      exact ih (c + 1) (by omega) (by omega)
theorem e_becomeText (n : Nat) (hn : 5000 ≤ n) {row kd wt : Nat → Int32} {L i w h sN : Nat} (hL : L ≤ 60) (hs : Sh w h) (hi : i + (4 + 2 * (w * h)) ≤ L) (es : row (i + 1) = nI (48 + sN)) (ew : row (i + 2) = nI (48 + w)) (eh : row (i + 3) = nI (48 + h)) (a b c d e f g : Int32) : fX0_becomeText n kd wt a b c d e f g row (nI L) (nI i) = some (mixI kd (fun d => kbl (row (i + (4 + 2 * d)))) (w * h), mixI wt (fun d => row (i + (5 + 2 * d)) - 48) (w * h), nI w, nI h, nI (w * h), nI sN, nI (alN w h), nI (fcN w h), nI (lcN w h)) := by
  have hN := (Sh_lt hs).1
  unfold fX0_becomeText
  rw [show nI i + (1 : Int32) = nI (i + 1) from nI_1 i, show nI i + (2 : Int32) = nI (i + 2) from nI_add i 2, show nI i + (3 : Int32) = nI (i + 3) from nI_add i 3, e_digitAt n hL (by omega), e_digitAt n hL (by omega), e_digitAt n hL (by omega), Option.bind_some, Option.bind_some, Option.bind_some, es, ew, eh, sub48, sub48, sub48, e_setShape n hn hs, Option.bind_some]
  have h1 := e_becomeText_31 (row := row) (kd := kd) (wt := wt) n hL hs hi (nI sN) (nI (alN w h)) (nI (fcN w h)) (nI (lcN w h)) n 0 (Nat.zero_le _) (by omega)
  rw [mixI_0, mixI_0] at h1
  exact h1
theorem e_takeBay_31 (n : Nat) {rk rw_ kd wt : Nat → Int32} {w h : Nat} (hN : w * h ≤ 12) (su hr rs rwd rdp q : Int32) : ∀ (k c : Nat), c ≤ w * h → w * h < c + k → fX5_takeBay_31 n k su (nI w) (nI h) hr (mixI kd rk c) (mixI wt rw_ c) rs rwd rdp rk rw_ q (nI c) = some (su, nI w, nI h, hr, mixI kd rk (w * h), mixI wt rw_ (w * h), (0 : Int32)) := by
  intro k
  induction k with
  | zero => intro c h1 h2; omega
  | succ k ih =>
    intro c h1 h2
    rw [fX5_takeBay_31, e_cellsOf, Option.bind_some]
    by_cases hc : w * h ≤ c
    · have h3 : c = w * h := by omega
      rw [if_pos (nI_le hc (by omega)), h3]
    · simp only [if_neg (nI_ge (show c < w * h by omega) (show w * h < 2 ^ 31 by omega)), gd_in (show c < 12 by omega) (show 12 < 2 ^ 31 by decide), nI_clamp (show c < 2 ^ 31 by omega), mixI_step, nI_1]
      exact ih (c + 1) (by omega) (by omega)
theorem e_takeBay (n : Nat) (hn : 5000 ≤ n) {rk rw_ kd wt : Nat → Int32} {w h : Nat} (hN : w * h ≤ 12) (a b c d su q : Int32) : fX5_takeBay n a b c d kd wt su (nI w) (nI h) rk rw_ q = some (su, nI w, nI h, (0 : Int32), mixI kd rk (w * h), mixI wt rw_ (w * h), (0 : Int32)) := by
  have h1 := e_takeBay_31 (rk := rk) (rw_ := rw_) (kd := kd) (wt := wt) n hN su 0 su (nI w) (nI h) q n 0 (Nat.zero_le _) (by omega)
  rw [mixI_0, mixI_0] at h1
  exact h1
theorem L_bay (n : Nat) (hn : 5000 ≤ n) {kN wN : Nat → Nat} {s w h : Nat} (hS : St kN wN s w h) {rc rh rk : Nat → Nat} {q : Nat} (hR : Rd rc rh rk q (w * h)) {row : Nat → Nat → Int32} {lane len so sl mc : Nat → Int32} (hSr : Sr row lane len so sl mc) (hr fl at_ rs rwd rdp : Int32) (rkd rwt : Nat → Int32) (p1 p2 p3 p4 : Int32) :
    ∃ r hr' fl' kN' wN' s' w' h' q' at' rs' rwd' rdp' rkd' rwt', fX4_bay n hr fl (fI kN) (fI wN) (nI w) (nI h) (nI (w * h)) (nI s) (nI (alN w h)) (nI (fcN w h)) (nI (lcN w h)) (nI q) row lane len p1 p2 p3 p4 = some (r, hr', fl', fI kN', fI wN', nI w', nI h', nI (w' * h'), nI s', nI (alN w' h'), nI (fcN w' h'), nI (lcN w' h'), nI q') ∧
      fX5_bay n fl so sl mc (nI s) (nI w) (nI h) hr (fI kN) (fI wN) at_ rs rwd rdp rkd rwt (nI q) p1 p2 p3 p4 = some (r, fl', nI s', nI w', nI h', hr', fI kN', fI wN', at', rs', rwd', rdp', rkd', rwt', nI q') ∧ St kN' wN' s' w' h' ∧ Rd rc rh rk q' (w' * h') := by
  unfold fX4_bay fX5_bay
  rcases sheet_or n p1 with ⟨h4, h5⟩ | ⟨c, hc, rfl, h4, h5⟩
  · simp only [h4, h5, Option.bind_some, if00]; exact ⟨_, _, _, kN, wN, s, w, h, q, _, _, _, _, _, _, rfl, rfl, hS, hR⟩
  · simp only [h4, h5, Option.bind_some, if10]
    rcases lane_or n p2 with ⟨h4, h5⟩ | ⟨la, hla, rfl, h4, h5⟩
    · simp only [h4, h5, Option.bind_some, if00]; exact ⟨_, _, _, kN, wN, s, w, h, q, _, _, _, _, _, _, rfl, rfl, hS, hR⟩
    · simp only [h4, h5, Option.bind_some, if10, gd_in hc (show 4 < 2 ^ 31 by decide), nI_clamp (show c < 2 ^ 31 by omega), fX5_against, fX5_against_23]
      have bad : ∀ x : Int32, ¬ x = 0 → fX4_bay_72 n hr (0 : Int32) (fI kN) (fI wN) (nI w) (nI h) (nI (w * h)) (nI s) (nI (alN w h)) (nI (fcN w h)) (nI (lcN w h)) (nI q) row lane len c p3 p4 x = some ((-10 : Int32) - x, hr, x, fI kN, fI wN, nI w, nI h, nI (w * h), nI s, nI (alN w h), nI (fcN w h), nI (lcN w h), nI q) := fun x hx => by
        unfold fX4_bay_72
        rw [if_neg hx]; rfl
      have bad53 : ∀ x : Int32, ¬ x = 0 → fX4_bay_53 n hr (0 : Int32) (fI kN) (fI wN) (nI w) (nI h) (nI (w * h)) (nI s) (nI (alN w h)) (nI (fcN w h)) (nI (lcN w h)) (nI q) row lane len c p3 p4 x = some ((-10 : Int32) - x, hr, x, fI kN, fI wN, nI w, nI h, nI (w * h), nI s, nI (alN w h), nI (fcN w h), nI (lcN w h), nI q) := fun x hx => by
        unfold fX4_bay_53
        rw [if_neg hx]; exact bad x hx
      rcases (hSr c hc).1 with ⟨e1, e2⟩ | ⟨lb, L, hlb, hL, e1, e2, e3, e4⟩
      · simp only [e1, e2, if_true, show fX2_faultAs n (-1 : Int32) (nI la) = some 1 from rfl, Option.bind_some, if10, bad53 1 (by decide), fX5_fails]
        exact ⟨_, _, _, kN, wN, s, w, h, q, _, _, _, _, _, _, rfl, rfl, hS, hR⟩
      · simp only [e1, e2, e3, e4, faultAs_nI n (show lb < 3 by omega) hla, Option.bind_some, if_neg (nI_ne_m9 (show lb < 2 ^ 31 by omega))]
        by_cases hab : lb = la
        · subst hab
          simp only [if_true]
          by_cases a0 : 0 ≤ p4
          · simp only [if_pos a0]
            have a0' : ¬ p4 < 0 := fun z => by
              rw [Int32.lt_iff_toInt_lt] at z
              rw [Int32.le_iff_toInt_le] at a0
              omega
            have has0 : ∀ x : Int32, fX2_has n (nI L) p3 p4 = some x → x = 0 → fX4_bay_53 n hr (0 : Int32) (fI kN) (fI wN) (nI w) (nI h) (nI (w * h)) (nI s) (nI (alN w h)) (nI (fcN w h)) (nI (lcN w h)) (nI q) row lane len c p3 p4 (0 : Int32) = some ((-10 : Int32) - 3, hr, (3 : Int32), fI kN, fI wN, nI w, nI h, nI (w * h), nI s, nI (alN w h), nI (fcN w h), nI (lcN w h), nI q) := fun x hx hx0 => by
              subst hx0
              unfold fX4_bay_53
              rw [if_pos rfl, e3, hx, Option.bind_some, if00]
              exact bad 3 (by decide)
            by_cases a1 : p3 < 0
            · simp only [if_pos a1, has0 0 (by unfold fX2_has; rw [if_pos a1]) rfl, Option.bind_some, fX5_fails]
              exact ⟨_, _, _, kN, wN, s, w, h, q, _, _, _, _, _, _, rfl, rfl, hS, hR⟩
            · obtain ⟨i, hi, rfl⟩ := nI_of a1
              obtain ⟨m, hm, rfl⟩ := nI_of a0'
              by_cases a2 : L < i
              · simp only [if_neg a1, if_pos (nI_lt a2 hi), has0 0 (by unfold fX2_has; rw [if_neg a1, if_pos (nI_lt a2 hi)]) rfl, Option.bind_some, fX5_fails]
                exact ⟨_, _, _, kN, wN, s, w, h, q, _, _, _, _, _, _, rfl, rfl, hS, hR⟩
              · have b2 : ¬ nI L < nI i := nI_nlt (by omega) (by omega)
                have c2 : nI L - nI i = nI (L - i) := pk_sub (by omega)
                by_cases a3 : L - i < m
                · simp only [if_neg a1, if_neg b2, c2, if_neg (nI_ge a3 hm), has0 0 (by unfold fX2_has; rw [if_neg a1, if_neg b2, if_neg a0', c2, if_pos (nI_lt a3 hm)]) rfl, Option.bind_some, fX5_fails]
                  exact ⟨_, _, _, kN, wN, s, w, h, q, _, _, _, _, _, _, rfl, rfl, hS, hR⟩
                · have hh1 : fX2_has n (nI L) (nI i) (nI m) = some 1 := by unfold fX2_has; rw [if_neg a1, if_neg b2, if_neg a0', c2, if_neg (nI_nlt (by omega) (by omega))]
                  simp only [if_neg a1, if_neg b2, c2, if_pos (nI_le (show m ≤ L - i by omega) (show L - i < 2 ^ 31 by omega)), Option.bind_some, if_true, i60, nI_add, fX4_bay_53, fX4_bay_72, e3, hh1, if10, fX4_firstFault]
                  rcases head_go (b := 60 * c) hn hL (show i + m ≤ L by omega) (by omega) (hSr c hc).2 rs rwd rdp rkd rwt with ⟨f, y1, y2, y3, rk', rw', z1, z2, z3⟩ | ⟨w', h', sN, rk', rw', hs', hs9', es, ew, eh, hme, z1, z3, z4⟩
                  · have z1' : fX4_firstFault_2 n n (row c) (nI L) (nI i) (nI m) (0 : Int32) = some (nI f) := z1
                    have hsub : nI (60 * c + i + f) - nI (60 * c + i) = nI f := by rw [pk_sub (by omega), show 60 * c + i + f - (60 * c + i) = f by omega]
                    simp only [z1', z3, Option.bind_some, if_neg (nI_ne_m9 (show f < 2 ^ 31 by omega)), if_true, hsub]
                    exact ⟨_, _, _, kN, wN, s, w, h, q, _, _, _, _, _, _, rfl, rfl, hS, hR⟩
                  · have z1' : fX4_firstFault_2 n n (row c) (nI L) (nI i) (nI m) (0 : Int32) = some (-9 : Int32) := z1
                    have hN' := (Sh_lt hs').1
                    simp only [z1', z3, Option.bind_some, if_true, if10, e_becomeText n hn hL hs' (show i + (4 + 2 * (w' * h')) ≤ L by omega) es ew eh, e_takeBay n hn hN', e_cellsOf]
                    have k1 := mixI_congr (g := fI kN) (N := w' * h') (fun d hd => (z4 d hd).1)
                    have k2 := mixI_congr (g := fI wN) (N := w' * h') (fun d hd => (z4 d hd).2.1)
                    obtain ⟨kN', ek, hk'⟩ := mixI_fI (B := 2) (by decide) hS.1 (fun d hd => (z4 d hd).2.2.1)
                    obtain ⟨wN', ewt, hw'⟩ := mixI_fI (B := 9) (by decide) hS.2.1 (fun d hd => (z4 d hd).2.2.2)
                    rw [k1] at ek
                    rw [k2] at ewt
                    rw [k1, k2, ek, ewt]
                    exact ⟨_, _, _, kN', wN', sN, w', h', 0, _, _, _, _, _, _, rfl, rfl, ⟨hk', hw', hs9', Or.inr hs'⟩, by omega, fun k hk => absurd hk (Nat.not_lt_zero k)⟩
          · simp only [if_neg a0, bad53 4 (by decide), Option.bind_some, fX5_fails]
            exact ⟨_, _, _, kN, wN, s, w, h, q, _, _, _, _, _, _, rfl, rfl, hS, hR⟩
        · have hne : ¬ nI lb = nI la := fun e => hab (i_inj (by omega) (by omega) e)
          simp only [if_neg hab, if_neg hne, bad53 2 (by decide), Option.bind_some, fX5_fails]
          exact ⟨_, _, _, kN, wN, s, w, h, q, _, _, _, _, _, _, rfl, rfl, hS, hR⟩
