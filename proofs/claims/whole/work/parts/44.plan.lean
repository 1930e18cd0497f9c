/-! plans -/
def Ag (N : Nat) (f g : Nat → Nat) : Prop := ∀ i, i < N → f i = g i
theorem CR_ag {gk kN gw wN : Nat → Nat} {s t N : Nat} (hk : Ag N gk kN) (hw : Ag N gw wN) : CR gk gw s t N = CR kN wN s t N := bs_congr (fun i hi => by rw [hk i hi, hw i hi])
theorem dy_ag {gk kN gw wN : Nat → Nat} {s t N : Nat} (hk : Ag N gk kN) (hw : Ag N gw wN) : Ag N (dyN gk gw s t N) (dyN kN wN s t N) := fun i hi => by
  unfold dyN
  rw [if_pos hi, if_pos hi, hk i hi, hw i hi]
theorem dy_out {kN wN : Nat → Nat} {s t N i : Nat} (hi : N ≤ i) : dyN kN wN s t N i = wN i := if_neg (by omega)
theorem po_ag {gw wN : Nat → Nat} {c v N : Nat} (hc : c < N) (hw : Ag N gw wN) : Ag N (poN gw c v) (poN wN c v) := fun i hi => by
  unfold poN upN
  by_cases h : i = c
  · rw [if_pos h, if_pos h, hw c hc]
  · rw [if_neg h, if_neg h, hw i hi]
theorem po_out {wN : Nat → Nat} {c v N i : Nat} (hc : c < N) (hi : N ≤ i) : poN wN c v i = wN i := if_neg (by omega)
section PLAN
variable {n w h : Nat} {kN gk : Nat → Nat}
theorem hours_go (hn : 5000 ≤ n) (hs : Sh w h) (hk : ∀ i, kN i ≤ 2) (hgk : ∀ i, gk i ≤ 2) (hkk : Ag (w * h) gk kN) {s v : Nat} (hs9 : s ≤ 9) (hv : v ≤ 9) : ∀ (k1 k2 j : Nat) (gw wN : Nat → Nat) (hh op : Int32), j ≤ v → v < j + k1 → v < j + k2 → (∀ i, gw i ≤ 9) → (∀ i, wN i ≤ 9) → Ag (w * h) gw wN →
    ∃ hh' op' gw' wN', fX3_goHours_2 n k1 hh op (fI gk) (fI gw) (nI w) (nI (w * h)) (nI s) (nI (alN w h)) (nI (fcN w h)) (nI (lcN w h)) (nI v) (nI j) = some (hh', op', fI gw') ∧ fX5_does_35 n k2 (nI s) (nI w) (nI h) (fI kN) (fI wN) op hh (0 : Int32) (nI v) (nI j) = some ((1 : Int32), nI s, fI wN', op', hh') ∧ (∀ i, gw' i ≤ 9) ∧ (∀ i, wN' i ≤ 9) ∧ Ag (w * h) gw' wN' ∧ ∀ i, w * h ≤ i → wN' i = wN i := by
  have hN := (Sh_lt hs).1
  intro k1
  induction k1 with
  | zero => intro k2 j gw wN hh op h1 h2; omega
  | succ k1 ih =>
    intro k2 j gw wN hh op h1 h2 h3 hg hw hag
    obtain ⟨k2, rfl⟩ : ∃ k, k2 = k + 1 := ⟨k2 - 1, by omega⟩
    rw [fX3_goHours_2, fX5_does_35]
    by_cases hj : v ≤ j
    · simp only [if_pos (nI_le hj (show j < 2 ^ 31 by omega))]
      exact ⟨_, _, gw, wN, rfl, rfl, hg, hw, hag, fun _ _ => rfl⟩
    · have e1 : fX0_passHours n (fI gk) (fI gw) (nI (w * h)) (nI s) (1 : Int32) = _ := e_passHours (t := 1) n hn hgk hg hs9 hN (by decide)
      have e2 : fX5_dryBy n (nI s) (nI w) (nI h) (fI kN) (fI wN) (1 : Int32) = _ := e_dryBy (t := 1) n hn hk hw hs9 hN (by decide)
      have hag' := dy_ag (s := s) (t := 1) hkk hag
      have e3 : fX5_crackedBehind n (nI s) (nI w) (nI h) (fI kN) (fI (dyN kN wN s 1 (w * h))) (0 : Int32) = _ := e_crackedBehind (t := 0) n hn hk (dyN_le hw) hs9 hN (by decide)
      have e4 : CR gk (dyN gk gw s 1 (w * h)) s 0 (w * h) = CR kN (dyN kN wN s 1 (w * h)) s 0 (w * h) := CR_ag hkk hag'
      have hnx : ∀ op2 : Int32, ∃ hh' op' gw' wN', _ := fun op2 => ih k2 (j + 1) (dyN gk gw s 1 (w * h)) (dyN kN wN s 1 (w * h)) (hh + 1) op2 (by omega) (by omega) (by omega) (dyN_le hg) (dyN_le hw) hag'
      have fin : ∀ op2 : Int32, ∃ hh' op' gw' wN', fX3_goHours_2 n k1 (hh + 1) op2 (fI gk) (fI (dyN gk gw s 1 (w * h))) (nI w) (nI (w * h)) (nI s) (nI (alN w h)) (nI (fcN w h)) (nI (lcN w h)) (nI v) (nI (j + 1)) = some (hh', op', fI gw') ∧ fX5_does_35 n k2 (nI s) (nI w) (nI h) (fI kN) (fI (dyN kN wN s 1 (w * h))) op2 (hh + 1) (0 : Int32) (nI v) (nI (j + 1)) = some ((1 : Int32), nI s, fI wN', op', hh') ∧ (∀ i, gw' i ≤ 9) ∧ (∀ i, wN' i ≤ 9) ∧ Ag (w * h) gw' wN' ∧ ∀ i, w * h ≤ i → wN' i = wN i := fun op2 => by
        obtain ⟨a1, a2, a3, a4, b1, b2, b3, b4, b5, b6⟩ := hnx op2
        exact ⟨a1, a2, a3, a4, b1, b2, b3, b4, b5, fun i hi => by rw [b6 i hi, dy_out hi]⟩
      simp only [if_neg (nI_ge (show j < v by omega) (show v < 2 ^ 31 by omega)), e1, e2, Option.bind_some, if_true, fX5_noteOpen, e3, e_crackedSet' n hn gk s (dyN_le hg) hN, e4, e_isOpenBy n hn hs (CR_lt kN (dyN kN wN s 1 (w * h)) s 0 (w * h)), e_isOpen n hn hs (CR_lt kN (dyN kN wN s 1 (w * h)) s 0 (w * h)), nI_1]
      by_cases ho : op = (-9 : Int32)
      · simp only [if_pos ho]
        by_cases hz : opN w h (CR kN (dyN kN wN s 1 (w * h)) s 0 (w * h)) = true
        · simp only [if_pos hz, if10, Option.bind_some]
          exact fin _
        · simp only [if_neg hz, if00, Option.bind_some]
          exact fin _
      · simp only [if_neg ho, Option.bind_some]
        exact fin _
/-- a pair that is as told -/
def Vp (N : Nat) (a v : Int32) : Prop := (a = 0 ∧ ∃ x, x ≤ 9 ∧ v = nI x) ∨ (a = 1 ∧ ∃ c, c < N ∧ v = nI c) ∨ (a = 2 ∧ ∃ x, x ≤ 9 ∧ v = nI x)
theorem pair_go (hn : 5000 ≤ n) (hs : Sh w h) (hk : ∀ i, kN i ≤ 2) (hgk : ∀ i, gk i ≤ 2) (hkk : Ag (w * h) gk kN) {s : Nat} (hs9 : s ≤ 9) {gw wN : Nat → Nat} (hg : ∀ i, gw i ≤ 9) (hw : ∀ i, wN i ≤ 9) (hag : Ag (w * h) gw wN) (hh op : Int32) {a v : Int32} (hV : Vp (w * h) a v) :
    ∃ r hh' op' gw' wN' s', (r = 0 ∨ r = 1) ∧ fX3_canDo n hh op (fI gk) (fI gw) (nI w) (nI (w * h)) (nI s) (nI (alN w h)) (nI (fcN w h)) (nI (lcN w h)) a v = some (r, hh', op', fI gw', nI s') ∧ fX5_does n (nI s) (nI w) (nI h) (fI kN) (fI wN) op hh a v = some (r, nI s', fI wN', op', hh') ∧ s' ≤ 9 ∧ (∀ i, gw' i ≤ 9) ∧ (∀ i, wN' i ≤ 9) ∧ Ag (w * h) gw' wN' ∧ ∀ i, w * h ≤ i → wN' i = wN i := by
  have hN := (Sh_lt hs).1
  unfold fX3_canDo fX5_does fX5_does_23 fX5_does_33
  rcases hV with ⟨rfl, x, hx, rfl⟩ | ⟨rfl, c, hc, rfl⟩ | ⟨rfl, x, hx, rfl⟩
  · obtain ⟨hh', op', gw', wN', e1, e2, e3⟩ := hours_go hn hs hk hgk hkk hs9 hx n n 0 gw wN hh op (by omega) (by omega) (by omega) hg hw hag
    have e1' : fX3_goHours n hh op (fI gk) (fI gw) (nI w) (nI (w * h)) (nI s) (nI (alN w h)) (nI (fcN w h)) (nI (lcN w h)) (nI x) = some (hh', op', fI gw') := e1
    have e2' : fX5_does_35 n n (nI s) (nI w) (nI h) (fI kN) (fI wN) op hh (0 : Int32) (nI x) (0 : Int32) = some ((1 : Int32), nI s, fI wN', op', hh') := e2
    simp only [if_neg (show ¬ (0 : Int32) = 1 by decide), if_neg (show ¬ (0 : Int32) = 2 by decide), e1', e2', Option.bind_some]
    exact ⟨_, _, _, gw', wN', s, Or.inr rfl, rfl, rfl, hs9, e3⟩
  · have e1 : fX0_pourOn n (fI gw) (nI (w * h)) (nI c) (3 : Int32) = _ := e_pourOn (v := 3) n hg hN hc (by decide)
    have e2 : fX5_pouredOn n (fI wN) (nI c) (3 : Int32) = _ := e_pouredOn (v := 3) n hw (by omega) (by decide)
    have hwc := hw c
    obtain ⟨k, hk2⟩ : ∃ k, n = k + 1 := ⟨n - 1, by omega⟩
    have e3 : ∀ (su o h2 v2 : Int32) (wt : Nat → Int32), fX5_does_35 n n su (nI w) (nI h) (fI kN) wt o h2 (1 : Int32) v2 (0 : Int32) = some ((1 : Int32), su, wt, o, h2) := by
      intro su o h2 v2 wt
      have hfu : fX5_does_35 n n su (nI w) (nI h) (fI kN) wt o h2 (1 : Int32) v2 (0 : Int32) = fX5_does_35 n (k + 1) su (nI w) (nI h) (fI kN) wt o h2 (1 : Int32) v2 (0 : Int32) := by rw [← hk2]
      rw [hfu, fX5_does_35, if10]
      split <;> rfl
    simp only [if_true, if_neg (show ¬ (1 : Int32) = 2 by decide), e1, e2, gd_in (show c < 12 by omega) (show 12 < 2 ^ 31 by decide), nI_clamp (show c < 2 ^ 31 by omega), Option.bind_some, e3]
    by_cases hz : wN c = 0
    · have hz1 : gw c = 0 := by rw [hag c hc]; exact hz
      have hz2 : nI (wN c) = 0 := by rw [hz]; rfl
      simp only [if_pos hz1, if_pos hz2, Option.bind_some, bz0]
      exact ⟨_, _, _, gw, wN, s, Or.inl rfl, rfl, rfl, hs9, hg, hw, hag, fun _ _ => rfl⟩
    · have hz1 : ¬ gw c = 0 := by rw [hag c hc]; exact hz
      have hz2 : ¬ nI (wN c) = 0 := fun z => hz (i_inj (b := 0) (by omega) (by decide) z)
      simp only [if_neg hz1, if_neg hz2, Option.bind_some, bz1]
      exact ⟨_, _, _, _, _, s, Or.inr rfl, rfl, rfl, hs9, poN_le hg, poN_le hw, po_ag hc hag, fun i hi => po_out hc hi⟩
  · obtain ⟨k, hk2⟩ : ∃ k, n = k + 1 := ⟨n - 1, by omega⟩
    have e3 : ∀ (su o h2 v2 : Int32) (wt : Nat → Int32), fX5_does_35 n n su (nI w) (nI h) (fI kN) wt o h2 (2 : Int32) v2 (0 : Int32) = some ((1 : Int32), su, wt, o, h2) := by
      intro su o h2 v2 wt
      have hfu : fX5_does_35 n n su (nI w) (nI h) (fI kN) wt o h2 (2 : Int32) v2 (0 : Int32) = fX5_does_35 n (k + 1) su (nI w) (nI h) (fI kN) wt o h2 (2 : Int32) v2 (0 : Int32) := by rw [← hk2]
      rw [hfu, fX5_does_35, if_neg (show ¬ (2 : Int32) = 0 by decide)]
      split <;> rfl
    simp only [if_neg (show ¬ (2 : Int32) = 1 by decide), if_true, e3]
    exact ⟨_, _, _, gw, wN, x, Or.inr rfl, rfl, rfl, hx, hg, hw, hag, fun _ _ => rfl⟩
theorem follow_go (hn : 5000 ≤ n) (hs : Sh w h) (hk : ∀ i, kN i ≤ 2) (hgk : ∀ i, gk i ≤ 2) (hkk : Ag (w * h) gk kN) {row mc : Nat → Int32} {L i m b : Nat} (hL : L ≤ 60) (hm : i + 2 * m ≤ L) (hb : b + 60 ≤ 240) (hrow : ∀ x, x < 60 → row x = mc (b + x)) (hV : ∀ p, p < m → Vp (w * h) (row (i + 2 * p)) (row (i + 2 * p + 1))) (fk fw : Nat → Int32) (f1 f2 f3 f4 f5 f6 f7 : Int32) : ∀ (k1 k2 p : Nat) (s : Nat) (gw wN : Nat → Nat) (hh op : Int32), p ≤ m → m < p + k1 → m < p + k2 → s ≤ 9 → (∀ i, gw i ≤ 9) → (∀ i, wN i ≤ 9) → Ag (w * h) gw wN →
    ∃ wr hh' op' gw' wN' s', fX3_follow_49 n k1 hh op (-9 : Int32) (fI gk) (fI gw) (nI w) (nI h) (nI (w * h)) (nI s) (nI (alN w h)) (nI (fcN w h)) (nI (lcN w h)) fk fw f1 f2 f3 f4 f5 f6 f7 row (nI L) (nI i) (nI m) (nI p) = some (hh', op', wr, fI gk, fI gw', nI w, nI h, nI (w * h), nI s', nI (alN w h), nI (fcN w h), nI (lcN w h)) ∧ fX5_goPlan_17 n k2 mc (nI s) (nI w) (nI h) (fI kN) (fI wN) op hh (nI (b + i)) (nI m) (nI p) = some (wr, nI s', fI wN', op', hh') ∧ s' ≤ 9 ∧ (∀ i, gw' i ≤ 9) ∧ (∀ i, wN' i ≤ 9) ∧ Ag (w * h) gw' wN' ∧ ∀ i, w * h ≤ i → wN' i = wN i := by
  have hN := (Sh_lt hs).1
  intro k1
  induction k1 with
  | zero => intro k2 p s gw wN hh op h1 h2; omega
  | succ k1 ih =>
    intro k2 p s gw wN hh op h1 h2 h3 hs9 hg hw hag
    obtain ⟨k2, rfl⟩ : ∃ k, k2 = k + 1 := ⟨k2 - 1, by omega⟩
    rw [fX3_follow_49, fX5_goPlan_17]
    by_cases hp : m ≤ p
    · simp only [if_pos (nI_le hp (show p < 2 ^ 31 by omega))]
      exact ⟨_, _, _, gw, wN, s, rfl, rfl, hs9, hg, hw, hag, fun _ _ => rfl⟩
    · have e1 : nI i + (2 : Int32) * nI p = nI (i + 2 * p) := by rw [show (2 : Int32) = nI 2 from rfl, pk_mul, nI_add]
      have e2 : nI (b + i) + (2 : Int32) * nI p = nI (b + (i + 2 * p)) := by rw [show (2 : Int32) = nI 2 from rfl, pk_mul, nI_add, Nat.add_assoc]
      obtain ⟨r, hh', op', gw', wN', s', hr, d4, d5, q1, q2, q3, q4, q5⟩ := pair_go hn hs hk hgk hkk hs9 hg hw hag hh op (hV p (by omega))
      simp only [if_neg (nI_ge (show p < m by omega) (show m < 2 ^ 31 by omega)), if_true, e1, e2, nI_1, e_codeAt n hL (show i + 2 * p < L by omega), e_codeAt n hL (show i + 2 * p + 1 < L by omega), Option.bind_some, gd_in (show b + (i + 2 * p) < 240 by omega) (show 240 < 2 ^ 31 by decide), gd_in (show b + (i + 2 * p + 1) < 240 by omega) (show 240 < 2 ^ 31 by decide), nI_clamp (show b + (i + 2 * p) < 2 ^ 31 by omega), nI_clamp (show b + (i + 2 * p + 1) < 2 ^ 31 by omega), ← hrow (i + 2 * p) (show i + 2 * p < 60 by omega), show b + (i + 2 * p) + 1 = b + (i + 2 * p + 1) from rfl, ← hrow (i + 2 * p + 1) (show i + 2 * p + 1 < 60 by omega), d4, d5]
      rcases hr with rfl | rfl
      · simp only [if00, if_true]
        obtain ⟨k1, rfl⟩ : ∃ k, k1 = k + 1 := ⟨k1 - 1, by omega⟩
        rw [fX3_follow_49]
        refine ⟨nI p, hh', op', gw', wN', s', ?_, rfl, q1, q2, q3, q4, q5⟩
        split
        · rfl
        · rw [if_neg (nI_ne_m9 (show p < 2 ^ 31 by omega))]
      · simp only [if10]
        obtain ⟨wr, a1, a2, a3, a4, a5, b1, b2, b3, b4, b5, b6, b7⟩ := ih k2 (p + 1) s' gw' wN' hh' op' (by omega) (by omega) (by omega) q1 q2 q3 q4
        exact ⟨wr, a1, a2, a3, a4, a5, b1, b2, b3, b4, b5, b6, fun i hi => by rw [b7 i hi, q5 i hi]⟩
theorem wetsum_go {gw wN : Nat → Nat} (hN : w * h ≤ 12) (hag : Ag (w * h) gw wN) (su op : Int32) (kd : Nat → Int32) : ∀ (k i : Nat) (a : Int32), i ≤ w * h → w * h < i + k → ∃ r, fX0_wetOfAll_4 n k (fI gw) (nI (w * h)) a (nI i) = some r ∧ fX5_tellPlan_101 n k su (nI w) (nI h) kd (fI wN) op a (nI i) = some r := by
  intro k
  induction k with
  | zero => intro i a h1 h2; omega
  | succ k ih =>
    intro i a h1 h2
    rw [fX0_wetOfAll_4, fX5_tellPlan_101]
    simp only [e_cellsOf, Option.bind_some]
    by_cases hi : w * h ≤ i
    · simp only [if_pos (nI_le hi (show i < 2 ^ 31 by omega))]
      exact ⟨_, rfl, rfl⟩
    · simp only [if_neg (nI_ge (show i < w * h by omega) (show w * h < 2 ^ 31 by omega)), gd_in (show i < 12 by omega) (show 12 < 2 ^ 31 by decide), nI_clamp (show i < 2 ^ 31 by omega), nI_1]
      have hagi : fI gw i = fI wN i := by show nI (gw i) = nI (wN i); rw [hag i (show i < w * h by omega)]
      rw [hagi]
      exact ih (i + 1) _ (by omega) (by omega)
theorem tell_go (hn : 5000 ≤ n) (hs : Sh w h) (hk : ∀ i, kN i ≤ 2) {s : Nat} (hs9 : s ≤ 9) {gw wN : Nat → Nat} (hg : ∀ i, gw i ≤ 9) (hw : ∀ i, wN i ≤ 9) (hag : Ag (w * h) gw wN) (wr op : Int32) {t : Nat} (ht : t ≤ 4 ∨ (10 ≤ t ∧ t ≤ 21)) : ∃ told r, fX5_tellPlan n (nI s) (nI w) (nI h) (fI kN) (fI wN) op (nI t) = some told ∧ fX3_answerTo n op wr (fI gw) (nI w) (nI (w * h)) (nI (alN w h)) (nI (fcN w h)) (nI (lcN w h)) (nI t) = some r ∧ r = (if nI t = (1 : Int32) then wr else if wr = (-9 : Int32) then told else (-100 : Int32) - wr) := by
  have hN := (Sh_lt hs).1
  have e3 : fX5_crackedBehind n (nI s) (nI w) (nI h) (fI kN) (fI wN) (0 : Int32) = _ := e_crackedBehind (t := 0) n hn hk hw hs9 hN (by decide)
  have e4 : CR kN gw s 0 (w * h) = CR kN wN s 0 (w * h) := CR_ag (fun _ _ => rfl) hag
  obtain ⟨sum, c4, c5⟩ := wetsum_go (n := n) hN hag (nI s) op (fI kN) n 0 0 (Nat.zero_le _) (by omega)
  have c4' : fX0_wetOfAll n (fI gw) (nI (w * h)) = some sum := c4
  have c5' : fX5_tellPlan_97 n (nI s) (nI w) (nI h) (fI kN) (fI wN) op = some sum := c5
  unfold fX5_tellPlan fX3_answerTo fX3_answerTo_108
  simp only [e3, c4', c5', Option.bind_some, e_crackedSet' n hn kN s hg hN, e4, e_isOpenBy n hn hs (CR_lt kN wN s 0 (w * h)), e_isOpen n hn hs (CR_lt kN wN s 0 (w * h))]
  rcases ht with ht | ⟨ht1, ht2⟩
  · rw [if_pos (show nI t < (10 : Int32) from nI_lt (b := 10) (by omega) (by decide))]
    rcases (show t = 0 ∨ t = 1 ∨ t = 2 ∨ t = 3 ∨ t = 4 by omega) with rfl | rfl | rfl | rfl | rfl
    · refine ⟨_, _, rfl, ?_, rfl⟩
      rw [if_neg (show ¬ nI 0 = (1 : Int32) by decide), if_pos (show nI 0 = 0 from rfl), if_neg (show ¬ nI 0 = (1 : Int32) by decide)]
      split <;> rfl
    · refine ⟨_, _, rfl, ?_, rfl⟩
      rfl
    · cases hz : opN w h (CR kN wN s 0 (w * h)) with
      | true =>
        refine ⟨1, _, rfl, ?_, rfl⟩
        rw [if_neg (show ¬ nI 2 = (1 : Int32) by decide), if_neg (show ¬ nI 2 = (1 : Int32) by decide)]
        split <;> rfl
      | false =>
        refine ⟨0, _, rfl, ?_, rfl⟩
        rw [if_neg (show ¬ nI 2 = (1 : Int32) by decide), if_neg (show ¬ nI 2 = (1 : Int32) by decide)]
        split <;> rfl
    · refine ⟨sum, _, rfl, ?_, rfl⟩
      rw [if_neg (show ¬ nI 3 = (1 : Int32) by decide), if_neg (show ¬ nI 3 = (1 : Int32) by decide)]
      split <;> rfl
    · refine ⟨op, _, rfl, ?_, rfl⟩
      rw [if_neg (show ¬ nI 4 = (1 : Int32) by decide), if_neg (show ¬ nI 4 = (1 : Int32) by decide)]
      split <;> rfl
  · have t1 : ¬ nI t = (1 : Int32) := fun z => by have := i_inj (a := t) (b := 1) (by omega) (by decide) z; omega
    have t0 : ¬ nI t = 0 := fun z => by have := i_inj (a := t) (b := 0) (by omega) (by decide) z; omega
    have t2 : ¬ nI t = 2 := fun z => by have := i_inj (a := t) (b := 2) (by omega) (by decide) z; omega
    have t3 : ¬ nI t = 3 := fun z => by have := i_inj (a := t) (b := 3) (by omega) (by decide) z; omega
    have t4 : ¬ nI t = 4 := fun z => by have := i_inj (a := t) (b := 4) (by omega) (by decide) z; omega
    have t10 : nI t - (10 : Int32) = nI (t - 10) := by rw [show (10 : Int32) = nI 10 from rfl, pk_sub (by omega)]
    rw [if_neg (show ¬ nI t < (10 : Int32) from nI_nlt (b := 10) ht1 (by omega)), t10]
    simp only [if_neg t1, if_neg t0, if_neg t2, if_neg t3, if_neg t4]
    rcases isCell2 n (Or.inr hs) (nI (t - 10)) with ⟨h4, h5⟩ | ⟨c, hc, e, h4, h5⟩
    · simp only [h4, h5, Option.bind_some, if00]
      refine ⟨_, _, rfl, ?_, rfl⟩
      split <;> rfl
    · have hce : t - 10 = c := i_inj (by omega) (by omega) e
      have hag2 : fI gw (t - 10) = fI wN (t - 10) := by show nI (gw (t - 10)) = nI (wN (t - 10)); rw [hag (t - 10) (by omega)]
      simp only [h4, h5, Option.bind_some, if10, gd_in (show t - 10 < 12 by omega) (show 12 < 2 ^ 31 by decide), nI_clamp (show t - 10 < 2 ^ 31 by omega), hag2]
      refine ⟨_, _, rfl, ?_, rfl⟩
      split <;> rfl
end PLAN
/-! refusals of pairs -/
section PLANR
variable {n w h : Nat}
theorem ref_or (hs : Sh w h) (a v : Int32) : (∃ x : Int32, ¬ x = 0 ∧ fX5_refusesPair n (nI w) (nI h) a v = some x ∧ ∀ (F : Option Int32), ((fX4_within n a (0 : Int32) (2 : Int32)).bind fun q39_3 => if q39_3 = 0 then some ((-2 : Int32)) else if a = 0 then (fX4_within n v (0 : Int32) (9 : Int32)).bind fun q58_1 => if q58_1 = 0 then some ((-2 : Int32)) else if a = (2 : Int32) then (fX4_within n v (0 : Int32) (9 : Int32)).bind fun q78_1 => if q78_1 = 0 then some ((-2 : Int32)) else if a = (1 : Int32) then (fX0_isCell n (nI (w * h)) v).bind fun q99_1 => if q99_1 = 0 then some ((-1 : Int32)) else F else F else if a = (1 : Int32) then (fX0_isCell n (nI (w * h)) v).bind fun q99_1 => if q99_1 = 0 then some ((-1 : Int32)) else F else F else if a = (2 : Int32) then (fX4_within n v (0 : Int32) (9 : Int32)).bind fun q78_1 => if q78_1 = 0 then some ((-2 : Int32)) else if a = (1 : Int32) then (fX0_isCell n (nI (w * h)) v).bind fun q99_1 => if q99_1 = 0 then some ((-1 : Int32)) else F else F else if a = (1 : Int32) then (fX0_isCell n (nI (w * h)) v).bind fun q99_1 => if q99_1 = 0 then some ((-1 : Int32)) else F else F) = some x) ∨
    (Vp (w * h) a v ∧ fX5_refusesPair n (nI w) (nI h) a v = some 0 ∧ ∀ (F : Option Int32), ((fX4_within n a (0 : Int32) (2 : Int32)).bind fun q39_3 => if q39_3 = 0 then some ((-2 : Int32)) else if a = 0 then (fX4_within n v (0 : Int32) (9 : Int32)).bind fun q58_1 => if q58_1 = 0 then some ((-2 : Int32)) else if a = (2 : Int32) then (fX4_within n v (0 : Int32) (9 : Int32)).bind fun q78_1 => if q78_1 = 0 then some ((-2 : Int32)) else if a = (1 : Int32) then (fX0_isCell n (nI (w * h)) v).bind fun q99_1 => if q99_1 = 0 then some ((-1 : Int32)) else F else F else if a = (1 : Int32) then (fX0_isCell n (nI (w * h)) v).bind fun q99_1 => if q99_1 = 0 then some ((-1 : Int32)) else F else F else if a = (2 : Int32) then (fX4_within n v (0 : Int32) (9 : Int32)).bind fun q78_1 => if q78_1 = 0 then some ((-2 : Int32)) else if a = (1 : Int32) then (fX0_isCell n (nI (w * h)) v).bind fun q99_1 => if q99_1 = 0 then some ((-1 : Int32)) else F else F else if a = (1 : Int32) then (fX0_isCell n (nI (w * h)) v).bind fun q99_1 => if q99_1 = 0 then some ((-1 : Int32)) else F else F) = F) := by
  unfold fX5_refusesPair fX5_refusesPair_24
  rw [digit5]
  rcases within_or n (A := 0) (B := 2) (a := 0) (b := 2) rfl rfl (by decide) (by decide) a with ⟨h4, h5⟩ | ⟨x, -, hx, rfl, h4, h5⟩
  · left
    refine ⟨-2, by decide, ?_, fun F => ?_⟩
    · rw [h5]; rfl
    · rw [h4]; rfl
  · simp only [h4, h5, Option.bind_some, if10]
    rcases (show x = 0 ∨ x = 1 ∨ x = 2 by omega) with rfl | rfl | rfl
    · rcases within_or n (A := 0) (B := 9) (a := 0) (b := 9) rfl rfl (by decide) (by decide) v with ⟨h4, h5⟩ | ⟨y, -, hy, rfl, h4, h5⟩
      · left
        refine ⟨-2, by decide, ?_, fun F => ?_⟩
        · rw [h5]; rfl
        · rw [h4]; rfl
      · right
        refine ⟨Or.inl ⟨rfl, y, hy, rfl⟩, ?_, fun F => ?_⟩
        · rw [h5]; rfl
        · rw [h4]; rfl
    · rcases isCell2 n (Or.inr hs) v with ⟨h4, h5⟩ | ⟨c, hc, rfl, h4, h5⟩
      · left
        refine ⟨-1, by decide, ?_, fun F => ?_⟩
        · rw [h5]; rfl
        · rw [h4]; rfl
      · right
        refine ⟨Or.inr (Or.inl ⟨rfl, c, hc, rfl⟩), ?_, fun F => ?_⟩
        · rw [h5]; rfl
        · rw [h4]; rfl
    · rcases within_or n (A := 0) (B := 9) (a := 0) (b := 9) rfl rfl (by decide) (by decide) v with ⟨h4, h5⟩ | ⟨y, -, hy, rfl, h4, h5⟩
      · left
        refine ⟨-2, by decide, ?_, fun F => ?_⟩
        · rw [h5]; rfl
        · rw [h4]; rfl
      · right
        refine ⟨Or.inr (Or.inr ⟨rfl, y, hy, rfl⟩), ?_, fun F => ?_⟩
        · rw [h5]; rfl
        · rw [h4]; rfl
theorem refuse_go (hs : Sh w h) {row mc : Nat → Int32} {L i m b : Nat} (hL : L ≤ 60) (hm : i + 2 * m ≤ L) (hb : b + 60 ≤ 240) (hrow : ∀ x, x < 60 → row x = mc (b + x)) (fl su ks op ph wh : Int32) (so sl kd wt kw : Nat → Int32) : ∀ (j p k1 k2 : Nat), p + j = m → j < k1 → j < k2 →
    (∃ x : Int32, ¬ x = 0 ∧ fX4_refusalOfPairs_3 n k1 (nI (w * h)) row (nI L) (nI i) (nI m) (nI p) = some x ∧ fX5_plan_103 n k2 fl so sl mc su (nI w) (nI h) kd wt kw ks op ph (nI m) wh (nI (b + i)) (nI p) = some (x, fl, su, wt, kw, ks, op, ph)) ∨
    (fX4_refusalOfPairs_3 n k1 (nI (w * h)) row (nI L) (nI i) (nI m) (nI p) = some 0 ∧ (∀ q, p ≤ q → q < m → Vp (w * h) (row (i + 2 * q)) (row (i + 2 * q + 1))) ∧ ∃ k, fX5_plan_103 n k2 fl so sl mc su (nI w) (nI h) kd wt kw ks op ph (nI m) wh (nI (b + i)) (nI p) = fX5_plan_103 n (k + 1) fl so sl mc su (nI w) (nI h) kd wt kw ks op ph (nI m) wh (nI (b + i)) (nI m)) := by
  intro j
  induction j with
  | zero =>
    intro p k1 k2 hp h1 h2
    have hpe : p = m := by omega
    subst hpe
    obtain ⟨k1, rfl⟩ : ∃ k, k1 = k + 1 := ⟨k1 - 1, by omega⟩
    obtain ⟨k2, rfl⟩ : ∃ k, k2 = k + 1 := ⟨k2 - 1, by omega⟩
    right
    refine ⟨?_, fun q h3 h4 => by omega, k2, rfl⟩
    rw [fX4_refusalOfPairs_3, if_pos (nI_le (Nat.le_refl p) (by omega))]
  | succ j ih =>
    intro p k1 k2 hp h1 h2
    obtain ⟨k1, rfl⟩ : ∃ k, k1 = k + 1 := ⟨k1 - 1, by omega⟩
    obtain ⟨k2, rfl⟩ : ∃ k, k2 = k + 1 := ⟨k2 - 1, by omega⟩
    have e1 : nI i + (2 : Int32) * nI p = nI (i + 2 * p) := by rw [show (2 : Int32) = nI 2 from rfl, pk_mul, nI_add]
    have e2 : nI (b + i) + (2 : Int32) * nI p = nI (b + (i + 2 * p)) := by rw [show (2 : Int32) = nI 2 from rfl, pk_mul, nI_add, Nat.add_assoc]
    have hr1 : mc (b + (i + 2 * p)) = row (i + 2 * p) := (hrow _ (by omega)).symm
    have hr2 : mc (b + (i + 2 * p) + 1) = row (i + 2 * p + 1) := (hrow (i + 2 * p + 1) (by omega)).symm
    have hL1 : fX4_refusalOfPairs_3 n (k1 + 1) (nI (w * h)) row (nI L) (nI i) (nI m) (nI p) = ((fX4_within n (row (i + 2 * p)) (0 : Int32) (2 : Int32)).bind fun q39_3 => if q39_3 = 0 then some ((-2 : Int32)) else if row (i + 2 * p) = 0 then (fX4_within n (row (i + 2 * p + 1)) (0 : Int32) (9 : Int32)).bind fun q58_1 => if q58_1 = 0 then some ((-2 : Int32)) else if row (i + 2 * p) = (2 : Int32) then (fX4_within n (row (i + 2 * p + 1)) (0 : Int32) (9 : Int32)).bind fun q78_1 => if q78_1 = 0 then some ((-2 : Int32)) else if row (i + 2 * p) = (1 : Int32) then (fX0_isCell n (nI (w * h)) (row (i + 2 * p + 1))).bind fun q99_1 => if q99_1 = 0 then some ((-1 : Int32)) else fX4_refusalOfPairs_3 n k1 (nI (w * h)) row (nI L) (nI i) (nI m) (nI (p + 1)) else fX4_refusalOfPairs_3 n k1 (nI (w * h)) row (nI L) (nI i) (nI m) (nI (p + 1)) else if row (i + 2 * p) = (1 : Int32) then (fX0_isCell n (nI (w * h)) (row (i + 2 * p + 1))).bind fun q99_1 => if q99_1 = 0 then some ((-1 : Int32)) else fX4_refusalOfPairs_3 n k1 (nI (w * h)) row (nI L) (nI i) (nI m) (nI (p + 1)) else fX4_refusalOfPairs_3 n k1 (nI (w * h)) row (nI L) (nI i) (nI m) (nI (p + 1)) else if row (i + 2 * p) = (2 : Int32) then (fX4_within n (row (i + 2 * p + 1)) (0 : Int32) (9 : Int32)).bind fun q78_1 => if q78_1 = 0 then some ((-2 : Int32)) else if row (i + 2 * p) = (1 : Int32) then (fX0_isCell n (nI (w * h)) (row (i + 2 * p + 1))).bind fun q99_1 => if q99_1 = 0 then some ((-1 : Int32)) else fX4_refusalOfPairs_3 n k1 (nI (w * h)) row (nI L) (nI i) (nI m) (nI (p + 1)) else fX4_refusalOfPairs_3 n k1 (nI (w * h)) row (nI L) (nI i) (nI m) (nI (p + 1)) else if row (i + 2 * p) = (1 : Int32) then (fX0_isCell n (nI (w * h)) (row (i + 2 * p + 1))).bind fun q99_1 => if q99_1 = 0 then some ((-1 : Int32)) else fX4_refusalOfPairs_3 n k1 (nI (w * h)) row (nI L) (nI i) (nI m) (nI (p + 1)) else fX4_refusalOfPairs_3 n k1 (nI (w * h)) row (nI L) (nI i) (nI m) (nI (p + 1))) := by
      rw [fX4_refusalOfPairs_3, if_neg (nI_ge (show p < m by omega) (by omega)), e1, nI_1, e_codeAt n hL (by omega), Option.bind_some, e_codeAt n hL (by omega), Option.bind_some, nI_1]
    have hL2 : fX5_plan_103 n (k2 + 1) fl so sl mc su (nI w) (nI h) kd wt kw ks op ph (nI m) wh (nI (b + i)) (nI p) = (fX5_refusesPair n (nI w) (nI h) (row (i + 2 * p)) (row (i + 2 * p + 1))).bind fun q137_1 => if q137_1 = 0 then fX5_plan_103 n k2 fl so sl mc su (nI w) (nI h) kd wt kw ks op ph (nI m) wh (nI (b + i)) (nI (p + 1)) else some (q137_1, fl, su, wt, kw, ks, op, ph) := by
      rw [fX5_plan_103, if_neg (nI_ge (show p < m by omega) (by omega)), e2, nI_1, gd_in (by omega) (by decide), gd_in (by omega) (by decide), nI_clamp (by omega), nI_clamp (by omega), hr1, hr2, nI_1]
    rw [hL1, hL2]
    rcases ref_or (n := n) hs (row (i + 2 * p)) (row (i + 2 * p + 1)) with ⟨x, hx, r5, r4⟩ | ⟨hv, r5, r4⟩
    · left
      refine ⟨x, hx, r4 _, ?_⟩
      rw [r5, Option.bind_some, if_neg hx]
    · rw [r4, r5, Option.bind_some, if00]
      rcases ih (p + 1) k1 k2 (by omega) (by omega) (by omega) with z | ⟨z1, z2, z3⟩
      · exact Or.inl z
      · refine Or.inr ⟨z1, fun q h3 h4 => ?_, z3⟩
        by_cases e : q = p
        · rw [e]; exact hv
        · exact z2 q (by omega) h4
end PLANR
/-! keep, put back, and the plan -/
theorem e_keep_10 (n : Nat) {w h : Nat} (hN : w * h ≤ 12) (su ks : Int32) (wt kw : Nat → Int32) : ∀ (k c : Nat), c ≤ w * h → w * h < c + k → fX5_keep_10 n k su (nI w) (nI h) wt (mixI kw wt c) ks (nI c) = some (mixI kw wt (w * h), ks) := by
  intro k
  induction k with
  | zero => intro c h1 h2; omega
  | succ k ih =>
    intro c h1 h2
    rw [fX5_keep_10, e_cellsOf, Option.bind_some]
    by_cases hc : w * h ≤ c
    · have h3 : c = w * h := by omega
      rw [if_pos (nI_le hc (by omega)), h3]
    · simp only [if_neg (nI_ge (show c < w * h by omega) (show w * h < 2 ^ 31 by omega)), gd_in (show c < 12 by omega) (show 12 < 2 ^ 31 by decide), nI_clamp (show c < 2 ^ 31 by omega), mixI_step, nI_1]
      exact ih (c + 1) (by omega) (by omega)
theorem e_keep (n : Nat) (hn : 5000 ≤ n) {w h : Nat} (hN : w * h ≤ 12) (su ks : Int32) (wt kw : Nat → Int32) : fX5_keep n su (nI w) (nI h) wt kw ks = some (mixI kw wt (w * h), su) := by
  have h1 := e_keep_10 n hN su su wt kw n 0 (Nat.zero_le _) (by omega)
  rw [mixI_0] at h1
  exact h1
theorem e_putBack_10 (n : Nat) {w h : Nat} (hN : w * h ≤ 12) (su ks : Int32) (wt kw : Nat → Int32) : ∀ (k c : Nat), c ≤ w * h → w * h < c + k → fX5_putBack_10 n k su (nI w) (nI h) (mixI wt kw c) kw ks (nI c) = some (su, mixI wt kw (w * h)) := by
  intro k
  induction k with
  | zero => intro c h1 h2; omega
  | succ k ih =>
    intro c h1 h2
    rw [fX5_putBack_10, e_cellsOf, Option.bind_some]
    by_cases hc : w * h ≤ c
    · have h3 : c = w * h := by omega
      rw [if_pos (nI_le hc (by omega)), h3]
    · simp only [if_neg (nI_ge (show c < w * h by omega) (show w * h < 2 ^ 31 by omega)), gd_in (show c < 12 by omega) (show 12 < 2 ^ 31 by decide), nI_clamp (show c < 2 ^ 31 by omega), mixI_step, nI_1]
      exact ih (c + 1) (by omega) (by omega)
theorem e_putBack (n : Nat) (hn : 5000 ≤ n) {w h : Nat} (hN : w * h ≤ 12) (su ks : Int32) (wt kw : Nat → Int32) : fX5_putBack n su (nI w) (nI h) wt kw ks = some (ks, mixI wt kw (w * h)) := by
  have h1 := e_putBack_10 n hN ks ks wt kw n 0 (Nat.zero_le _) (by omega)
  rw [mixI_0] at h1
  exact h1
theorem put_back {wN wN' : Nat → Nat} {kw : Nat → Int32} {N : Nat} (h : ∀ i, N ≤ i → wN' i = wN i) : mixI (fI wN') (mixI kw (fI wN) N) N = fI wN := by
  funext j
  unfold mixI
  show (if j < N then (if j < N then nI (wN j) else kw j) else nI (wN' j)) = nI (wN j)
  by_cases hj : j < N
  · rw [if_pos hj, if_pos hj]
  · rw [if_neg hj, h j (by omega)]
theorem plan_good (n : Nat) (hn : 5000 ≤ n) {kN wN : Nat → Nat} {s w h : Nat} (hk : ∀ i, kN i ≤ 2) (hw : ∀ i, wN i ≤ 9) (hs9 : s ≤ 9) (hsh : Sh0 w h) {row : Nat → Nat → Int32} {lane len so sl mc : Nat → Int32} {gk gw : Nat → Nat} (hgk : ∀ i, gk i ≤ 2) (hgw : ∀ i, gw i ≤ 9) (th to_ tf x1 x2 x3 x4 x5 x6 x7 ks mo mh : Int32) (kw : Nat → Int32) {c L i m t : Nat} (hc : c < 4) (hL : L ≤ 60) (hm : i + 2 * m ≤ L) (hlen : len c = nI L) (hrow : ∀ x, x < 60 → row c x = mc (60 * c + x)) (ht : t ≤ 4 ∨ (10 ≤ t ∧ t ≤ 21)) :
    ∃ r fl' th' to' tf' gk' gw' y1 y2 y3 y4 y5 y6 y7 kw' ks' mo' mh', fX4_plan_106 n (0 : Int32) (fI kN) (fI wN) (nI w) (nI h) (nI (w * h)) (nI s) (nI (alN w h)) (nI (fcN w h)) (nI (lcN w h)) th to_ tf (fI gk) (fI gw) x1 x2 x3 x4 x5 x6 x7 row lane len c (nI i) (nI m) (nI t) (0 : Int32) = some (r, fl', th', to', tf', fI gk', fI gw', y1, y2, y3, y4, y5, y6, y7) ∧
      (if nI w = 0 then some ((-3 : Int32), (0 : Int32), nI s, fI wN, kw, ks, mo, mh) else fX5_plan_103 n n (0 : Int32) so sl mc (nI s) (nI w) (nI h) (fI kN) (fI wN) kw ks mo mh (nI m) (nI t) (nI (60 * c + i)) (0 : Int32)) = some (r, fl', nI s, fI wN, kw', ks', mo', mh') ∧ (∀ i, gk' i ≤ 2) ∧ ∀ i, gw' i ≤ 9 := by
  have hN := Sh0_N hsh
  unfold fX4_plan_106
  rcases there n hsh with ⟨-, -, h1, h2⟩ | ⟨hs, h1, h2⟩
  · simp only [if_true, h1, if_pos h2, Option.bind_some, if00]
    exact ⟨_, _, _, _, _, gk, gw, _, _, _, _, _, _, _, _, _, _, _, rfl, rfl, hgk, hgw⟩
  · simp only [if_true, h1, if_neg h2, Option.bind_some, if10, hlen]
    rcases refuse_go (n := n) hs hL hm (show 60 * c + 60 ≤ 240 by omega) hrow 0 (nI s) ks mo mh (nI t) so sl (fI kN) (fI wN) kw m 0 n n (by omega) (by omega) (by omega) with ⟨x, hx, r4, r5⟩ | ⟨r4, hV, k, r5⟩
    · have r4' : fX4_refusalOfPairs n (nI (w * h)) (row c) (nI L) (nI i) (nI m) = some x := r4
      have r5' : fX5_plan_103 n n (0 : Int32) so sl mc (nI s) (nI w) (nI h) (fI kN) (fI wN) kw ks mo mh (nI m) (nI t) (nI (60 * c + i)) (0 : Int32) = _ := r5
      simp only [r4', r5', Option.bind_some, if_neg hx]
      exact ⟨_, _, _, _, _, gk, gw, _, _, _, _, _, _, _, _, _, _, _, rfl, rfl, hgk, hgw⟩
    · have r4' : fX4_refusalOfPairs n (nI (w * h)) (row c) (nI L) (nI i) (nI m) = some 0 := r4
      have r5' : fX5_plan_103 n n (0 : Int32) so sl mc (nI s) (nI w) (nI h) (fI kN) (fI wN) kw ks mo mh (nI m) (nI t) (nI (60 * c + i)) (0 : Int32) = _ := r5
      have hagk : Ag (w * h) (mixN gk kN (w * h)) kN := fun i hi => mix_in hi
      have hagw : Ag (w * h) (mixN gw wN (w * h)) wN := fun i hi => mix_in hi
      have e3 : fX5_crackedBehind n (nI s) (nI w) (nI h) (fI kN) (fI wN) (0 : Int32) = _ := e_crackedBehind (t := 0) n hn hk hw hs9 hN (by decide)
      have e4 : CR kN (mixN gw wN (w * h)) s 0 (w * h) = CR kN wN s 0 (w * h) := CR_ag (fun _ _ => rfl) hagw
      rw [r5', fX5_plan_103]
      simp only [r4', Option.bind_some, if_true, if00, if_pos (nI_le (Nat.le_refl m) (show m < 2 ^ 31 by omega)), fX3_follow, fX3_follow_37, e_becomeLike n hn _ _ _ _ _ _ _ _ _ _ _ _ _ hN, e_crackedSet' n hn kN s (mix_le hgw hw) hN, e4, e_isOpenBy n hn hs (CR_lt kN wN s 0 (w * h)), e_keep n hn hN, fX5_goPlan, fX5_noteOpen, e3, e_isOpen n hn hs (CR_lt kN wN s 0 (w * h))]
      have fin : ∀ y0 : Int32, ∃ r fl' th' to' tf' gk' gw' y1 y2 y3 y4 y5 y6 y7 kw' ks' mo' mh', ((fX3_follow_49 n n (0 : Int32) y0 (-9 : Int32) (fI (mixN gk kN (w * h))) (fI (mixN gw wN (w * h))) (nI w) (nI h) (nI (w * h)) (nI s) (nI (alN w h)) (nI (fcN w h)) (nI (lcN w h)) (fI kN) (fI wN) (nI w) (nI h) (nI (w * h)) (nI s) (nI (alN w h)) (nI (fcN w h)) (nI (lcN w h)) (row c) (nI L) (nI i) (nI m) (0 : Int32)).bind fun q163_1 => (fX3_answerTo n q163_1.2.1 q163_1.2.2.1 q163_1.2.2.2.2.1 q163_1.2.2.2.2.2.1 q163_1.2.2.2.2.2.2.2.1 q163_1.2.2.2.2.2.2.2.2.2.1 q163_1.2.2.2.2.2.2.2.2.2.2.1 q163_1.2.2.2.2.2.2.2.2.2.2.2 (nI t)).bind fun q172_2 => some (q172_2, (0 : Int32), q163_1.1, q163_1.2.1, q163_1.2.2.1, q163_1.2.2.2.1, q163_1.2.2.2.2.1, q163_1.2.2.2.2.2.1, q163_1.2.2.2.2.2.2.1, q163_1.2.2.2.2.2.2.2.1, q163_1.2.2.2.2.2.2.2.2.1, q163_1.2.2.2.2.2.2.2.2.2.1, q163_1.2.2.2.2.2.2.2.2.2.2.1, q163_1.2.2.2.2.2.2.2.2.2.2.2)) = some (r, fl', th', to', tf', fI gk', fI gw', y1, y2, y3, y4, y5, y6, y7) ∧
          ((fX5_goPlan_17 n n mc (nI s) (nI w) (nI h) (fI kN) (fI wN) y0 (0 : Int32) (nI (60 * c + i)) (nI m) (0 : Int32)).bind fun q165_2 => (fX5_tellPlan n q165_2.2.1 (nI w) (nI h) (fI kN) q165_2.2.2.1 q165_2.2.2.2.1 (nI t)).bind fun q173_3 => (fX5_putBack n q165_2.2.1 (nI w) (nI h) q165_2.2.2.1 (mixI kw (fI wN) (w * h)) (nI s)).bind fun q179_4 => if nI t = (1 : Int32) then some (q165_2.1, (0 : Int32), q179_4.1, q179_4.2, mixI kw (fI wN) (w * h), nI s, q165_2.2.2.2.1, q165_2.2.2.2.2) else if q165_2.1 = (-9 : Int32) then some (q173_3, (0 : Int32), q179_4.1, q179_4.2, mixI kw (fI wN) (w * h), nI s, q165_2.2.2.2.1, q165_2.2.2.2.2) else some (((-100 : Int32) - q165_2.1), (0 : Int32), q179_4.1, q179_4.2, mixI kw (fI wN) (w * h), nI s, q165_2.2.2.2.1, q165_2.2.2.2.2)) = some (r, fl', nI s, fI wN, kw', ks', mo', mh') ∧ (∀ i, gk' i ≤ 2) ∧ ∀ i, gw' i ≤ 9 := by
        intro y0
        obtain ⟨wr, hh', op', gw', wN', s', b1, b2, b3, b4, b5, b6, b7⟩ := follow_go hn hs hk (mix_le hgk hk) hagk hL hm (show 60 * c + 60 ≤ 240 by omega) hrow (fun p hp => hV p (Nat.zero_le _) hp) (fI kN) (fI wN) (nI w) (nI h) (nI (w * h)) (nI s) (nI (alN w h)) (nI (fcN w h)) (nI (lcN w h)) n n 0 s (mixN gw wN (w * h)) wN 0 y0 (Nat.zero_le _) (by omega) (by omega) hs9 (mix_le hgw hw) hw hagw
        have b1' : fX3_follow_49 n n (0 : Int32) y0 (-9 : Int32) (fI (mixN gk kN (w * h))) (fI (mixN gw wN (w * h))) (nI w) (nI h) (nI (w * h)) (nI s) (nI (alN w h)) (nI (fcN w h)) (nI (lcN w h)) (fI kN) (fI wN) (nI w) (nI h) (nI (w * h)) (nI s) (nI (alN w h)) (nI (fcN w h)) (nI (lcN w h)) (row c) (nI L) (nI i) (nI m) (0 : Int32) = _ := b1
        have b2' : fX5_goPlan_17 n n mc (nI s) (nI w) (nI h) (fI kN) (fI wN) y0 (0 : Int32) (nI (60 * c + i)) (nI m) (0 : Int32) = _ := b2
        obtain ⟨told, r, t5, t4, tr⟩ := tell_go (wr := wr) (op := op') hn hs hk b3 b4 b5 b6 ht
        simp only [b1', b2', t4, t5, Option.bind_some, e_putBack n hn hN, put_back b7, tr]
        refine ⟨_, _, _, _, _, mixN gk kN (w * h), gw', _, _, _, _, _, _, _, mixI kw (fI wN) (w * h), nI s, op', hh', rfl, ?_, mix_le hgk hk, b4⟩
        split
        · rfl
        · split <;> rfl
      by_cases hz : opN w h (CR kN wN s 0 (w * h)) = true
      · simp only [if_pos hz, if10, Option.bind_some]
        exact fin _
      · simp only [if_neg hz, if00, if_true, Option.bind_some]
        exact fin _
theorem L_plan (n : Nat) (hn : 5000 ≤ n) {kN wN : Nat → Nat} {s w h : Nat} (hS : St kN wN s w h) {row : Nat → Nat → Int32} {lane len so sl mc : Nat → Int32} (hSr : Sr row lane len so sl mc) {gk gw : Nat → Nat} (hgk : ∀ i, gk i ≤ 2) (hgw : ∀ i, gw i ≤ 9) (fl th to_ tf x1 x2 x3 x4 x5 x6 x7 ks mo mh : Int32) (kw : Nat → Int32) (p1 p2 p3 p4 p5 : Int32) :
    ∃ r fl' th' to' tf' gk' gw' y1 y2 y3 y4 y5 y6 y7 kw' ks' mo' mh', fX4_plan n fl (fI kN) (fI wN) (nI w) (nI h) (nI (w * h)) (nI s) (nI (alN w h)) (nI (fcN w h)) (nI (lcN w h)) th to_ tf (fI gk) (fI gw) x1 x2 x3 x4 x5 x6 x7 row lane len p1 p2 p3 p4 p5 = some (r, fl', th', to', tf', fI gk', fI gw', y1, y2, y3, y4, y5, y6, y7) ∧
      fX5_plan n fl so sl mc (nI s) (nI w) (nI h) (fI kN) (fI wN) kw ks mo mh p1 p2 p3 p4 p5 = some (r, fl', nI s, fI wN, kw', ks', mo', mh') ∧ (∀ i, gk' i ≤ 2) ∧ ∀ i, gw' i ≤ 9 := by
  obtain ⟨hk, hw, hs9, hsh⟩ := hS
  have hN := Sh0_N hsh
  unfold fX4_plan fX5_plan fX4_plan_36 fX4_plan_41 fX5_plan_57
  rcases sheet_or n p1 with ⟨h4, h5⟩ | ⟨c, hc, rfl, h4, h5⟩
  · simp only [h4, h5, Option.bind_some, if00, if_true]; exact ⟨_, _, _, _, _, gk, gw, _, _, _, _, _, _, _, _, _, _, _, rfl, rfl, hgk, hgw⟩
  · simp only [h4, h5, Option.bind_some, if10]
    rcases lane_or n p2 with ⟨h4, h5⟩ | ⟨la, hla, rfl, h4, h5⟩
    · have hall : ∀ X : Option (Int32 × Int32 × Int32 × Int32 × Int32 × (Nat → Int32) × (Nat → Int32) × Int32 × Int32 × Int32 × Int32 × Int32 × Int32 × Int32), ((fX4_within n p5 (0 : Int32) (4 : Int32)).bind fun q18_1 => if q18_1 = 0 then (fX4_within n p5 (10 : Int32) (21 : Int32)).bind fun q30_1 => if q30_1 = 0 then X else X else X) = X := fun X => by
        rcases within_or n (A := 0) (B := 4) (a := 0) (b := 4) rfl rfl (by decide) (by decide) p5 with ⟨z, -⟩ | ⟨_, _, _, _, z, -⟩
        · rcases within_or n (A := 10) (B := 21) (a := 10) (b := 21) rfl rfl (by decide) (by decide) p5 with ⟨z2, -⟩ | ⟨_, _, _, _, z2, -⟩
          · rw [z, z2]; rfl
          · rw [z, z2]; rfl
        · rw [z]; rfl
      simp only [h4, h5, Option.bind_some, if00, if_true, hall]; exact ⟨_, _, _, _, _, gk, gw, _, _, _, _, _, _, _, _, _, _, _, rfl, rfl, hgk, hgw⟩
    · simp only [h4, h5, Option.bind_some, if10]
      rcases within_or n (A := 0) (B := 20) (a := 0) (b := 20) rfl rfl (by decide) (by decide) p4 with ⟨h4, h5⟩ | ⟨m, -, hm20, rfl, h4, h5⟩
      · have hall : ∀ X : Option (Int32 × Int32 × Int32 × Int32 × Int32 × (Nat → Int32) × (Nat → Int32) × Int32 × Int32 × Int32 × Int32 × Int32 × Int32 × Int32), ((fX4_within n p5 (0 : Int32) (4 : Int32)).bind fun q18_1 => if q18_1 = 0 then (fX4_within n p5 (10 : Int32) (21 : Int32)).bind fun q30_1 => if q30_1 = 0 then X else X else X) = X := fun X => by
          rcases within_or n (A := 0) (B := 4) (a := 0) (b := 4) rfl rfl (by decide) (by decide) p5 with ⟨z, -⟩ | ⟨_, _, _, _, z, -⟩
          · rcases within_or n (A := 10) (B := 21) (a := 10) (b := 21) rfl rfl (by decide) (by decide) p5 with ⟨z2, -⟩ | ⟨_, _, _, _, z2, -⟩
            · rw [z, z2]; rfl
            · rw [z, z2]; rfl
          · rw [z]; rfl
        simp only [h4, h5, Option.bind_some, if00, if_true, hall]; exact ⟨_, _, _, _, _, gk, gw, _, _, _, _, _, _, _, _, _, _, _, rfl, rfl, hgk, hgw⟩
      · simp only [h4, h5, Option.bind_some, if10, gd_in hc (show 4 < 2 ^ 31 by decide), nI_clamp (show c < 2 ^ 31 by omega)]
        have e2m : (2 : Int32) * nI m = nI (2 * m) := by rw [show (2 : Int32) = nI 2 from rfl, pk_mul]
        rw [e2m]
        have body : ∀ t : Nat, (t ≤ 4 ∨ (10 ≤ t ∧ t ≤ 21)) → p5 = nI t →
          ∃ r fl' th' to' tf' gk' gw' y1 y2 y3 y4 y5 y6 y7 kw' ks' mo' mh', ((fX2_faultAs n (lane c) (nI la)).bind fun q80_1 => if q80_1 = 0 then (fX2_has n (len c) p3 (nI (2 * m))).bind fun q97_1 => if q97_1 = 0 then fX4_plan_106 n (0 : Int32) (fI kN) (fI wN) (nI w) (nI h) (nI (w * h)) (nI s) (nI (alN w h)) (nI (fcN w h)) (nI (lcN w h)) th to_ tf (fI gk) (fI gw) x1 x2 x3 x4 x5 x6 x7 row lane len c p3 (nI m) (nI t) (3 : Int32) else fX4_plan_106 n (0 : Int32) (fI kN) (fI wN) (nI w) (nI h) (nI (w * h)) (nI s) (nI (alN w h)) (nI (fcN w h)) (nI (lcN w h)) th to_ tf (fI gk) (fI gw) x1 x2 x3 x4 x5 x6 x7 row lane len c p3 (nI m) (nI t) q80_1 else fX4_plan_106 n (0 : Int32) (fI kN) (fI wN) (nI w) (nI h) (nI (w * h)) (nI s) (nI (alN w h)) (nI (fcN w h)) (nI (lcN w h)) th to_ tf (fI gk) (fI gw) x1 x2 x3 x4 x5 x6 x7 row lane len c p3 (nI m) (nI t) q80_1) = some (r, fl', th', to', tf', fI gk', fI gw', y1, y2, y3, y4, y5, y6, y7) ∧
          ((fX5_against n so sl (nI c) (nI la) p3 (nI (2 * m))).bind fun q65_1 => if q65_1 = 0 then if nI w = 0 then some ((-3 : Int32), (0 : Int32), nI s, fI wN, kw, ks, mo, mh) else fX5_plan_103 n n (0 : Int32) so sl mc (nI s) (nI w) (nI h) (fI kN) (fI wN) kw ks mo mh (nI m) (nI t) (((60 : Int32) * nI c) + p3) (0 : Int32) else (fX5_fails n (0 : Int32) q65_1).bind fun q78_1 => some (q78_1.1, q78_1.2, nI s, fI wN, kw, ks, mo, mh)) = some (r, fl', nI s, fI wN, kw', ks', mo', mh') ∧ (∀ i, gk' i ≤ 2) ∧ ∀ i, gw' i ≤ 9 := by
          intro t ht hp5
          have bad : ∀ x : Int32, ¬ x = 0 → fX4_plan_106 n (0 : Int32) (fI kN) (fI wN) (nI w) (nI h) (nI (w * h)) (nI s) (nI (alN w h)) (nI (fcN w h)) (nI (lcN w h)) th to_ tf (fI gk) (fI gw) x1 x2 x3 x4 x5 x6 x7 row lane len c p3 (nI m) (nI t) x = some ((-10 : Int32) - x, x, th, to_, tf, fI gk, fI gw, x1, x2, x3, x4, x5, x6, x7) := fun x hx => by
            unfold fX4_plan_106
            rw [if_neg hx]; rfl
          simp only [fX5_against, fX5_against_23, gd_in hc (show 4 < 2 ^ 31 by decide), nI_clamp (show c < 2 ^ 31 by omega)]
          rcases (hSr c hc).1 with ⟨e1, e2⟩ | ⟨lb, L, hlb, hL, e1, e2, e3, e4⟩
          · simp only [e1, e2, if_true, show fX2_faultAs n (-1 : Int32) (nI la) = some 1 from rfl, Option.bind_some, if10, bad 1 (by decide), fX5_fails]
            exact ⟨_, _, _, _, _, gk, gw, _, _, _, _, _, _, _, _, _, _, _, rfl, rfl, hgk, hgw⟩
          · simp only [e1, e2, e3, e4, faultAs_nI n (show lb < 3 by omega) hla, Option.bind_some, if_neg (nI_ne_m9 (show lb < 2 ^ 31 by omega))]
            by_cases hab : lb = la
            · subst hab
              simp only [if_true, if00, if_pos (nI_pos' (show 2 * m < 2 ^ 31 by omega))]
              have a0' : ¬ nI (2 * m) < 0 := nI_pos (by omega)
              by_cases a1 : p3 < 0
              · have hz : fX2_has n (nI L) p3 (nI (2 * m)) = some 0 := by unfold fX2_has; rw [if_pos a1]
                simp only [if_pos a1, hz, Option.bind_some, if00, if_true, bad 3 (by decide), fX5_fails]
                exact ⟨_, _, _, _, _, gk, gw, _, _, _, _, _, _, _, _, _, _, _, rfl, rfl, hgk, hgw⟩
              · obtain ⟨i, hi, rfl⟩ := nI_of a1
                by_cases a2 : L < i
                · have hz : fX2_has n (nI L) (nI i) (nI (2 * m)) = some 0 := by unfold fX2_has; rw [if_neg a1, if_pos (nI_lt a2 hi)]
                  simp only [if_neg a1, if_pos (nI_lt a2 hi), hz, Option.bind_some, if00, if_true, bad 3 (by decide), fX5_fails]
                  exact ⟨_, _, _, _, _, gk, gw, _, _, _, _, _, _, _, _, _, _, _, rfl, rfl, hgk, hgw⟩
                · have b2 : ¬ nI L < nI i := nI_nlt (by omega) (by omega)
                  have c2 : nI L - nI i = nI (L - i) := pk_sub (by omega)
                  by_cases a3 : L - i < 2 * m
                  · have hz : fX2_has n (nI L) (nI i) (nI (2 * m)) = some 0 := by unfold fX2_has; rw [if_neg a1, if_neg b2, if_neg a0', c2, if_pos (nI_lt a3 (by omega))]
                    simp only [if_neg a1, if_neg b2, c2, if_neg (nI_ge a3 (show 2 * m < 2 ^ 31 by omega)), hz, Option.bind_some, if00, if_true, bad 3 (by decide), fX5_fails]
                    exact ⟨_, _, _, _, _, gk, gw, _, _, _, _, _, _, _, _, _, _, _, rfl, rfl, hgk, hgw⟩
                  · have hz : fX2_has n (nI L) (nI i) (nI (2 * m)) = some 1 := by unfold fX2_has; rw [if_neg a1, if_neg b2, if_neg a0', c2, if_neg (nI_nlt (by omega) (by omega))]
                    simp only [if_neg a1, if_neg b2, c2, if_pos (nI_le (show 2 * m ≤ L - i by omega) (show L - i < 2 ^ 31 by omega)), hz, Option.bind_some, if10, if_true, if00, i60]
                    exact plan_good n hn hk hw hs9 hsh hgk hgw th to_ tf x1 x2 x3 x4 x5 x6 x7 ks mo mh kw hc hL (by omega) e3 (hSr c hc).2 ht
            · have hne : ¬ nI lb = nI la := fun e => hab (i_inj (by omega) (by omega) e)
              simp only [if_neg hab, if_neg hne, if_neg (show ¬ (2 : Int32) = 0 by decide), bad 2 (by decide), Option.bind_some, fX5_fails]
              exact ⟨_, _, _, _, _, gk, gw, _, _, _, _, _, _, _, _, _, _, _, rfl, rfl, hgk, hgw⟩
        rcases within_or n (A := 0) (B := 4) (a := 0) (b := 4) rfl rfl (by decide) (by decide) p5 with ⟨h4, h5⟩ | ⟨t, -, ht, rfl, h4, h5⟩
        · rcases within_or n (A := 10) (B := 21) (a := 10) (b := 21) rfl rfl (by decide) (by decide) p5 with ⟨k4, k5⟩ | ⟨t, ht1, ht2, rfl, k4, k5⟩
          · simp only [h4, h5, k4, k5, Option.bind_some, if00, if_true]
            exact ⟨_, _, _, _, _, gk, gw, _, _, _, _, _, _, _, _, _, _, _, rfl, rfl, hgk, hgw⟩
          · simp only [h4, h5, k4, k5, Option.bind_some, if00, if_true, if10]
            exact body t (Or.inr ⟨ht1, ht2⟩) rfl
        · simp only [h4, h5, Option.bind_some, if10]
          exact body t (Or.inl ht) rfl
