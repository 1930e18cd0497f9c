/-! readings: the class looks at a flat of its own, the reference changes what is and puts it back -/
def Rd (rc rh rk : Nat → Nat) (q N : Nat) : Prop := q ≤ 8 ∧ ∀ k, k < q → rc k < N ∧ rh k ≤ 20 ∧ rk k ≤ 1
theorem L_reading (n : Nat) {kN wN : Nat → Nat} {s w h : Nat} (hS : St kN wN s w h) {rc rh rk : Nat → Nat} {q : Nat} (hR : Rd rc rh rk q (w * h)) (p1 p2 p3 : Int32) : ∃ r rc' rh' rk' q', fX4_reading n (nI (w * h)) (fI rc) (fI rh) (fI rk) (nI q) p1 p2 p3 = some (r, fI rc', fI rh', fI rk', nI q') ∧ fX5_reading n (nI w) (nI h) (nI q) (fI rc) (fI rh) (fI rk) p1 p2 p3 = some (r, nI q', fI rc', fI rh', fI rk') ∧ Rd rc' rh' rk' q' (w * h) := by
  obtain ⟨hk, hw, hs9, hsh⟩ := hS
  obtain ⟨hq8, hrd⟩ := id hR
  have hN := Sh0_N hsh
  unfold fX4_reading fX5_reading
  rcases isCell2 n hsh p1 with ⟨h4, h5⟩ | ⟨c, hc, rfl, h4, h5⟩
  · simp only [h4, h5, Option.bind_some, if00]; exact ⟨_, rc, rh, rk, q, rfl, rfl, hR⟩
  · simp only [h4, h5, Option.bind_some, if10]
    rcases within_or n (A := 0) (B := 20) (a := 0) (b := 20) rfl rfl (by decide) (by decide) p2 with ⟨h4, h5⟩ | ⟨t, -, ht, rfl, h4, h5⟩
    · simp only [h4, h5, Option.bind_some, if00]; exact ⟨_, rc, rh, rk, q, rfl, rfl, hR⟩
    · simp only [h4, h5, Option.bind_some, if10]
      rcases within_or n (A := 0) (B := 1) (a := 0) (b := 1) rfl rfl (by decide) (by decide) p3 with ⟨h4, h5⟩ | ⟨z, -, hz, rfl, h4, h5⟩
      · simp only [h4, h5, Option.bind_some, if00]; exact ⟨_, rc, rh, rk, q, rfl, rfl, hR⟩
      · simp only [h4, h5, Option.bind_some, if10, fX1_addOne]
        by_cases hq : q = 8
        · have e1 : ¬ nI q < (8 : Int32) := by rw [hq]; decide
          have e2 : nI q = (8 : Int32) := by rw [hq]; rfl
          simp only [if_neg e1, if_pos e2, Option.bind_some]
          exact ⟨_, rc, rh, rk, q, rfl, rfl, hR⟩
        · have e1 : nI q < (8 : Int32) := nI_lt (b := 8) (by omega) (by decide)
          have e2 : ¬ nI q = (8 : Int32) := fun e => hq (i_inj (b := 8) (by omega) (by decide) e)
          simp only [if_pos e1, if_neg e2, Option.bind_some, gd_in (show q < 8 by omega) (show 8 < 2 ^ 31 by decide), nI_clamp (show q < 2 ^ 31 by omega), upd_fI, nI_1]
          refine ⟨_, _, _, _, q + 1, rfl, rfl, by omega, fun k hkq => ?_⟩
          unfold upN
          by_cases hkk : k = q
          · simp only [if_pos hkk]; exact ⟨hc, ht, hz⟩
          · simp only [if_neg hkk]; exact hrd k (by omega)
theorem L_back (n : Nat) {rc rh rk : Nat → Nat} {q N : Nat} (hR : Rd rc rh rk q N) (p1 : Int32) : ∃ r q', fX4_back n (nI q) p1 = some (r, nI q') ∧ fX5_back n (nI q) p1 = some (r, nI q') ∧ Rd rc rh rk q' N := by
  obtain ⟨hq8, hrd⟩ := id hR
  unfold fX4_back fX5_back
  rcases within_or n (A := 0) (B := nI q) (a := 0) (b := q) rfl rfl (by decide) (by omega) p1 with ⟨h4, h5⟩ | ⟨t, -, ht, rfl, h4, h5⟩
  · simp only [h4, h5, Option.bind_some, if00]; exact ⟨_, q, rfl, rfl, hR⟩
  · simp only [h4, h5, Option.bind_some, if10, pk_sub ht]
    exact ⟨_, q - t, rfl, rfl, by omega, fun k hk => hrd k (by omega)⟩
/-- whether all readings are so -/
def aS (kN wN : Nat → Nat) (s : Nat) (rc rh rk : Nat → Nat) (q : Nat) : Prop := ∀ k, k < q → (wN (rc k) ≤ rh k * losN (kN (rc k)) s ↔ rk k = 1)
theorem e_areSoIn (n : Nat) {kN wN : Nat → Nat} {s N : Nat} (hk : ∀ i, kN i ≤ 2) (hw : ∀ i, wN i ≤ 9) (hs : s ≤ 9) (hN : N ≤ 12) {rc rh rk : Nat → Nat} {q : Nat} (hR : Rd rc rh rk q N) : ∀ (k i : Nat), i ≤ q → q < i + k → (∀ j, j < i → (wN (rc j) ≤ rh j * losN (kN (rc j)) s ↔ rk j = 1)) → (aS kN wN s rc rh rk q ∧ fX1_areSoIn_2 n k (fI rc) (fI rh) (fI rk) (nI q) (fI kN) (fI wN) (nI N) (nI s) (nI i) = some 1) ∨ (¬ aS kN wN s rc rh rk q ∧ fX1_areSoIn_2 n k (fI rc) (fI rh) (fI rk) (nI q) (fI kN) (fI wN) (nI N) (nI s) (nI i) = some 0) := by
  obtain ⟨hq8, hrd⟩ := hR
  intro k
  induction k with
  | zero => intro i h1 h2; omega
  | succ k ih =>
    intro i h1 h2 hj
    rw [fX1_areSoIn_2]
    by_cases h : q ≤ i
    · have h3 : i = q := by omega
      subst h3
      left
      exact ⟨hj, if_pos (nI_le (Nat.le_refl _) (by omega))⟩
    · obtain ⟨r1, r2, r3⟩ := hrd i (by omega)
      simp only [if_neg (nI_ge (show i < q by omega) (show q < 2 ^ 31 by omega)), gd_in (show i < 8 by omega) (show 8 < 2 ^ 31 by decide), nI_clamp (show i < 2 ^ 31 by omega), e_isCrackedBehind n hk hw hs hN r1 (show rh i ≤ 30 by omega), Option.bind_some, nI_1]
      have hno : ∀ P : Prop, ¬ (wN (rc i) ≤ rh i * losN (kN (rc i)) s ↔ rk i = 1) → ¬ aS kN wN s rc rh rk q := fun _ hne ha => hne (ha i (by omega))
      have hyes : (wN (rc i) ≤ rh i * losN (kN (rc i)) s ↔ rk i = 1) → ∀ j, j < i + 1 → (wN (rc j) ≤ rh j * losN (kN (rc j)) s ↔ rk j = 1) := fun hy j hji => by
        by_cases e : j = i
        · rw [e]; exact hy
        · exact hj j (by omega)
      rcases (show rk i = 0 ∨ rk i = 1 by omega) with e | e
      · have e1 : ¬ nI (rk i) = (1 : Int32) := by rw [e]; decide
        by_cases hz : wN (rc i) ≤ rh i * losN (kN (rc i)) s
        · simp only [if_neg e1, if_pos hz, if10]
          exact Or.inr ⟨hno True (fun z => by have := z.mp hz; omega), by decide⟩
        · simp only [if_neg e1, if_neg hz, if_true]
          exact ih (i + 1) (by omega) (by omega) (hyes ⟨fun z => absurd z hz, fun z => by omega⟩)
      · have e1 : nI (rk i) = (1 : Int32) := by rw [e]; rfl
        by_cases hz : wN (rc i) ≤ rh i * losN (kN (rc i)) s
        · simp only [if_pos e1, if_pos hz, if_true]
          exact ih (i + 1) (by omega) (by omega) (hyes ⟨fun _ => e, fun _ => hz⟩)
        · simp only [if_pos e1, if_neg hz]
          exact Or.inr ⟨hno True (fun z => hz (z.mpr e)), if_neg (by decide)⟩
theorem e_areSo (n : Nat) {kN wN : Nat → Nat} {s N : Nat} (hk : ∀ i, kN i ≤ 2) (hw : ∀ i, wN i ≤ 9) (hs : s ≤ 9) (hN : N ≤ 12) {rc rh rk : Nat → Nat} {q : Nat} (hR : Rd rc rh rk q N) : ∀ (k i : Nat), i ≤ q → q < i + k → (∀ j, j < i → (wN (rc j) ≤ rh j * losN (kN (rc j)) s ↔ rk j = 1)) → (aS kN wN s rc rh rk q ∧ fX5_areSo_2 n k (nI s) (fI kN) (fI wN) (nI q) (fI rc) (fI rh) (fI rk) (nI i) = some 1) ∨ (¬ aS kN wN s rc rh rk q ∧ fX5_areSo_2 n k (nI s) (fI kN) (fI wN) (nI q) (fI rc) (fI rh) (fI rk) (nI i) = some 0) := by
  obtain ⟨hq8, hrd⟩ := hR
  intro k
  induction k with
  | zero => intro i h1 h2; omega
  | succ k ih =>
    intro i h1 h2 hj
    rw [fX5_areSo_2]
    by_cases h : q ≤ i
    · have h3 : i = q := by omega
      subst h3
      left
      exact ⟨hj, if_pos (nI_le (Nat.le_refl _) (by omega))⟩
    · obtain ⟨r1, r2, r3⟩ := hrd i (by omega)
      have hwr := hw (rc i)
      simp only [if_neg (nI_ge (show i < q by omega) (show q < 2 ^ 31 by omega)), gd_in (show i < 8 by omega) (show 8 < 2 ^ 31 by decide), nI_clamp (show i < 2 ^ 31 by omega), e_wetBehind n hk hw hs (show rc i < 12 by omega) (show rh i ≤ 30 by omega), Option.bind_some, nI_1]
      have hno : ¬ (wN (rc i) ≤ rh i * losN (kN (rc i)) s ↔ rk i = 1) → ¬ aS kN wN s rc rh rk q := fun hne ha => hne (ha i (by omega))
      have hyes : (wN (rc i) ≤ rh i * losN (kN (rc i)) s ↔ rk i = 1) → ∀ j, j < i + 1 → (wN (rc j) ≤ rh j * losN (kN (rc j)) s ↔ rk j = 1) := fun hy j hji => by
        by_cases e : j = i
        · rw [e]; exact hy
        · exact hj j (by omega)
      by_cases hz : wN (rc i) ≤ rh i * losN (kN (rc i)) s
      · have hz0 : nI (wN (rc i) - rh i * losN (kN (rc i)) s) = 0 := by rw [show wN (rc i) - rh i * losN (kN (rc i)) s = 0 by omega]; rfl
        simp only [if_pos hz0]
        rcases (show rk i = 0 ∨ rk i = 1 by omega) with e | e
        · have e1 : ¬ (1 : Int32) = nI (rk i) := by rw [e]; decide
          simp only [if_neg e1]
          exact Or.inr ⟨hno (fun z => by have := z.mp hz; omega), trivial⟩
        · have e1 : (1 : Int32) = nI (rk i) := by rw [e]; rfl
          simp only [if_pos e1]
          exact ih (i + 1) (by omega) (by omega) (hyes ⟨fun _ => e, fun _ => hz⟩)
      · have hz0 : ¬ nI (wN (rc i) - rh i * losN (kN (rc i)) s) = 0 := fun z => by have := i_inj (a := wN (rc i) - rh i * losN (kN (rc i)) s) (b := 0) (by omega) (by decide) z; omega
        simp only [if_neg hz0]
        rcases (show rk i = 0 ∨ rk i = 1 by omega) with e | e
        · have e1 : (0 : Int32) = nI (rk i) := by rw [e]; rfl
          simp only [if_pos e1]
          exact ih (i + 1) (by omega) (by omega) (hyes ⟨fun z => absurd z hz, fun z => by omega⟩)
        · have e1 : ¬ (0 : Int32) = nI (rk i) := by rw [e]; decide
          simp only [if_neg e1]
          exact Or.inr ⟨hno (fun z => hz (z.mpr e)), trivial⟩
/-- both looks, at flats that agree below N -/
theorem so_or (n : Nat) (hn : 5000 ≤ n) {kN wN gk gw : Nat → Nat} {s N : Nat} (hk : ∀ i, kN i ≤ 2) (hw : ∀ i, wN i ≤ 9) (hgk : ∀ i, gk i ≤ 2) (hgw : ∀ i, gw i ≤ 9) (hs : s ≤ 9) (hN : N ≤ 12) (ek : ∀ i, i < N → gk i = kN i) (ew : ∀ i, i < N → gw i = wN i) {rc rh rk : Nat → Nat} {q : Nat} (hR : Rd rc rh rk q N) : (fX1_areSoIn n (fI rc) (fI rh) (fI rk) (nI q) (fI gk) (fI gw) (nI N) (nI s) = some 1 ∧ fX5_areSo n (nI s) (fI kN) (fI wN) (nI q) (fI rc) (fI rh) (fI rk) = some 1) ∨ (fX1_areSoIn n (fI rc) (fI rh) (fI rk) (nI q) (fI gk) (fI gw) (nI N) (nI s) = some 0 ∧ fX5_areSo n (nI s) (fI kN) (fI wN) (nI q) (fI rc) (fI rh) (fI rk) = some 0) := by
  have hq := hR.1
  have he : aS gk gw s rc rh rk q ↔ aS kN wN s rc rh rk q := by
    unfold aS
    constructor
    · intro h k hkq
      have := (hR.2 k hkq).1
      rw [← ek _ this, ← ew _ this]; exact h k hkq
    · intro h k hkq
      have := (hR.2 k hkq).1
      rw [ek _ this, ew _ this]; exact h k hkq
  unfold fX1_areSoIn fX5_areSo
  rw [show (0 : Int32) = nI 0 from rfl]
  rcases e_areSoIn n hgk hgw hs hN hR n 0 (Nat.zero_le _) (by omega) (fun j hj => absurd hj (Nat.not_lt_zero j)) with ⟨a1, a2⟩ | ⟨a1, a2⟩
  · rcases e_areSo n hk hw hs hN hR n 0 (Nat.zero_le _) (by omega) (fun j hj => absurd hj (Nat.not_lt_zero j)) with ⟨b1, b2⟩ | ⟨b1, b2⟩
    · exact Or.inl ⟨a2, b2⟩
    · exact absurd (he.mp a1) b1
  · rcases e_areSo n hk hw hs hN hR n 0 (Nat.zero_le _) (by omega) (fun j hj => absurd hj (Nat.not_lt_zero j)) with ⟨b1, b2⟩ | ⟨b1, b2⟩
    · exact absurd (he.mpr b1) a1
    · exact Or.inr ⟨a2, b2⟩
/-- a flat that becomes like another one: what both hold below i -/
def mixN (g f : Nat → Nat) (i : Nat) : Nat → Nat := fun j => if j < i then f j else g j
theorem mix_step (g f : Nat → Nat) (i : Nat) : upN (mixN g f i) i (f i) = mixN g f (i + 1) := by
  funext j
  unfold upN mixN
  by_cases h : j = i
  · subst h; rw [if_pos rfl, if_pos (by omega)]
  · rw [if_neg h]
    by_cases h2 : j < i
    · rw [if_pos h2, if_pos (by omega)]
    · rw [if_neg h2, if_neg (by omega)]
theorem mix_0 (g f : Nat → Nat) : mixN g f 0 = g := by funext j; exact if_neg (Nat.not_lt_zero j)
theorem mix_le {g f : Nat → Nat} {b i : Nat} (hg : ∀ i, g i ≤ b) (hf : ∀ i, f i ≤ b) : ∀ j, mixN g f i j ≤ b := by
  intro j
  unfold mixN
  split
  · exact hf j
  · exact hg j
theorem mix_in {g f : Nat → Nat} {i j : Nat} (h : j < i) : mixN g f i j = f j := if_pos h
theorem e_becomeLike_58 (n : Nat) {kN wN gk gw : Nat → Nat} {N : Nat} (a b s al fc lc : Int32) (hN : N ≤ 12) : ∀ (k i : Nat), i ≤ N → N < i + k → fX0_becomeLike_58 n k (fI (mixN gk kN i)) (fI (mixN gw wN i)) a b (nI N) s al fc lc (fI kN) (fI wN) a b (nI N) s al fc lc (nI i) = some (fI (mixN gk kN N), fI (mixN gw wN N), a, b, nI N, s, al, fc, lc) := by
  intro k
  induction k with
  | zero => intro i h1 h2; omega
  | succ k ih =>
    intro i h1 h2
    rw [fX0_becomeLike_58]
    by_cases h : N ≤ i
    · have h3 : i = N := by omega
      subst h3
      rw [if_pos (nI_le (Nat.le_refl _) (by omega))]
    · simp only [if_neg (nI_ge (show i < N by omega) (show N < 2 ^ 31 by omega)), gd_in (show i < 12 by omega) (show 12 < 2 ^ 31 by decide), nI_clamp (show i < 2 ^ 31 by omega), upd_fI, mix_step, nI_1]
      exact ih (i + 1) (by omega) (by omega)
theorem e_becomeLike (n : Nat) (hn : 5000 ≤ n) {kN wN gk gw : Nat → Nat} {N : Nat} (a b s al fc lc x1 x2 x3 x4 x5 x6 x7 : Int32) (hN : N ≤ 12) : fX0_becomeLike n (fI gk) (fI gw) x1 x2 x3 x4 x5 x6 x7 (fI kN) (fI wN) a b (nI N) s al fc lc = some (fI (mixN gk kN N), fI (mixN gw wN N), a, b, nI N, s, al, fc, lc) := by
  have h := e_becomeLike_58 (kN := kN) (wN := wN) (gk := gk) (gw := gw) n a b s al fc lc hN n 0 (Nat.zero_le _) (by omega)
  rw [mix_0, mix_0] at h
  exact h
theorem lit9 {t : Nat} (ht : t < 2 ^ 31) : ((9 : Int32) < nI t) ↔ 9 < t := nI_ltI (a := 9) (by decide) ht
theorem upN_upN (f : Nat → Nat) (c x y : Nat) : upN (upN f c x) c y = upN f c y := by
  funext i; unfold upN; split <;> rfl
theorem upN_self (f : Nat → Nat) (c : Nat) : upN f c (f c) = f := by
  funext i; unfold upN; split
  · rename_i h; rw [h]
  · rfl
theorem L_wets (n : Nat) (hn : 5000 ≤ n) {kN wN : Nat → Nat} {s w h : Nat} (hS : St kN wN s w h) {rc rh rk : Nat → Nat} {q : Nat} (hR : Rd rc rh rk q (w * h)) {gk gw : Nat → Nat} (hgk : ∀ i, gk i ≤ 2) (hgw : ∀ i, gw i ≤ 9) (x1 x2 x3 x4 x5 x6 x7 p1 : Int32) : ∃ r gk' gw' y1 y2 y3 y4 y5 y6 y7, fX4_wets n (fI kN) (fI wN) (nI w) (nI h) (nI (w * h)) (nI s) (nI (alN w h)) (nI (fcN w h)) (nI (lcN w h)) (fI gk) (fI gw) x1 x2 x3 x4 x5 x6 x7 (fI rc) (fI rh) (fI rk) (nI q) p1 = some (r, fI gk', fI gw', y1, y2, y3, y4, y5, y6, y7) ∧ fX5_wets n (nI s) (nI w) (nI h) (fI kN) (fI wN) (nI q) (fI rc) (fI rh) (fI rk) p1 = some (r, fI wN) ∧ (∀ i, gk' i ≤ 2) ∧ ∀ i, gw' i ≤ 9 := by
  obtain ⟨hk, hw, hs9, hsh⟩ := hS
  have hN := Sh0_N hsh
  unfold fX4_wets fX5_wets
  rcases isCell2 n hsh p1 with ⟨h4, h5⟩ | ⟨c, hc, rfl, h4, h5⟩
  · simp only [h4, h5, Option.bind_some, if00]; exact ⟨_, gk, gw, _, _, _, _, _, _, _, rfl, rfl, hgk, hgw⟩
  · simp only [h4, h5, Option.bind_some, if10, e_becomeLike n hn _ _ _ _ _ _ _ _ _ _ _ _ _ hN, gd_in (show c < 12 by omega) (show 12 < 2 ^ 31 by decide), nI_clamp (show c < 2 ^ 31 by omega)]
    have key : ∀ (k t : Nat) (a : Int32) (gw0 wN0 : Nat → Nat), t ≤ 10 → 10 < t + k → (∀ i, gw0 i ≤ 9) → (∀ i, i < w * h → i ≠ c → gw0 i = wN i) → (∀ i, wN0 i ≤ 9) → (∀ x, upN wN0 c x = upN wN c x) → ∃ r gw', fX4_wets_34 n k (fI kN) (fI wN) (nI w) (nI h) (nI (w * h)) (nI s) (nI (alN w h)) (nI (fcN w h)) (nI (lcN w h)) (fI (mixN gk kN (w * h))) (fI gw0) (nI w) (nI h) (nI (w * h)) (nI s) (nI (alN w h)) (nI (fcN w h)) (nI (lcN w h)) (fI rc) (fI rh) (fI rk) (nI q) (nI c) a (nI t) = some (r, fI (mixN gk kN (w * h)), fI gw', nI w, nI h, nI (w * h), nI s, nI (alN w h), nI (fcN w h), nI (lcN w h)) ∧ fX5_wets_22 n k (nI s) (nI w) (nI h) (fI kN) (fI wN0) (nI q) (fI rc) (fI rh) (fI rk) (nI c) (nI (wN c)) a (nI t) = some (r, fI wN) ∧ ∀ i, gw' i ≤ 9 := by
      intro k
      induction k with
      | zero => intro t a gw0 wN0 h1 h2; omega
      | succ k ih =>
        intro t a gw0 wN0 h1 h2 hg hge hw0 hwe
        rw [fX4_wets_34, fX5_wets_22]
        by_cases hb : 9 < t
        · simp only [if_pos ((lit9 (show t < 2 ^ 31 by omega)).mpr hb), gd_in (show c < 12 by omega) (show 12 < 2 ^ 31 by decide), nI_clamp (show c < 2 ^ 31 by omega), upd_fI, hwe, upN_self]
          exact ⟨_, gw0, rfl, rfl, hg⟩
        · simp only [if_neg (fun z => hb ((lit9 (show t < 2 ^ 31 by omega)).mp z)), gd_in (show c < 12 by omega) (show 12 < 2 ^ 31 by decide), nI_clamp (show c < 2 ^ 31 by omega), upd_fI, hwe, nI_1]
          have hgu : ∀ i, upN gw0 c t i ≤ 9 := upN_le hg (by omega)
          have hwu : ∀ i, upN wN c t i ≤ 9 := upN_le hw (by omega)
          have hnext : ∀ a', ∃ r gw', _ := fun a' => ih (t + 1) a' (upN gw0 c t) (upN wN c t) (by omega) (by omega) hgu (fun i hi hic => by unfold upN; rw [if_neg hic]; exact hge i hi hic) hwu (fun x => upN_upN _ _ _ _)
          rcases so_or (kN := kN) (wN := upN wN c t) (gk := mixN gk kN (w * h)) (gw := upN gw0 c t) n hn hk hwu (mix_le hgk hk) hgu hs9 hN (fun i hi => mix_in hi) (fun i hi => by
            unfold upN
            by_cases e : i = c
            · rw [if_pos e, if_pos e]
            · rw [if_neg e, if_neg e]; exact hge i hi e) hR with ⟨a1, a2⟩ | ⟨a1, a2⟩
          · simp only [a1, a2, Option.bind_some, if10]
            exact hnext _
          · simp only [a1, a2, Option.bind_some, if00, Int32.or_zero]
            exact hnext _
    obtain ⟨r, gw', e1, e2, e3⟩ := key n 0 0 (mixN gw wN (w * h)) wN (by omega) (by omega) (mix_le hgw hw) (fun i hi _ => mix_in hi) hw (fun _ => rfl)
    exact ⟨r, mixN gk kN (w * h), gw', _, _, _, _, _, _, _, e1, e2, mix_le hgk hk, e3⟩
