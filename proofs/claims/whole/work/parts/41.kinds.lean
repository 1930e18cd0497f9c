/-! kinds, suns -/
theorem ltw2 {t : Nat} (ht : t < 2 ^ 31) : ((2 : Int32) < nI t) ↔ 2 < t := nI_ltI (a := 2) (by decide) ht
theorem lew3 {t : Nat} (ht : t < 2 ^ 31) : ((3 : Int32) ≤ nI t) ↔ 3 ≤ t := nI_leI (a := 3) (by decide) ht
theorem L_kinds (n : Nat) (hn : 5000 ≤ n) {kN wN : Nat → Nat} {s w h : Nat} (hS : St kN wN s w h) {rc rh rk : Nat → Nat} {q : Nat} (hR : Rd rc rh rk q (w * h)) {gk gw : Nat → Nat} (hgk : ∀ i, gk i ≤ 2) (hgw : ∀ i, gw i ≤ 9) (x1 x2 x3 x4 x5 x6 x7 p1 : Int32) : ∃ r gk' gw' y1 y2 y3 y4 y5 y6 y7, fX4_kinds n (fI kN) (fI wN) (nI w) (nI h) (nI (w * h)) (nI s) (nI (alN w h)) (nI (fcN w h)) (nI (lcN w h)) (fI gk) (fI gw) x1 x2 x3 x4 x5 x6 x7 (fI rc) (fI rh) (fI rk) (nI q) p1 = some (r, fI gk', fI gw', y1, y2, y3, y4, y5, y6, y7) ∧ fX5_kinds n (nI s) (nI w) (nI h) (fI kN) (fI wN) (nI q) (fI rc) (fI rh) (fI rk) p1 = some (r, fI kN) ∧ (∀ i, gk' i ≤ 2) ∧ ∀ i, gw' i ≤ 9 := by
  obtain ⟨hk, hw, hs9, hsh⟩ := hS
  have hN := Sh0_N hsh
  unfold fX4_kinds fX5_kinds
  rcases isCell2 n hsh p1 with ⟨h4, h5⟩ | ⟨c, hc, rfl, h4, h5⟩
  · simp only [h4, h5, Option.bind_some, if00]; exact ⟨_, gk, gw, _, _, _, _, _, _, _, rfl, rfl, hgk, hgw⟩
  · simp only [h4, h5, Option.bind_some, if10, e_becomeLike n hn _ _ _ _ _ _ _ _ _ _ _ _ _ hN, gd_in (show c < 12 by omega) (show 12 < 2 ^ 31 by decide), nI_clamp (show c < 2 ^ 31 by omega)]
    have key : ∀ (k t : Nat) (a : Int32) (gk0 kN0 : Nat → Nat), t ≤ 3 → 3 < t + k → (∀ i, gk0 i ≤ 2) → (∀ i, i < w * h → i ≠ c → gk0 i = kN i) → (∀ i, kN0 i ≤ 2) → (∀ x, upN kN0 c x = upN kN c x) → ∃ r gk', fX4_kinds_34 n k (fI kN) (fI wN) (nI w) (nI h) (nI (w * h)) (nI s) (nI (alN w h)) (nI (fcN w h)) (nI (lcN w h)) (fI gk0) (fI (mixN gw wN (w * h))) (nI w) (nI h) (nI (w * h)) (nI s) (nI (alN w h)) (nI (fcN w h)) (nI (lcN w h)) (fI rc) (fI rh) (fI rk) (nI q) (nI c) a (nI t) = some (r, fI gk', fI (mixN gw wN (w * h)), nI w, nI h, nI (w * h), nI s, nI (alN w h), nI (fcN w h), nI (lcN w h)) ∧ fX5_kinds_22 n k (nI s) (nI w) (nI h) (fI kN0) (fI wN) (nI q) (fI rc) (fI rh) (fI rk) (nI c) (nI (kN c)) a (nI t) = some (r, fI kN) ∧ ∀ i, gk' i ≤ 2 := by
      intro k
      induction k with
      | zero => intro t a gk0 kN0 h1 h2; omega
      | succ k ih =>
        intro t a gk0 kN0 h1 h2 hg hge hw0 hwe
        rw [fX4_kinds_34, fX5_kinds_22]
        by_cases hb : 2 < t
        · simp only [if_pos ((ltw2 (show t < 2 ^ 31 by omega)).mpr hb), if_pos ((lew3 (show t < 2 ^ 31 by omega)).mpr (show 3 ≤ t by omega)), gd_in (show c < 12 by omega) (show 12 < 2 ^ 31 by decide), nI_clamp (show c < 2 ^ 31 by omega), upd_fI, hwe, upN_self]
          exact ⟨_, gk0, rfl, rfl, hg⟩
        · simp only [if_neg (fun z => hb ((ltw2 (show t < 2 ^ 31 by omega)).mp z)), if_neg (fun z => hb (show 2 < t from (lew3 (show t < 2 ^ 31 by omega)).mp z)), gd_in (show c < 12 by omega) (show 12 < 2 ^ 31 by decide), nI_clamp (show c < 2 ^ 31 by omega), upd_fI, hwe, nI_1]
          have hgu : ∀ i, upN gk0 c t i ≤ 2 := upN_le hg (by omega)
          have hwu : ∀ i, upN kN c t i ≤ 2 := upN_le hk (by omega)
          have hnext : ∀ a', ∃ r gk', _ := fun a' => ih (t + 1) a' (upN gk0 c t) (upN kN c t) (by omega) (by omega) hgu (fun i hi hic => by unfold upN; rw [if_neg hic]; exact hge i hi hic) hwu (fun x => upN_upN _ _ _ _)
          rcases so_or (kN := upN kN c t) (wN := wN) (gk := upN gk0 c t) (gw := mixN gw wN (w * h)) n hn hwu hw hgu (mix_le hgw hw) hs9 hN (fun i hi => by
            unfold upN
            by_cases e : i = c
            · rw [if_pos e, if_pos e]
            · rw [if_neg e, if_neg e]; exact hge i hi e) (fun i hi => mix_in hi) hR with ⟨a1, a2⟩ | ⟨a1, a2⟩
          · simp only [a1, a2, Option.bind_some, if10]
            exact hnext _
          · simp only [a1, a2, Option.bind_some, if00, Int32.or_zero]
            exact hnext _
    obtain ⟨r, gk', e1, e2, e3⟩ := key n 0 0 (mixN gk kN (w * h)) kN (by omega) (by omega) (mix_le hgk hk) (fun i hi _ => mix_in hi) hk (fun _ => rfl)
    exact ⟨r, gk', mixN gw wN (w * h), _, _, _, _, _, _, _, e1, e2, e3, mix_le hgw hw⟩
theorem L_suns (n : Nat) (hn : 5000 ≤ n) {kN wN : Nat → Nat} {s w h : Nat} (hS : St kN wN s w h) {rc rh rk : Nat → Nat} {q : Nat} (hR : Rd rc rh rk q (w * h)) {gk gw : Nat → Nat} (hgk : ∀ i, gk i ≤ 2) (hgw : ∀ i, gw i ≤ 9) (x1 x2 x3 x4 x5 x6 x7 : Int32) : ∃ r gk' gw' y1 y2 y3 y4 y5 y6 y7, fX4_suns n (fI kN) (fI wN) (nI w) (nI h) (nI (w * h)) (nI s) (nI (alN w h)) (nI (fcN w h)) (nI (lcN w h)) (fI gk) (fI gw) x1 x2 x3 x4 x5 x6 x7 (fI rc) (fI rh) (fI rk) (nI q) = some (r, fI gk', fI gw', y1, y2, y3, y4, y5, y6, y7) ∧ fX5_suns n (nI s) (nI w) (fI kN) (fI wN) (nI q) (fI rc) (fI rh) (fI rk) = some (r, nI s) ∧ (∀ i, gk' i ≤ 2) ∧ ∀ i, gw' i ≤ 9 := by
  obtain ⟨hk, hw, hs9, hsh⟩ := hS
  have hN := Sh0_N hsh
  unfold fX4_suns fX5_suns
  rcases there n hsh with ⟨-, -, h1, h2⟩ | ⟨hs, h1, h2⟩
  · simp only [h1, if_pos h2, Option.bind_some, if00]; exact ⟨_, gk, gw, _, _, _, _, _, _, _, rfl, rfl, hgk, hgw⟩
  · simp only [h1, if_neg h2, Option.bind_some, if10, e_becomeLike n hn _ _ _ _ _ _ _ _ _ _ _ _ _ hN]
    have key : ∀ (k t : Nat) (a s0 s1 : Int32), t ≤ 10 → 10 < t + k → ∃ r s', fX4_suns_33 n k (fI kN) (fI wN) (nI w) (nI h) (nI (w * h)) (nI s) (nI (alN w h)) (nI (fcN w h)) (nI (lcN w h)) (fI (mixN gk kN (w * h))) (fI (mixN gw wN (w * h))) (nI w) (nI h) (nI (w * h)) s0 (nI (alN w h)) (nI (fcN w h)) (nI (lcN w h)) (fI rc) (fI rh) (fI rk) (nI q) a (nI t) = some (r, fI (mixN gk kN (w * h)), fI (mixN gw wN (w * h)), nI w, nI h, nI (w * h), s', nI (alN w h), nI (fcN w h), nI (lcN w h)) ∧ fX5_suns_19 n k s1 (nI w) (fI kN) (fI wN) (nI q) (fI rc) (fI rh) (fI rk) (nI s) a (nI t) = some (r, nI s) := by
      intro k
      induction k with
      | zero => intro t a s0 s1 h1 h2; omega
      | succ k ih =>
        intro t a s0 s1 h1 h2
        rw [fX4_suns_33, fX5_suns_19]
        by_cases hb : 9 < t
        · simp only [if_pos ((lit9 (show t < 2 ^ 31 by omega)).mpr hb)]
          exact ⟨_, s0, rfl, rfl⟩
        · simp only [if_neg (fun z => hb ((lit9 (show t < 2 ^ 31 by omega)).mp z)), nI_1]
          have hnext : ∀ a', ∃ r s', _ := fun a' => ih (t + 1) a' (nI t) (nI t) (by omega) (by omega)
          rcases so_or (kN := kN) (wN := wN) (gk := mixN gk kN (w * h)) (gw := mixN gw wN (w * h)) (s := t) n hn hk hw (mix_le hgk hk) (mix_le hgw hw) (by omega) hN (fun i hi => mix_in hi) (fun i hi => mix_in hi) hR with ⟨a1, a2⟩ | ⟨a1, a2⟩
          · simp only [a1, a2, Option.bind_some, if10]
            exact hnext _
          · simp only [a1, a2, Option.bind_some, if00, Int32.or_zero]
            exact hnext _
    obtain ⟨r, s', e1, e2⟩ := key n 0 0 (nI s) (nI s) (by omega) (by omega)
    exact ⟨r, mixN gk kN (w * h), mixN gw wN (w * h), _, _, _, _, _, _, _, e1, e2, mix_le hgk hk, mix_le hgw hw⟩
