/-! a bay by a text -/
def kbl (x : Int32) : Int32 := if x = 99 then 2 else if x = 109 then 0 else if x = 115 then 1 else -9
theorem e_kbl (n : Nat) (x : Int32) : fX4_kindByLetter n x = some (kbl x) := by
  unfold fX4_kindByLetter kbl
  split
  · rfl
  · split
    · rfl
    · split <;> rfl
theorem kbl_or (x : Int32) : kbl x = -9 ∨ ∃ a, a ≤ 2 ∧ kbl x = nI a := by
  unfold kbl
  split
  · exact Or.inr ⟨2, by decide, rfl⟩
  · split
    · exact Or.inr ⟨0, by decide, rfl⟩
    · split
      · exact Or.inr ⟨1, by decide, rfl⟩
      · exact Or.inl rfl
theorem e_codeAt (n : Nat) {row : Nat → Int32} {L x : Nat} (hL : L ≤ 60) (hx : x < L) : fX2_codeAt n row (nI L) (nI x) = some (row x) := by
  unfold fX2_codeAt
  rcases place_or n hL (nI x) with ⟨h4, h5⟩ | ⟨i, hi, e, h4, h5⟩
  · exfalso
    unfold fX2_hasPlace at h4
    rw [if_neg (nI_pos (by omega)), if_neg (nI_ge hx (by omega))] at h4
    exact absurd h4 (by decide)
  · rw [h4, Option.bind_some, if10, gd_in (by omega) (by decide), nI_clamp (by omega)]
/-- the ways of a code that should be a digit between lo and hi -/
theorem dg_or (n : Nat) {A B A' B' : Int32} {lo hi : Nat} (hA : A = nI (48 + lo)) (hB : B = nI (48 + hi)) (hA' : A' = nI (48 + lo)) (hB' : B' = nI (48 + hi)) (hlo : lo ≤ 9) (hhi : hi ≤ 9) (v : Int32) : (fX4_within n v A B = some 0 ∧ fX5_within n v A' B' = some 0) ∨ ∃ j, lo ≤ j ∧ j ≤ hi ∧ v = nI (48 + j) ∧ fX4_within n v A B = some 1 ∧ fX5_within n v A' B' = some 1 := by
  subst hA; subst hB; subst hA'; subst hB'
  rcases within_or n (A := nI (48 + lo)) (B := nI (48 + hi)) rfl rfl (by omega) (by omega) v with h | ⟨x, h1, h2, rfl, h3⟩
  · exact Or.inl h
  · exact Or.inr ⟨x - 48, by omega, by omega, by rw [show 48 + (x - 48) = x by omega], h3⟩
theorem e_digit (n : Nat) {mc : Nat → Int32} {at_ e : Nat} (hat0 : at_ < 2 ^ 31) (hat : at_ < e → at_ < 240) (he : e < 2 ^ 31) (A B : Int32) : fX5_digit n mc (nI at_) (nI e) A B = if e ≤ at_ then some ((-9 : Int32), nI at_) else (fX5_within n (mc at_) ((48 : Int32) + A) ((48 : Int32) + B)).bind fun q => if q = 0 then some ((-9 : Int32), nI at_) else some (mc at_ - (48 : Int32), nI (at_ + 1)) := by
  unfold fX5_digit
  have h1 : nI at_ + (1 : Int32) - (1 : Int32) = nI at_ := by rw [nI_1, show (1 : Int32) = nI 1 from rfl, pk_sub (by omega)]; rfl
  by_cases h : e ≤ at_
  · rw [if_pos (nI_le h (by omega)), if_pos h]
  · rw [if_neg (nI_ge (by omega) he), if_neg h, h1, gd_in (hat (by omega)) (by decide), gd_in (hat (by omega)) (by decide), nI_clamp (by omega), nI_1]
theorem sub48 (j : Nat) : nI (48 + j) - (48 : Int32) = nI j := by rw [show (48 : Int32) = nI 48 from rfl, pk_sub (by omega), show 48 + j - 48 = j by omega]
section BAY
variable {n : Nat} {row mc : Nat → Int32} {L i m b : Nat}
theorem e_digitAt (n : Nat) (hL : L ≤ 60) {x : Nat} (hx : x < L) : fX4_digitAt n row (nI L) (nI x) = some (row x - (48 : Int32)) := by
  unfold fX4_digitAt
  rw [e_codeAt n hL hx, Option.bind_some]
theorem e_lengthOfText (n : Nat) (hL : L ≤ 60) (hx : i + 3 < L) {w h : Nat} (hw : row (i + 2) = nI (48 + w)) (hh : row (i + 3) = nI (48 + h)) : fX4_lengthOfText n row (nI L) (nI i) = some (nI (4 + 2 * (w * h))) := by
  unfold fX4_lengthOfText
  rw [show nI i + (2 : Int32) = nI (i + 2) from nI_add i 2, show nI i + (3 : Int32) = nI (i + 3) from nI_add i 3, e_digitAt n hL (by omega), Option.bind_some, e_digitAt n hL (by omega), Option.bind_some, hw, hh, sub48, sub48, show (4 : Int32) = nI 4 from rfl, show (2 : Int32) = nI 2 from rfl, pk_mul, pk_mul, nI_add, Nat.mul_assoc]
theorem ff_step (hL : L ≤ 60) (hm : i + m ≤ L) {p k : Nat} (hp : p < m) (v : Int32) (hg : fX4_goesOn n row (nI L) (nI i) (nI p) = some v) : fX4_firstFault_2 n (k + 1) row (nI L) (nI i) (nI m) (nI p) = if v = 0 then some (nI p) else fX4_firstFault_2 n k row (nI L) (nI i) (nI m) (nI (p + 1)) := by
  rw [fX4_firstFault_2, if_neg (nI_ge hp (by omega)), hg, Option.bind_some, nI_1]
theorem ff_short (hL : L ≤ 60) (hm : i + m ≤ L) (h4 : m < 4) {k : Nat} : fX4_firstFault_2 n (k + 1) row (nI L) (nI i) (nI m) (nI m) = some (nI m) := by
  rw [fX4_firstFault_2, if_pos (nI_le (Nat.le_refl m) (by omega)), if_pos (show nI m < (4 : Int32) from nI_lt (b := 4) h4 (by decide))]
theorem ff_end (hL : L ≤ 60) (hm : i + m ≤ L) (h4 : 4 ≤ m) {k w h : Nat} (hw : row (i + 2) = nI (48 + w)) (hh : row (i + 3) = nI (48 + h)) (hl : 4 + 2 * (w * h) < 1000) : fX4_firstFault_2 n (k + 1) row (nI L) (nI i) (nI m) (nI m) = if m = 4 + 2 * (w * h) then some (-9 : Int32) else some (nI m) := by
  rw [fX4_firstFault_2, if_pos (nI_le (Nat.le_refl m) (by omega)), if_neg (show ¬ nI m < (4 : Int32) from nI_nlt (b := 4) h4 (by omega)), e_lengthOfText n hL (by omega) hw hh, Option.bind_some]
  by_cases e : m = 4 + 2 * (w * h)
  · rw [if_pos (by rw [e]), if_pos e]
  · rw [if_neg (fun z => e (i_inj (by omega) (by omega) z)), if_neg e]
theorem go_code (hL : L ≤ 60) (hm : i + m ≤ L) {p : Nat} (hp : p < m) : fX2_codeAt n row (nI L) (nI i + nI p) = some (row (i + p)) := by rw [nI_add, e_codeAt n hL (by omega)]
theorem go_far (hL : L ≤ 60) (hm : i + m ≤ L) {p : Nat} (hp : p < m) (h4 : 4 ≤ p) {w h : Nat} (hw : row (i + 2) = nI (48 + w)) (hh : row (i + 3) = nI (48 + h)) (hl : 4 + 2 * (w * h) < 1000) : fX4_goesOn n row (nI L) (nI i) (nI p) = if p < 4 + 2 * (w * h) then (if p % 2 = 0 then (if kbl (row (i + p)) = (-9 : Int32) then some 0 else some 1) else fX4_within n (row (i + p)) 48 57) else some 0 := by
  unfold fX4_goesOn
  have e0 : ¬ nI p = 0 := fun z => by have := i_inj (a := p) (b := 0) (by omega) (by decide) z; omega
  have e1 : ¬ nI p = 1 := fun z => by have := i_inj (a := p) (b := 1) (by omega) (by decide) z; omega
  have e2 : ¬ nI p = 2 := fun z => by have := i_inj (a := p) (b := 2) (by omega) (by decide) z; omega
  have e3 : ¬ nI p = 3 := fun z => by have := i_inj (a := p) (b := 3) (by omega) (by decide) z; omega
  simp only [go_code hL hm hp, Option.bind_some, if_neg e0, if_neg e1, if_neg e2, if_neg e3, e_lengthOfText n hL (show i + 3 < L by omega) hw hh, e_kbl]
  by_cases hlt : p < 4 + 2 * (w * h)
  · simp only [if_pos (nI_lt hlt (show 4 + 2 * (w * h) < 2 ^ 31 by omega)), if_pos hlt]
    have ea : nI p &&& (1 : Int32) = nI (p % 2) := by rw [show (1 : Int32) = nI 1 from rfl, i_and, Nat.and_one_is_mod]
    rw [ea]
    by_cases hev : p % 2 = 0
    · rw [if_pos (by rw [hev]; rfl), if_pos hev]
    · rw [if_neg (show ¬ nI (p % 2) = 0 from fun z => hev (i_inj (b := 0) (by omega) (by decide) z)), if_neg hev]
      rcases within_or n (A := 48) (B := 57) (a := 48) (b := 57) rfl rfl (by decide) (by decide) (row (i + p)) with ⟨q, -⟩ | ⟨_, _, _, _, q, -⟩
      · rw [q]; rfl
      · rw [q]; rfl
  · rw [if_neg (nI_nlt (by omega) (by omega)), if_neg hlt]
/-- one cell read by the reference -/
theorem e_readCell {c e at_ : Nat} (hc : c < 12) (hat0 : at_ < 2 ^ 31) (hat : at_ < e → at_ < 240) (he : e < 2 ^ 31) (rk rw_ : Nat → Int32) : fX5_readCell n mc (nI at_) rk rw_ (nI e) (nI c) =
    (if e ≤ at_ ∨ kbl (mc at_) = (-9 : Int32) then some ((0 : Int32), nI at_, upd rk c (-9), rw_) else (fX5_digit n mc (nI (at_ + 1)) (nI e) 0 9).bind fun q => if q.1 = (-9 : Int32) then some ((0 : Int32), q.2, upd rk c (kbl (mc at_)), upd rw_ c q.1) else some ((1 : Int32), q.2, upd rk c (kbl (mc at_)), upd rw_ c q.1)) := by
  have h21 : ∀ y0 : Int32, fX5_readCell_21 n mc (nI at_) rk rw_ (nI e) (nI c) y0 = fX5_readCell_59 n mc (nI at_) rk rw_ (nI e) (nI c) (kbl y0) (nI c) := by
    intro y0
    unfold fX5_readCell_21 kbl
    by_cases h1 : y0 = 109
    · subst h1; rfl
    · by_cases h2 : y0 = 115
      · subst h2; rfl
      · by_cases h3 : y0 = 99
        · subst h3; rfl
        · rw [if_neg h1, if_neg h2, if_neg h3, if_neg h3, if_neg h1, if_neg h2]
  unfold fX5_readCell
  rw [h21, h21]
  unfold fX5_readCell_59
  simp only [gd_in hc (show 12 < 2 ^ 31 by decide), nI_clamp (show c < 2 ^ 31 by omega), ud_eq, nI_1, nI_clamp hat0]
  by_cases h : e ≤ at_
  · rw [if_pos (nI_le h (by omega)), if_pos (show kbl 0 = (-9 : Int32) from rfl), if_pos (Or.inl h)]; rfl
  · rw [if_neg (nI_ge (by omega) he), gd_in (hat (by omega)) (by decide)]
    by_cases hk : kbl (mc at_) = (-9 : Int32)
    · rw [if_pos hk, if_pos (Or.inr hk), hk]
    · rw [if_neg hk, if_neg (by rintro (z | z); exact h z; exact hk z)]
/-- the cells: class and reference side by side -/
theorem cells_go (hL : L ≤ 60) (hm : i + m ≤ L) (hb : b + 60 ≤ 240) (hrow : ∀ x, x < 60 → row x = mc (b + x)) {w h : Nat} (hs : Sh w h) (hw : row (i + 2) = nI (48 + w)) (hh : row (i + 3) = nI (48 + h)) (su : Int32) : ∀ (j c k1 k2 : Nat) (rk rw_ : Nat → Int32), c + j = w * h → 4 + 2 * c ≤ m → m < 4 + 2 * c + k1 → j < k2 → (∀ d, d < c → rk d = kbl (row (i + (4 + 2 * d))) ∧ rw_ d = row (i + (5 + 2 * d)) - 48 ∧ (∃ a, a ≤ 2 ∧ rk d = nI a) ∧ ∃ a, a ≤ 9 ∧ rw_ d = nI a) →
    (∃ (f : Nat) (rk' rw' : Nat → Int32), fX4_firstFault_2 n k1 row (nI L) (nI i) (nI m) (nI (4 + 2 * c)) = some (nI f) ∧ f < 1000 ∧ fX5_readBay_103 n k2 mc (nI (b + i + (4 + 2 * c))) su (nI w) (nI h) rk rw_ (nI (b + i + m)) (nI c) = some ((0 : Int32), nI (b + i + f), su, nI w, nI h, rk', rw')) ∨
    (∃ (rk' rw' : Nat → Int32), fX4_firstFault_2 n k1 row (nI L) (nI i) (nI m) (nI (4 + 2 * c)) = some (-9 : Int32) ∧ m = 4 + 2 * (w * h) ∧ fX5_readBay_103 n k2 mc (nI (b + i + (4 + 2 * c))) su (nI w) (nI h) rk rw_ (nI (b + i + m)) (nI c) = some ((1 : Int32), nI (b + i + m), su, nI w, nI h, rk', rw') ∧ ∀ d, d < w * h → rk' d = kbl (row (i + (4 + 2 * d))) ∧ rw' d = row (i + (5 + 2 * d)) - 48 ∧ (∃ a, a ≤ 2 ∧ rk' d = nI a) ∧ ∃ a, a ≤ 9 ∧ rw' d = nI a) := by
  obtain ⟨hN, hN4, -⟩ := Sh_lt hs
  intro j
  induction j with
  | zero =>
    intro c k1 k2 rk rw_ hc h1 h2 h3 hd
    have hce : c = w * h := by omega
    subst hce
    obtain ⟨k1, rfl⟩ : ∃ k, k1 = k + 1 := ⟨k1 - 1, by omega⟩
    obtain ⟨k2, rfl⟩ : ∃ k, k2 = k + 1 := ⟨k2 - 1, by omega⟩
    rw [fX5_readBay_103, pk_mul, if_pos (nI_le (Nat.le_refl _) (by omega))]
    by_cases hme : m = 4 + 2 * (w * h)
    · right
      refine ⟨rk, rw_, ?_, hme, ?_, hd⟩
      · rw [show 4 + 2 * (w * h) = m from hme.symm, ff_end hL hm (by omega) hw hh (by omega), if_pos hme]
      · rw [if_pos (by rw [hme]), hme]
    · left
      refine ⟨4 + 2 * (w * h), rk, rw_, ?_, by omega, ?_⟩
      · rw [ff_step (v := 0) hL hm (by omega) (by rw [go_far hL hm (by omega) (by omega) hw hh (by omega), if_neg (by omega)]), if_pos rfl]
      · rw [if_neg (fun z => hme (by have := i_inj (a := b + i + (4 + 2 * (w * h))) (b := b + i + m) (by omega) (by omega) z; omega))]
  | succ j ih =>
    intro c k1 k2 rk rw_ hc h1 h2 h3 hd
    obtain ⟨k2, rfl⟩ : ∃ k, k2 = k + 1 := ⟨k2 - 1, by omega⟩
    obtain ⟨k1, rfl⟩ : ∃ k, k1 = k + 1 := ⟨k1 - 1, by omega⟩
    rw [fX5_readBay_103, pk_mul, if_neg (nI_ge (show c < w * h by omega) (by omega)), e_readCell (by omega) (by omega) (by omega) (by omega)]
    by_cases hend : m = 4 + 2 * c
    · left
      rw [if_pos (Or.inl (by omega)), Option.bind_some, if_pos rfl]
      refine ⟨m, _, _, ?_, by omega, by rw [hend]⟩
      rw [← hend, ff_end hL hm (by omega) hw hh (by omega), if_neg (by omega)]
    · have hr1 : mc (b + i + (4 + 2 * c)) = row (i + (4 + 2 * c)) := by rw [hrow _ (by omega), Nat.add_assoc]
      rw [hr1]
      have hg := go_far (n := n) hL hm (p := 4 + 2 * c) (by omega) (by omega) hw hh (by omega)
      rw [if_pos (by omega), if_pos (by omega)] at hg
      by_cases hk : kbl (row (i + (4 + 2 * c))) = (-9 : Int32)
      · left
        rw [if_pos hk] at hg
        rw [if_pos (Or.inr hk), Option.bind_some, if_pos rfl]
        refine ⟨4 + 2 * c, _, _, ?_, by omega, rfl⟩
        rw [ff_step hL hm (by omega) 0 hg, if_pos rfl]
      · rw [if_neg hk] at hg
        rw [if_neg (by rintro (z | z); omega; exact hk z), e_digit n (by omega) (by omega) (by omega), ff_step hL hm (by omega) 1 hg, if10]
        obtain ⟨k1, rfl⟩ : ∃ k, k1 = k + 1 := ⟨k1 - 1, by omega⟩
        rw [show 4 + 2 * c + 1 = 5 + 2 * c by omega, show b + i + (4 + 2 * c) + 1 = b + i + (5 + 2 * c) by omega]
        by_cases hend2 : m = 5 + 2 * c
        · left
          rw [if_pos (by omega), Option.bind_some, if_pos rfl, Option.bind_some, if_pos rfl]
          refine ⟨m, _, _, ?_, by omega, by rw [hend2]⟩
          rw [← hend2, ff_end hL hm (by omega) hw hh (by omega), if_neg (by omega)]
        · have hr2 : mc (b + i + (5 + 2 * c)) = row (i + (5 + 2 * c)) := by rw [hrow _ (by omega), Nat.add_assoc]
          have hg2 := go_far (n := n) hL hm (p := 5 + 2 * c) (by omega) (by omega) hw hh (by omega)
          rw [if_pos (by omega), if_neg (by omega)] at hg2
          rw [if_neg (by omega), hr2]
          rcases dg_or n (A := 48) (B := 57) (A' := (48 : Int32) + 0) (B' := (48 : Int32) + 9) (lo := 0) (hi := 9) rfl rfl (by decide) (by decide) (by decide) (by decide) (row (i + (5 + 2 * c))) with ⟨d4, d5⟩ | ⟨v, -, hv, ev, d4, d5⟩
          · left
            rw [d4] at hg2
            rw [d5, Option.bind_some, if00, Option.bind_some, if_pos rfl, Option.bind_some, if_pos rfl]
            refine ⟨5 + 2 * c, _, _, ?_, by omega, rfl⟩
            rw [ff_step hL hm (by omega) 0 hg2, if_pos rfl]
          · rw [d4] at hg2
            have hv9 : ¬ row (i + (5 + 2 * c)) - (48 : Int32) = (-9 : Int32) := by rw [ev, sub48]; exact nI_ne_m9 (by omega)
            rw [d5, Option.bind_some, if10, Option.bind_some, if_neg hv9, Option.bind_some, if10, ff_step hL hm (by omega) 1 hg2, if10]
            rw [show 5 + 2 * c + 1 = 4 + 2 * (c + 1) by omega, show b + i + (5 + 2 * c) + 1 = b + i + (4 + 2 * (c + 1)) by omega, nI_1]
            refine ih (c + 1) k1 k2 (upd rk c (kbl (row (i + (4 + 2 * c))))) (upd rw_ c (row (i + (5 + 2 * c)) - 48)) (by omega) (by omega) (by omega) (by omega) (fun d hdc => ?_)
            by_cases e : d = c
            · subst e
              rw [ud_eq, ud_eq]
              refine ⟨rfl, rfl, ?_, v, hv, by rw [ev, sub48]⟩
              rcases kbl_or (row (i + (4 + 2 * d))) with z | z
              · exact absurd z hk
              · exact z
            · rw [ud_ne e, ud_ne e]
              exact hd d (by omega)
end BAY
