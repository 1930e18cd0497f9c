/-! pieces: the class takes them out one by one, the reference looks for each piece's first cell -/
theorem cks {w h : Nat} (hs : Sh w h) : ((List.range (w * h)).all fun c => (List.range (w * h)).all fun d => (mkN w h c).testBit d == (mkN w h d).testBit c) = true :=
  Sh_elim (P := fun w h => ((List.range (w * h)).all fun c => (List.range (w * h)).all fun d => (mkN w h c).testBit d == (mkN w h d).testBit c) = true) (by decide +kernel) (by decide +kernel) (by decide +kernel) (by decide +kernel) (by decide +kernel) (by decide +kernel) hs
theorem mk_sym {w h c d : Nat} (hs : Sh w h) (hc : c < w * h) (hd : d < w * h) (hq : (mkN w h c).testBit d = true) : (mkN w h d).testBit c = true := by
  have h1 := List.all_eq_true.mp (cks hs) c (List.mem_range.mpr hc)
  have h2 := eq_of_beq (List.all_eq_true.mp h1 d (List.mem_range.mpr hd))
  rw [← h2]; exact hq
theorem bes_ex {w h T y : Nat} (hs : Sh w h) (hT : T < 2 ^ (w * h)) (hy : y < w * h) : (besN w h T).testBit y = true ↔ ∃ x, (mkN w h y).testBit x = true ∧ T.testBit x = true := by
  rw [bes_mk hs hT hy, decide_eq_true_iff]
  exact and_ne
theorem lt_of_tb {T k x : Nat} (hT : T < 2 ^ k) (h : T.testBit x = true) : x < k := by
  rcases Nat.lt_or_ge x k with q | q
  · exact q
  · rw [tb_lt hT q] at h; cases h
theorem bit_and {W c i : Nat} : (2 ^ c &&& W).testBit i = (decide (c = i) && W.testBit i) := by rw [Nat.testBit_and, Nat.testBit_two_pow]
theorem seed_sb {W c T : Nat} (h : W.testBit c = true → T.testBit c = true) : sb (2 ^ c &&& W) T := by
  intro i hi
  rw [bit_and, Bool.and_eq_true, decide_eq_true_iff] at hi
  obtain ⟨rfl, h2⟩ := hi
  exact h h2
section PCS
variable {w h W c d : Nat}
theorem cp_self (hc : W.testBit c = true) : (FL w h W (2 ^ c)).testBit c = true := FL_sup c (by rw [bit_and, hc]; simp)
theorem cp_none (hs : Sh w h) (hW : W < 2 ^ (w * h)) (hc : W.testBit c = false) : FL w h W (2 ^ c) = 0 := by
  refine sb_anti (FL_min hs hW (Nat.two_pow_pos _) ?_ (seed_sb fun q => by rw [hc] at q; cases q)) (fun i hi => by rw [Nat.zero_testBit] at hi; cases hi)
  intro d hd _ hb
  rw [bes_mk hs (Nat.two_pow_pos _) hd, Nat.and_zero] at hb
  simp at hb
theorem cp_sym (hs : Sh w h) (hW : W < 2 ^ (w * h)) (hc : W.testBit c = true) (hd : (FL w h W (2 ^ c)).testBit d = true) : (FL w h W (2 ^ d)).testBit c = true := by
  refine Classical.byContradiction fun hne => ?_
  have hne2 : (FL w h W (2 ^ d)).testBit c = false := by simpa using hne
  have h1 := FL_lt (w := w) (h := h) (s := 2 ^ c) hW
  have h2 := FL_lt (w := w) (h := h) (s := 2 ^ d) hW
  have hN := (Sh_lt hs).1
  have hcN := lt_of_tb hW hc
  have hWd := FL_A d hd
  have hT : df (FL w h W (2 ^ c)) (FL w h W (2 ^ d)) < 2 ^ (w * h) := df_lt h1
  have hcl : cl w h W (df (FL w h W (2 ^ c)) (FL w h W (2 ^ d))) := by
    intro y hy hWy hb
    obtain ⟨x, hx1, hx2⟩ := (bes_ex hs hT hy).mp hb
    have hxN := lt_of_tb hT hx2
    rw [df_test (by omega), Bool.and_eq_true] at hx2
    have hxn : (FL w h W (2 ^ d)).testBit x = false := by simpa using hx2.2
    have hyc : (FL w h W (2 ^ c)).testBit y = true := FL_cl hW y hy hWy ((bes_ex hs h1 hy).mpr ⟨x, hx1, hx2.1⟩)
    rw [df_test (by omega), hyc]
    cases hyd : (FL w h W (2 ^ d)).testBit y with
    | false => rfl
    | true =>
      have h3 : (FL w h W (2 ^ d)).testBit x = true := FL_cl hW x hxN (FL_A x hx2.1) ((bes_ex hs h2 hxN).mpr ⟨y, mk_sym hs hy hxN hx1, hyd⟩)
      rw [hxn] at h3; cases h3
  have hsub := FL_min (s := 2 ^ c) hs hW hT hcl (seed_sb fun _ => by rw [df_test (by omega), cp_self hc, hne2]; rfl)
  have h4 := hsub d hd
  rw [df_test (by have := lt_of_tb h1 hd; omega), cp_self hWd, hd] at h4
  cases h4
theorem cp_sub (hs : Sh w h) (hW : W < 2 ^ (w * h)) (hd : (FL w h W (2 ^ c)).testBit d = true) : sb (FL w h W (2 ^ d)) (FL w h W (2 ^ c)) := FL_min hs hW (FL_lt hW) (FL_cl hW) (seed_sb fun _ => hd)
theorem cp_eq (hs : Sh w h) (hW : W < 2 ^ (w * h)) (hc : W.testBit c = true) (hd : (FL w h W (2 ^ c)).testBit d = true) : FL w h W (2 ^ d) = FL w h W (2 ^ c) := sb_anti (cp_sub hs hW hd) (cp_sub hs hW (cp_sym hs hW hc hd))
end PCS
/-- the cells whose piece has no cell below c -/
def Lf (w h W c L : Nat) : Prop := ∀ x, L.testBit x = true ↔ (W.testBit x = true ∧ ∀ y, y < c → (FL w h W (2 ^ x)).testBit y = false)
/-- c is the first cell of its piece -/
def Fi (w h W c : Nat) : Prop := (FL w h W (2 ^ c)).testBit c = true ∧ ∀ y, y < c → (FL w h W (2 ^ c)).testBit y = false
section PCT
variable {w h W c L : Nat}
theorem Fi_W (hf : Fi w h W c) : W.testBit c = true := FL_A c hf.1
theorem Lf_W (hL : Lf w h W c L) : sb L W := fun x hx => ((hL x).mp hx).1
theorem Lf_lt (hW : W < 2 ^ (w * h)) (hL : Lf w h W c L) : L < 2 ^ (w * h) := Nat.lt_of_le_of_lt (sb_le (Lf_W hL)) hW
theorem Lf_c (hL : Lf w h W c L) (hf : Fi w h W c) : L.testBit c = true := (hL c).mpr ⟨Fi_W hf, hf.2⟩
theorem Lf_piece (hs : Sh w h) (hW : W < 2 ^ (w * h)) (hL : Lf w h W c L) (hf : Fi w h W c) : FL w h L (2 ^ c) = FL w h W (2 ^ c) := by
  have hLlt := Lf_lt hW hL
  have hLc := Lf_c hL hf
  have h1 : sb (FL w h L (2 ^ c)) (FL w h W (2 ^ c)) := FL_min hs hLlt (FL_lt hW) (fun y hy hLy hb => FL_cl hW y hy (Lf_W hL y hLy) hb) (seed_sb fun _ => hf.1)
  refine sb_anti h1 (FL_min hs hW (FL_lt hLlt) ?_ (seed_sb fun _ => cp_self hLc))
  intro y hy hWy hb
  refine FL_cl hLlt y hy ?_ hb
  have hyc : (FL w h W (2 ^ c)).testBit y = true := FL_cl hW y hy hWy (bes_mono hs (FL_lt hLlt) (FL_lt hW) h1 hy hb)
  refine (hL y).mpr ⟨hWy, ?_⟩
  rw [cp_eq hs hW (Fi_W hf) hyc]
  exact hf.2
theorem Lf_take (hs : Sh w h) (hW : W < 2 ^ (w * h)) (hL : Lf w h W c L) (hf : Fi w h W c) : Lf w h W (c + 1) (df L (FL w h W (2 ^ c))) := by
  have hN := (Sh_lt hs).1
  intro x
  rcases Nat.lt_or_ge x 32 with hx | hx
  · rw [df_test hx, Bool.and_eq_true, hL x]
    constructor
    · rintro ⟨⟨h1, h2⟩, h3⟩
      refine ⟨h1, fun y hy => ?_⟩
      by_cases hyc : y = c
      · subst hyc
        cases hq : (FL w h W (2 ^ x)).testBit y with
        | false => rfl
        | true =>
          rw [cp_sym hs hW h1 hq] at h3; cases h3
      · exact h2 y (by omega)
    · rintro ⟨h1, h2⟩
      refine ⟨⟨h1, fun y hy => h2 y (by omega)⟩, ?_⟩
      cases hq : (FL w h W (2 ^ c)).testBit x with
      | false => rfl
      | true =>
        have h3 := cp_sym hs hW (Fi_W hf) hq
        rw [h2 c (by omega)] at h3; cases h3
  · have h1 : (df L (FL w h W (2 ^ c))).testBit x = false := tb_lt (df_lt (Lf_lt hW hL)) (by omega)
    have h2 : W.testBit x = false := tb_lt hW (by omega)
    rw [h1, h2]; simp
theorem Lf_pass (hs : Sh w h) (hW : W < 2 ^ (w * h)) (hL : Lf w h W c L) (hf : ¬ Fi w h W c) : Lf w h W (c + 1) L := by
  intro x
  rw [hL x]
  constructor
  · rintro ⟨h1, h2⟩
    refine ⟨h1, fun y hy => ?_⟩
    by_cases hyc : y = c
    · subst hyc
      cases hq : (FL w h W (2 ^ x)).testBit y with
      | false => rfl
      | true =>
        have h3 := cp_eq hs hW h1 hq
        exact absurd ⟨cp_self (FL_A y hq), fun z hz => by rw [h3]; exact h2 z hz⟩ hf
    · exact h2 y (by omega)
  · rintro ⟨h1, h2⟩
    exact ⟨h1, fun y hy => h2 y (by omega)⟩
theorem Lf_low (hL : Lf w h W c L) : ∀ y, y < c → L.testBit y = false := by
  intro y hy
  cases hq : L.testBit y with
  | false => rfl
  | true =>
    obtain ⟨h1, h2⟩ := (hL y).mp hq
    have h3 := h2 y hy
    rw [cp_self h1] at h3; cases h3
end PCT
theorem ck_low : ((List.range 4096).all fun L => (List.range 12).all fun c => !(L.testBit c && (L % 2 ^ c == 0)) || decide (fJ6_lowestOneBit_0f7a4 0 (nI L) = some (nI (2 ^ c)))) = true := by decide +kernel
theorem e_low (n : Nat) {L c : Nat} (hL : L < 4096) (hc : c < 12) (h1 : L.testBit c = true) (h2 : ∀ y, y < c → L.testBit y = false) : fJ6_lowestOneBit_0f7a4 n (nI L) = some (nI (2 ^ c)) := by
  have h3 := List.all_eq_true.mp ck_low L (List.mem_range.mpr hL)
  have h4 := List.all_eq_true.mp h3 c (List.mem_range.mpr hc)
  have h5 : L % 2 ^ c = 0 := by
    refine tb_ext (Nat.mod_lt _ (Nat.two_pow_pos c)) (Nat.two_pow_pos c) fun i hi => ?_
    rw [Nat.testBit_mod_two_pow, h2 i hi, Nat.zero_testBit, Bool.and_false]
  rw [h1, h5] at h4
  have h6 : decide (fJ6_lowestOneBit_0f7a4 0 (nI L) = some (nI (2 ^ c))) = true := by simpa using h4
  exact decide_eq_true_iff.mp h6
theorem low_and {p c : Nat} (hp : p < 4096) : (p &&& (2 ^ c - 1) = 0) ↔ ∀ y, y < c → p.testBit y = false := by
  constructor
  · intro h y hy
    cases hq : p.testBit y with
    | false => rfl
    | true => exact absurd h (and_ne.mpr ⟨y, hq, by rw [Nat.testBit_two_pow_sub_one]; simp [hy]⟩)
  · intro h
    refine Classical.byContradiction fun hne => ?_
    obtain ⟨i, h1, h2⟩ := and_ne.mp hne
    rw [Nat.testBit_two_pow_sub_one, decide_eq_true_iff] at h2
    rw [h i h2] at h1; cases h1
theorem Lf_end {w h W L : Nat} (hW : W < 2 ^ (w * h)) (hL : Lf w h W (w * h) L) : L = 0 := by
  refine sb_anti (fun x hx => ?_) (fun i hi => by rw [Nat.zero_testBit] at hi; cases hi)
  rw [Lf_low hL x (lt_of_tb (Lf_lt hW hL) hx)] at hx
  cases hx
theorem pieces (n : Nat) (hn : 5000 ≤ n) {kN wN : Nat → Nat} {s w h : Nat} (hk : ∀ i, kN i ≤ 2) (hw : ∀ i, wN i ≤ 9) (hs9 : s ≤ 9) (hs : Sh w h) (q : Int32) : ∀ (j c L cnt gr x3 k1 k2 : Nat), c + j = w * h → Lf w h (WS wN w h) c L → x3 ≤ c → w * h < x3 + k1 → j < k2 → gr ≤ 12 →
    ∃ a b : Int32, fX0_howManyPieces_9 n k1 (fI wN) (nI w) (nI (w * h)) (nI (alN w h)) (nI (fcN w h)) (nI (lcN w h)) (nI L) (nI cnt) (nI x3) = some a ∧ fX0_greatestPiece_9 n k1 (fI wN) (nI w) (nI (w * h)) (nI (alN w h)) (nI (fcN w h)) (nI (lcN w h)) (nI L) (nI gr) (nI x3) = some b ∧ fX5_cracks_63 n k2 (nI s) (nI w) (nI h) (fI kN) (fI wN) q (nI cnt) (nI gr) (nI c) = some (if q = (2 : Int32) then a else b) := by
  have hN := (Sh_lt hs).1
  have hW := WS_lt wN w h
  intro j
  induction j with
  | zero =>
    intro c L cnt gr x3 k1 k2 hc hL hx3 hk1 hk2 hgr
    have hce : c = w * h := by omega
    subst hce
    obtain rfl := Lf_end hW hL
    obtain ⟨k1, rfl⟩ : ∃ k, k1 = k + 1 := ⟨k1 - 1, by omega⟩
    obtain ⟨k2, rfl⟩ : ∃ k, k2 = k + 1 := ⟨k2 - 1, by omega⟩
    rw [fX0_howManyPieces_9, fX0_greatestPiece_9, fX5_cracks_63, e_cellsOf, Option.bind_some, if_pos (nI_le (Nat.le_refl (w * h)) (by omega))]
    refine ⟨nI cnt, nI gr, ?_, ?_, ?_⟩
    · split
      · rfl
      · exact if_pos rfl
    · split
      · rfl
      · exact if_pos rfl
    · split <;> rfl
  | succ j ih =>
    intro c L cnt gr x3 k1 k2 hc hL hx3 hk1 hk2 hgr
    obtain ⟨k2, rfl⟩ : ∃ k, k2 = k + 1 := ⟨k2 - 1, by omega⟩
    have hcN : c < w * h := by omega
    have hp := FL_lt (w := w) (h := h) (s := 2 ^ c) hW
    have hp2 := Sh_pow hs hp
    rw [fX5_cracks_63]
    simp only [e_cellsOf, Option.bind_some, if_neg (nI_ge hcN (show w * h < 2 ^ 31 by omega)), e_pieceOf n hn hk hw hs9 hs hcN, e_isOf n (show FL w h (WS wN w h) (2 ^ c) < 2 ^ 31 by omega) (show c < 32 by omega), i_bit (show c < 32 by omega), e_size n hn hp2, nI_1]
    rw [show nI (2 ^ c) - (1 : Int32) = nI (2 ^ c - 1) from pk_sub Nat.one_le_two_pow, i_and]
    have ha2 : FL w h (WS wN w h) (2 ^ c) &&& (2 ^ c - 1) < 2 ^ 31 := Nat.lt_of_le_of_lt Nat.and_le_left (by omega)
    by_cases hf : Fi w h (WS wN w h) c
    · obtain ⟨k1, rfl⟩ : ∃ k, k1 = k + 1 := ⟨k1 - 1, by omega⟩
      have hLlt := Lf_lt hW hL
      have hL2 := Sh_pow hs hLlt
      have hLc := Lf_c hL hf
      have hL0 : ¬ nI L = 0 := fun z => by
        have h9 := i_inj (a := L) (b := 0) (by omega) (by decide) z
        rw [h9, Nat.zero_testBit] at hLc; cases hLc
      have hz : nI (FL w h (WS wN w h) (2 ^ c) &&& (2 ^ c - 1)) = 0 := by rw [(low_and hp2).mpr hf.2]; rfl
      have hpk := pk_leN (FL w h (WS wN w h) (2 ^ c)) 12
      rw [fX0_howManyPieces_9, fX0_greatestPiece_9]
      simp only [if_neg (nI_ge (show x3 < w * h by omega) (show w * h < 2 ^ 31 by omega)), if_neg hL0, e_low n hL2 (show c < 12 by omega) hLc (Lf_low hL), Option.bind_some, e_hanging n hn hs hLlt, Lf_piece hs hW hL hf, e_bitCount n hp2, i_df, nI_1, if_pos hf.1, if10, if_pos hz]
      by_cases hg : pk (FL w h (WS wN w h) (2 ^ c)) 12 ≤ gr
      · simp only [if_pos (nI_le hg (show gr < 2 ^ 31 by omega)), if_neg (nI_nlt hg (show gr < 2 ^ 31 by omega))]
        exact ih (c + 1) _ (cnt + 1) gr (x3 + 1) k1 k2 (by omega) (Lf_take hs hW hL hf) (by omega) (by omega) (by omega) hgr
      · simp only [if_neg (nI_ge (show gr < pk (FL w h (WS wN w h) (2 ^ c)) 12 by omega) (by omega)), if_pos (nI_lt (show gr < pk (FL w h (WS wN w h) (2 ^ c)) 12 by omega) (by omega))]
        exact ih (c + 1) _ (cnt + 1) _ (x3 + 1) k1 k2 (by omega) (Lf_take hs hW hL hf) (by omega) (by omega) (by omega) hpk
    · have hnx := ih (c + 1) L cnt gr x3 k1 k2 (by omega) (Lf_pass hs hW hL hf) (by omega) (by omega) (by omega) hgr
      have hc0 : nI cnt + (0 : Int32) = nI cnt := by rw [show (0 : Int32) = nI 0 from rfl, nI_add]; rfl
      simp only [hc0]
      cases hq : (FL w h (WS wN w h) (2 ^ c)).testBit c with
      | false =>
        simp only [Bool.false_eq_true, if_false, if00]
        exact hnx
      | true =>
        have hz : ¬ nI (FL w h (WS wN w h) (2 ^ c) &&& (2 ^ c - 1)) = 0 := fun z => hf ⟨hq, (low_and hp2).mp (i_inj (b := 0) ha2 (by decide) z)⟩
        simp only [if_true, if10, if_neg hz]
        exact hnx
theorem L_cracks (n : Nat) (hn : 5000 ≤ n) {kN wN : Nat → Nat} {s w h : Nat} (hS : St kN wN s w h) (p1 : Int32) : ∃ r, fX4_cracks n (fI wN) (nI w) (nI (w * h)) (nI (alN w h)) (nI (fcN w h)) (nI (lcN w h)) p1 = some r ∧ fX5_cracks n (nI s) (nI w) (nI h) (fI kN) (fI wN) p1 = some r := by
  obtain ⟨hk, hw, hs9, hsh⟩ := hS
  have hN := Sh0_N hsh
  unfold fX4_cracks fX5_cracks
  rcases within_or n (A := 0) (B := 3) (a := 0) (b := 3) rfl rfl (by decide) (by decide) p1 with ⟨h4, h5⟩ | ⟨t, -, ht, rfl, h4, h5⟩
  · simp only [h4, h5, Option.bind_some, if00]; exact ⟨_, rfl, rfl⟩
  · simp only [h4, h5, Option.bind_some, if10]
    rcases there n hsh with ⟨-, -, h1, h2⟩ | ⟨hs, h1, h2⟩
    · simp only [h1, if_pos h2, Option.bind_some, if00]; exact ⟨_, rfl, rfl⟩
    · have h0 : fX5_crackedBehind n (nI s) (nI w) (nI h) (fI kN) (fI wN) (0 : Int32) = _ := e_crackedBehind (t := 0) n hn hk hw hs9 hN (by decide)
      simp only [h1, if_neg h2, Option.bind_some, if10, h0, e_crackedSet' n hn kN s hw hN, e_isOpenBy n hn hs (CR_lt kN wN s 0 (w * h)), e_isOpen n hn hs (CR_lt kN wN s 0 (w * h)), fX0_howManyPieces, fX0_greatestPiece, e_wetSet n hn hw hN]
      obtain ⟨a, b, ha, hb, hr⟩ := pieces n hn hk hw hs9 hs (nI t) (w * h) 0 (WS wN w h) 0 0 0 n n (by omega) (fun x => ⟨fun q => ⟨q, fun y hy => absurd hy (Nat.not_lt_zero y)⟩, fun q => q.1⟩) (Nat.zero_le _) (by omega) (by omega) (by omega)
      have ha' : fX0_howManyPieces_9 n n (fI wN) (nI w) (nI (w * h)) (nI (alN w h)) (nI (fcN w h)) (nI (lcN w h)) (nI (WS wN w h)) (0 : Int32) (0 : Int32) = some a := ha
      have hb' : fX0_greatestPiece_9 n n (fI wN) (nI w) (nI (w * h)) (nI (alN w h)) (nI (fcN w h)) (nI (lcN w h)) (nI (WS wN w h)) (0 : Int32) (0 : Int32) = some b := hb
      have hr' : fX5_cracks_63 n n (nI s) (nI w) (nI h) (fI kN) (fI wN) (nI t) (0 : Int32) (0 : Int32) (0 : Int32) = _ := hr
      simp only [ha', hb', hr', Option.bind_some]
      rcases (show t = 0 ∨ t = 1 ∨ t = 2 ∨ t = 3 by omega) with rfl | rfl | rfl | rfl
      · exact ⟨_, rfl, rfl⟩
      · by_cases hz : opN w h (CR kN wN s 0 (w * h)) = true
        · simp only [if_pos hz]; exact ⟨_, rfl, rfl⟩
        · simp only [if_neg hz]; exact ⟨_, rfl, rfl⟩
      · exact ⟨_, rfl, rfl⟩
      · exact ⟨_, rfl, rfl⟩
