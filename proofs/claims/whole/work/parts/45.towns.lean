/-! MATH 25: towns by a seed -/
theorem tpk_h (X : Int64) : (X.toUInt64 >>> (((33 : Int32)).toInt64.toUInt64 &&& Int64.toUInt64 63)).toInt64 = lN (X.toUInt64.toNat / 2 ^ 33) := by
  have hs : (((33 : Int32)).toInt64.toUInt64 &&& Int64.toUInt64 63) = UInt64.ofNat 33 := by decide
  have hx : X.toUInt64.toNat / 2 ^ 33 < 2 ^ 64 := Nat.lt_of_le_of_lt (Nat.div_le_self _ _) X.toUInt64.toNat_lt
  have h : X.toUInt64 >>> UInt64.ofNat 33 = UInt64.ofNat (X.toUInt64.toNat / 2 ^ 33) := UInt64.toNat_inj.mp (by
    rw [UInt64.toNat_shiftRight, show (UInt64.ofNat 33).toNat = 33 from rfl, show (UInt64.ofNat (X.toUInt64.toNat / 2 ^ 33)).toNat = X.toUInt64.toNat / 2 ^ 33 from Nat.mod_eq_of_lt hx, Nat.shiftRight_eq_div_pow])
  have h2 := congrArg UInt64.toInt64 h
  rw [hs]
  exact h2
theorem tpk_n (X : Int64) : ∃ p, p < 12 ∧ (((X.toUInt64 >>> (((33 : Int32)).toInt64.toUInt64 &&& Int64.toUInt64 63)).toInt64 - (X.toUInt64 >>> (((33 : Int32)).toInt64.toUInt64 &&& Int64.toUInt64 63)).toInt64 / (12 : Int64) * (12 : Int64))).toInt32 = nI p := by
  have hx : X.toUInt64.toNat / 2 ^ 33 < 2 ^ 63 := Nat.lt_of_lt_of_le (Nat.div_lt_of_lt_mul (show X.toUInt64.toNat < 2 ^ 33 * 2 ^ 31 from Nat.lt_of_lt_of_le X.toUInt64.toNat_lt (by decide))) (by decide)
  have h12 : (12 : Int64) = lN 12 := by decide
  rw [tpk_h, h12, pk_lRem hx (by decide) (by decide)]
  exact ⟨_, Nat.mod_lt _ (by decide), lN_i _⟩
theorem k_am1 (a : Nat) : nI a &&& (-nI 1) = nI a := by
  apply Int32.toBitVec_inj.1
  show (nI a).toBitVec &&& (-nI 1).toBitVec = (nI a).toBitVec
  rw [show (-nI 1).toBitVec = BitVec.allOnes 32 by decide, BitVec.and_allOnes]
theorem stir_n {hs T : Nat} {wo A : Nat → Nat} {wr bi hm ki we P tr : Nat → Int32} {li si ih ye x1 th x2 x3 x5 x6 t0 : Int32} {sd : Int64} {K : Int32 → Int64 → (Nat → Int32) → Int32 → Int32 → Option (Int32 × Int32 × Int64 × (Nat → Int32))} (hV : VA hs T A) (hT6 : T < 600) (hT : TR hs wo A (nI hs) (nI (A 25)) li si ih ye wr bi hm ki we) (hP : P 25 = nI (A 25)) (htr : PG A tr) {p : Nat} (hp : p < 12) :
    ∃ A' li' si' ye' tr', f_X4_stir (nI hs) (nI (A 25)) li si ye (nI p) = some (li', si', ye') ∧ VA hs (T + 1) A' ∧ A' 25 = A 25 ∧ TR hs wo A' (nI hs) (nI (A 25)) li' si' ih ye' wr bi hm ki we ∧ PG A' tr' ∧ f_X6_towns_126 (nI hs) P x1 K th sd tr x2 x3 (nI p) x5 x6 t0 = f_X6_towns_217 (nI hs) P x1 K th sd tr' x2 x3 x5 x6 t0 := by
  have hT0 := hT
  obtain ⟨-, -, rfl, rfl, rfl, rfl, -⟩ := hT
  have h7 := hV.2.2.1
  have h3 := hV.1
  have hl := hV.lt
  have hV1 := hV.mono (Nat.le_succ T) (by omega)
  unfold f_X4_stir
  simp only [f_X6_towns_126, kl0, kl1, kl2, kl3, kl4, kl5, kl6, kl7, kl8, kl9, kl10, kl12, kl13, kl14, kl20, kl21, kl22, kl23, kl24, kl25, kl26, kl30, kl31, kl33, kl48, kl49, kl57, kl65, kl66, kl67, kl72, kl89, kl100, kl128, kl255]
  by_cases c7 : p < 7
  · rw [if_neg (nI_ge c7 (by omega)), if_neg (nI_ge c7 (by omega)), noChild_25 hP _ (by omega), kb1_some, ki0, inr_nI (by omega), htr 21 (by omega), k_sh1 (by omega)]
    by_cases c : p < A 25
    · rw [decide_eq_true c, if_neg (show ¬ ((!true) = true) by decide), isAlive_n h7 (by omega) c, kb1_some, ki0]
      simp only [f_X6_towns_162]
      rw [kg_yes (kin_y (by omega) (by omega)), k_adn, nI_clamp (by omega)]
      have hP' : PG (au A 21 (adn (A 21) (2 ^ p))) (upd tr 21 (nI (adn (A 21) (2 ^ p)))) := htr.au _
      by_cases b : (A 21).testBit p = true
      · have hlt : adn (A 21) (2 ^ p) < 2 ^ A 25 := adn_lt hV.2.2.2.1
        rw [if_pos b]
        unfold f_X4_flipLife
        rw [bit_n (by omega), kb1_some, kb1_some, k_xor, ← adn_x b]
        exact ⟨_, _, _, _, _, rfl, VA_21 hV1 hlt, au_n _ _ (by omega), TR_21 hT0 h7 _, hP', rfl⟩
      · have e : adn (A 21) (2 ^ p) = A 21 := tb_ext (fun i => by
          rw [adn_tb, Nat.testBit_two_pow]
          by_cases q : p = i
          · subst q; rw [(Bool.not_eq_true _).mp b]; rfl
          · rw [decide_eq_false q]; simp)
        rw [e] at hP'
        rw [e, if_neg b]
        rw [au_id] at hP'
        exact ⟨A, _, _, _, _, rfl, hV1, rfl, hT0, hP', rfl⟩
    · have hP' : PG (au A 21 (A 21)) (upd tr 21 (nI (A 21))) := htr.au _
      rw [au_id] at hP'
      rw [decide_eq_false c, if_pos (show (!false) = true from rfl), isAlive_out h7 (by rw [inr_nI (by omega)]; exact decide_eq_false c), kb1_some, if_pos rfl]
      simp only [f_X6_towns_162]
      rw [kg_yes (kin_y (by omega) (by omega)), k_am1, nI_clamp (by omega)]
      exact ⟨A, _, _, _, _, rfl, hV1, rfl, hT0, hP', rfl⟩
  · rw [if_pos (show nI 7 ≤ nI p from nI_le (by omega) (by omega)), if_pos (show nI 7 ≤ nI p from nI_le (by omega) (by omega))]
    by_cases c10 : p < 10
    · rw [if_neg (nI_ge c10 (by omega)), if_neg (nI_ge c10 (by omega)), k_sub (show 7 ≤ p by omega), noHouse_x _ (by omega), kb1_some, ki0, hasHouse_x _ (by omega), kb1_some, ki0, inr_nI (by omega), htr 22 (by omega), k_sh1 (by omega)]
      simp only [f_X6_towns_205]
      rw [kg_yes (kin_y (by omega) (by omega)), kg_yes (kin_y (by omega) (by omega)), k_xor, k_xor, nI_clamp (by omega)]
      by_cases c : p - 7 < hs
      · have hlt : A 22 ^^^ 2 ^ (p - 7) < 2 ^ hs := Nat.xor_lt_two_pow hV.2.2.2.2.1 (k_two c)
        have hP' : PG (au A 22 (A 22 ^^^ 2 ^ (p - 7))) (upd tr 22 (nI (A 22 ^^^ 2 ^ (p - 7)))) := htr.au _
        rw [decide_eq_true c, if_pos rfl, if_neg (show ¬ ((!true) = true) by decide)]
        unfold f_X4_flipSide
        rw [bit_n (by omega), kb1_some, kb1_some, k_xor]
        exact ⟨_, _, _, _, _, rfl, VA_22 hV1 hlt, au_n _ _ (by omega), TR_22 hT0 h7 _, hP', rfl⟩
      · have hP' : PG (au A 22 (A 22)) (upd tr 22 (nI (A 22))) := htr.au _
        rw [au_id] at hP'
        rw [decide_eq_false c, if_neg Bool.false_ne_true, if_pos (show (!false) = true from rfl), Nat.xor_zero]
        exact ⟨A, _, _, _, _, rfl, hV1, rfl, hT0, hP', rfl⟩
    · obtain ⟨f', g1, g2⟩ := goYear_l h7 (A 25) 0 1000 tr (by omega) (by omega) (fun k hk => by rw [if_neg (by omega)]; exact htr k hk)
      unfold f_X6_goYear
      simp only [kl0, kl1, kl2, kl3, kl4, kl5, kl6, kl7, kl8, kl9, kl10, kl12, kl13, kl14, kl20, kl21, kl22, kl23, kl24, kl25, kl26, kl30, kl31, kl33, kl48, kl49, kl57, kl65, kl66, kl67, kl72, kl89, kl100, kl128, kl255]
      rw [if_pos (show nI 10 ≤ nI p from nI_le (by omega) (by omega)), if_pos (show nI 10 ≤ nI p from nI_le (by omega) (by omega)), g1, kb1_some, k_s1]
      exact ⟨_, _, _, _, _, rfl, VA_yr hV hT6, ayr_n (by omega) (by omega), (TR_yr h7).1 hT0, g2, rfl⟩
/-- all heirs in one number -/
def ahA (A : Nat → Nat) : Nat → Nat
  | 0 => 0
  | h + 1 => ahA A h ||| hrN A h * 2 ^ (7 * h)
theorem ahA_s (A : Nat → Nat) (h : Nat) : ahA A (h + 1) = ahA A h ||| hrN A h * 2 ^ (7 * h) := rfl
theorem ahA_lt {A : Nat → Nat} (h7 : A 25 ≤ 7) : ∀ h, ahA A h < 2 ^ (7 * h)
  | 0 => Nat.one_pos
  | h + 1 => by
    have h1 := ahA_lt h7 h
    have h2 : hrN A h < 2 ^ 7 := hrA_lt A h7 _ _ _
    rw [ahA_s]
    refine Nat.or_lt_two_pow (Nat.lt_of_lt_of_le h1 (Nat.pow_le_pow_right (by decide) (by omega))) ?_
    rw [show 7 * (h + 1) = 7 + 7 * h by omega, Nat.pow_add]
    exact Nat.mul_lt_mul_of_pos_right h2 (Nat.two_pow_pos _)
theorem ahA_tb {A : Nat → Nat} (h7 : A 25 ≤ 7) {h i : Nat} (hi : i < 7) : ∀ {H}, h < H → (ahA A H).testBit (7 * h + i) = (hrN A h).testBit i
  | 0, hh => absurd hh (Nat.not_lt_zero h)
  | H + 1, hh => by
    rw [ahA_s, Nat.testBit_or, Nat.testBit_mul_two_pow]
    by_cases e : h = H
    · subst e
      rw [tb_big (ahA_lt h7 h) (by omega), decide_eq_true (by omega), Bool.false_or, Bool.true_and, Nat.add_sub_cancel_left]
    · rw [decide_eq_false (by omega), Bool.false_and, Bool.or_false]
      exact ahA_tb h7 hi (by omega)
theorem ahA_dig {A B : Nat → Nat} (h7 : A 25 ≤ 7) (g7 : B 25 ≤ 7) {h H : Nat} (hh : h < H) : ((ahA A H ^^^ ahA B H) >>> (7 * h)) &&& 127 = hrN A h ^^^ hrN B h := by
  have a1 : hrN A h < 2 ^ 7 := hrA_lt A h7 _ _ _
  have b1 : hrN B h < 2 ^ 7 := hrA_lt B g7 _ _ _
  refine tb_ext (fun i => ?_)
  rw [Nat.testBit_and, Nat.testBit_shiftRight, Nat.testBit_xor, Nat.testBit_xor, show (127 : Nat) = 2 ^ 7 - 1 from rfl, Nat.testBit_two_pow_sub_one]
  by_cases hi : i < 7
  · rw [decide_eq_true hi, Bool.and_true, ahA_tb h7 hi hh, ahA_tb g7 hi hh]
  · rw [decide_eq_false hi, Bool.and_false, tb_big a1 (by omega), tb_big b1 (by omega)]; rfl
def dff (A B : Nat → Nat) (h : Nat) : Nat := if hrN B h = hrN A h then 0 else 1
def cdf (A B : Nat → Nat) : Nat → Nat
  | 0 => 0
  | h + 1 => cdf A B h + dff A B h
theorem cdf_s (A B : Nat → Nat) (h : Nat) : cdf A B (h + 1) = cdf A B h + dff A B h := rfl
theorem xor_0 {a b : Nat} : a ^^^ b = 0 ↔ b = a := by
  constructor
  · intro h
    have := xx a b
    rw [h, Nat.zero_xor] at this
    exact this
  · intro h; rw [h, Nat.xor_self]
theorem allH_l {A : Nat → Nat} {bi hm ki : Nat → Int32} {hs T : Nat} (hV : VA hs T A) (hT : CT A bi hm ki) : ∀ (m h fuel : Nat), h + m = hs → m < fuel → f_X4_allHeirs_4 (nI hs) (nI (A 25)) (nI (A 21)) (nI (A 22)) bi hm ki fuel (nI (ahA A h)) (nI h) = some (nI (ahA A hs)) := by
  have h7 := hV.2.2.1
  have h3 := hV.1
  have hl := hV.lt
  intro m
  induction m with
  | zero =>
    intro h fuel hh hf
    obtain ⟨d, rfl⟩ : ∃ d, fuel = d + 1 := ⟨fuel - 1, by omega⟩
    have e : h = hs := by omega
    subst e
    simp only [f_X4_allHeirs_4, f_X4_allHeirs_4_b]
    rw [if_pos (nI_le (Nat.le_refl _) (by omega))]
  | succ m ih =>
    intro h fuel hh hf
    obtain ⟨d, rfl⟩ : ∃ d, fuel = d + 1 := ⟨fuel - 1, by omega⟩
    have ih := ih (h + 1) d (by omega) (by omega)
    have hb : hrN A h < 2 ^ 7 := hrA_lt A h7 _ _ _
    have hp : hrN A h * 2 ^ (7 * h) < 2 ^ 32 := Nat.lt_of_lt_of_le (Nat.mul_lt_mul_of_pos_right hb (Nat.two_pow_pos _)) (by rw [← Nat.pow_add]; exact Nat.pow_le_pow_right (by decide) (by omega))
    rw [ahA_s] at ih
    simp only [f_X4_allHeirs_4, f_X4_allHeirs_4_b, kl0, kl1, kl2, kl3, kl4, kl5, kl6, kl7, kl8, kl9, kl10, kl12, kl13, kl14, kl20, kl21, kl22, kl23, kl24, kl25, kl26, kl30, kl31, kl33, kl48, kl49, kl57, kl65, kl66, kl67, kl72, kl89, kl100, kl128, kl255]
    rw [if_neg (nI_ge (by omega) (by omega)), heirsOf_c hV.bd hT (by omega) (by omega) (by omega), kb1_some, k_mul, k_shl (by omega) hp, k_or, k_s1]
    exact ih
theorem allH_n {A : Nat → Nat} {bi hm ki : Nat → Int32} {hs T : Nat} (hV : VA hs T A) (hT : CT A bi hm ki) : f_X4_allHeirs (nI hs) (nI (A 25)) (nI (A 21)) (nI (A 22)) bi hm ki = some (nI (ahA A hs)) := by
  have h3 := hV.1
  unfold f_X4_allHeirs
  rw [kl0]
  exact allH_l hV hT hs 0 1000 (by omega) (by omega)
theorem cdiff_l {A B : Nat → Nat} {hs : Nat} (h3 : hs ≤ 3) (h7 : A 25 ≤ 7) (g7 : B 25 ≤ 7) : ∀ (m h fuel : Nat), h + m = hs → m < fuel → f_X4_countDiffering_5 (nI hs) (nI (ahA A hs)) (nI (ahA B hs)) fuel (nI (cdf A B h)) (nI h) = some (nI (cdf A B hs)) := by
  intro m
  induction m with
  | zero =>
    intro h fuel hh hf
    obtain ⟨d, rfl⟩ : ∃ d, fuel = d + 1 := ⟨fuel - 1, by omega⟩
    have e : h = hs := by omega
    subst e
    simp only [f_X4_countDiffering_5, f_X4_countDiffering_5_b]
    rw [if_pos (nI_le (Nat.le_refl _) (by omega))]
  | succ m ih =>
    intro h fuel hh hf
    obtain ⟨d, rfl⟩ : ∃ d, fuel = d + 1 := ⟨fuel - 1, by omega⟩
    have ih := ih (h + 1) d (by omega) (by omega)
    have p21 : 2 ^ (7 * hs) ≤ 2 ^ 21 := Nat.pow_le_pow_right (by decide) (by omega)
    have a1 := ahA_lt h7 hs
    have b1 := ahA_lt g7 hs
    have hx : ahA A hs ^^^ ahA B hs < 2 ^ 21 := Nat.xor_lt_two_pow (by omega) (by omega)
    have ha : hrN A h < 2 ^ 7 := hrA_lt A h7 _ _ _
    have hb : hrN B h < 2 ^ 7 := hrA_lt B g7 _ _ _
    have hab : hrN A h ^^^ hrN B h < 2 ^ 7 := Nat.xor_lt_two_pow ha hb
    rw [cdf_s] at ih
    simp only [f_X4_countDiffering_5, f_X4_countDiffering_5_b, kl0, kl1, kl2, kl3, kl4, kl5, kl6, kl7, kl8, kl9, kl10, kl12, kl13, kl14, kl20, kl21, kl22, kl23, kl24, kl25, kl26, kl30, kl31, kl33, kl48, kl49, kl57, kl65, kl66, kl67, kl72, kl89, kl100, kl128, kl255]
    rw [if_neg (nI_ge (by omega) (by omega)), bit_n (by omega), kb1_some, k_sub (show 1 ≤ 2 ^ 7 by decide), show 2 ^ 7 - 1 = 127 from rfl, k_xor, k_mul, k_shr (by omega) (by omega), k_and, ahA_dig h7 g7 (by omega), k_s1, k_s1]
    by_cases q : hrN B h = hrN A h
    · have e : dff A B h = 0 := if_pos q
      rw [e] at ih
      rw [if_pos (congrArg nI (xor_0.2 q))]
      exact ih
    · have e : dff A B h = 1 := if_neg q
      rw [e] at ih
      rw [if_neg (fun z => q (xor_0.1 ((nI_eq (by omega) (by omega)).1 z)))]
      exact ih
theorem cdiff_n {A B : Nat → Nat} {hs : Nat} (h3 : hs ≤ 3) (h7 : A 25 ≤ 7) (g7 : B 25 ≤ 7) : f_X4_countDiffering (nI hs) (nI (ahA A hs)) (nI (ahA B hs)) = some (nI (cdf A B hs)) := by
  unfold f_X4_countDiffering
  rw [kl0]
  exact cdiff_l h3 h7 g7 hs 0 1000 (by omega) (by omega)
theorem tw_lvl {α : Type} (F : Int32 → α) {hs g a b : Nat} {x : Int32} (h3 : hs ≤ 3) (hg : g < 3) (ha : a < 128) (hb : b < 128) (hx : g < hs → x = nI a) :
    (if nI hs ≤ nI g then F (nI 0) else (if nI b = x then F (nI 0) else F (nI 1))) = F (nI (if g < hs then (if b = a then 0 else 1) else 0)) := by
  by_cases c : g < hs
  · rw [if_neg (nI_ge c (by omega)), if_pos c, hx c]
    by_cases e : b = a
    · rw [if_pos (congrArg nI e), if_pos e]
    · rw [if_neg (fun z => e ((nI_eq (by omega) (by omega)).1 z)), if_neg e]
  · rw [if_pos (nI_le (by omega) (by omega)), if_neg c]
theorem tw_lv2 {α : Type} (F : Int32 → α) {hs g a : Nat} (h3 : hs ≤ 3) (hg : g < 3) :
    (if nI hs ≤ nI g then F (nI 0) else F (nI a)) = F (if g < hs then nI a else nI 0) := by
  by_cases c : g < hs
  · rw [if_neg (nI_ge c (by omega)), if_pos c]
  · rw [if_pos (nI_le (by omega) (by omega)), if_neg c]
theorem cdf_3 {A B : Nat → Nat} {hs : Nat} (h3 : hs ≤ 3) : cdf A B hs = (if 0 < hs then dff A B 0 else 0) + (if 1 < hs then dff A B 1 else 0) + (if 2 < hs then dff A B 2 else 0) := by
  have : hs = 0 ∨ hs = 1 ∨ hs = 2 ∨ hs = 3 := by omega
  rcases this with rfl | rfl | rfl | rfl
  · rfl
  · show 0 + dff A B 0 = dff A B 0 + 0 + 0; omega
  · show 0 + dff A B 0 + dff A B 1 = dff A B 0 + dff A B 1 + 0; omega
  · show 0 + dff A B 0 + dff A B 1 + dff A B 2 = dff A B 0 + dff A B 1 + dff A B 2; omega
theorem tw_after {A B : Nat → Nat} {hs T s i : Nat} {P tr : Nat → Int32} {x1 th x5 x6 x7 : Int32} {sd : Int64} {K : Int32 → Int64 → (Nat → Int32) → Int32 → Int32 → Option (Int32 × Int32 × Int64 × (Nat → Int32))} (h7 : A 25 ≤ 7) (hV : VA hs T B) (htr : PG B tr) (h5 : 0 < hs → x5 = nI (hrN A 0)) (h6 : 1 < hs → x6 = nI (hrN A 1)) (hx7 : 2 < hs → x7 = nI (hrN A 2)) :
    f_X6_towns_217 (nI hs) P x1 K th sd tr (nI s) (nI i) x5 x6 x7 = K th sd tr (nI (s + cdf A B hs)) (nI (i + 1)) := by
  have g7 := hV.2.2.1
  have h3 := hV.1
  have hl := hV.lt
  have e : ∀ h, h < 3 → f_X6_heirsNow tr (nI h) = some (nI (hrN B h)) := fun h hh => heirsNow_r hV.bd htr (by omega) (by omega) (by omega)
  have ha : ∀ h, hrN A h < 128 := fun h => hrA_lt A h7 _ _ _
  have hb : ∀ h, hrN B h < 128 := fun h => hrA_lt B g7 _ _ _
  unfold f_X6_towns_217
  simp only [kl0, kl1, kl2, kl3, kl4, kl5, kl6, kl7, kl8, kl9, kl10, kl12, kl13, kl14, kl20, kl21, kl22, kl23, kl24, kl25, kl26, kl30, kl31, kl33, kl48, kl49, kl57, kl65, kl66, kl67, kl72, kl89, kl100, kl128, kl255]
  rw [e 0 (by omega), kb1_some]
  refine (tw_lvl (fun t => f_X6_towns_243 (nI hs) P x1 K th sd tr (nI i) x6 x7 (nI s) t) (hs := hs) (g := 0) h3 (by omega) (ha 0) (hb 0) h5).trans ?_
  unfold f_X6_towns_243
  simp only [kl0, kl1, kl2, kl3, kl4, kl5, kl6, kl7, kl8, kl9, kl10, kl12, kl13, kl14, kl20, kl21, kl22, kl23, kl24, kl25, kl26, kl30, kl31, kl33, kl48, kl49, kl57, kl65, kl66, kl67, kl72, kl89, kl100, kl128, kl255]
  rw [e 1 (by omega), kb1_some, nI_add]
  refine (tw_lvl (fun t => f_X6_towns_272 (nI hs) P x1 K th sd tr (nI i) x7 _ t) (hs := hs) (g := 1) h3 (by omega) (ha 1) (hb 1) h6).trans ?_
  unfold f_X6_towns_272
  simp only [kl0, kl1, kl2, kl3, kl4, kl5, kl6, kl7, kl8, kl9, kl10, kl12, kl13, kl14, kl20, kl21, kl22, kl23, kl24, kl25, kl26, kl30, kl31, kl33, kl48, kl49, kl57, kl65, kl66, kl67, kl72, kl89, kl100, kl128, kl255]
  rw [e 2 (by omega), kb1_some, nI_add]
  refine (tw_lvl (fun t => K th sd tr (_ + t) (nI i + nI 1)) (hs := hs) (g := 2) h3 (by omega) (ha 2) (hb 2) hx7).trans ?_
  rw [nI_add, k_s1, cdf_3 h3]
  unfold dff
  rw [Nat.add_assoc, Nat.add_assoc, Nat.add_assoc]
theorem tw_before {A : Nat → Nat} {hs T n i s p : Nat} {P tr : Nat → Int32} {th : Int32} {sd : Int64} {d : Nat} (hV : VA hs T A) (htr : PG A tr) (hi : i < n) (hn : n < 100) (hp : ((((((((sd * (6364136223846793005 : Int64)) + (1442695040888963407 : Int64))).toUInt64 >>> (((33 : Int32)).toInt64.toUInt64 &&& Int64.toUInt64 63)).toInt64 - ((((sd * (6364136223846793005 : Int64)) + (1442695040888963407 : Int64))).toUInt64 >>> (((33 : Int32)).toInt64.toUInt64 &&& Int64.toUInt64 63)).toInt64 / (12 : Int64) * (12 : Int64))).toInt32)) = nI p) :
    ∃ x5 x6 x7, f_X6_towns_28 (nI hs) P (nI n) (d + 1) th sd tr (nI s) (nI i) = f_X6_towns_126 (nI hs) P (nI n) (f_X6_towns_28 (nI hs) P (nI n) d) th ((sd * (6364136223846793005 : Int64)) + (1442695040888963407 : Int64)) tr (nI s) (nI i) (nI p) x5 x6 x7 ∧ (0 < hs → x5 = nI (hrN A 0)) ∧ (1 < hs → x6 = nI (hrN A 1)) ∧ (2 < hs → x7 = nI (hrN A 2)) := by
  have h3 := hV.1
  have hl := hV.lt
  have e : ∀ h, h < 3 → f_X6_heirsNow tr (nI h) = some (nI (hrN A h)) := fun h hh => heirsNow_r hV.bd htr (by omega) (by omega) (by omega)
  refine ⟨if 0 < hs then nI (hrN A 0) else nI 0, if 1 < hs then nI (hrN A 1) else nI 0, if 2 < hs then nI (hrN A 2) else nI 0, ?_, fun z => if_pos z, fun z => if_pos z, fun z => if_pos z⟩
  show f_X6_towns_28_b _ _ _ _ _ _ _ _ _ = _
  unfold f_X6_towns_28_b
  rw [hp]
  generalize sd * (6364136223846793005 : Int64) + (1442695040888963407 : Int64) = sd'
  simp only [kl0, kl1, kl2, kl3, kl4, kl5, kl6, kl7, kl8, kl9, kl10, kl12, kl13, kl14, kl20, kl21, kl22, kl23, kl24, kl25, kl26, kl30, kl31, kl33, kl48, kl49, kl57, kl65, kl66, kl67, kl72, kl89, kl100, kl128, kl255]
  rw [if_neg (nI_ge hi (by omega)), e 0 (by omega), kb1_some]
  refine (tw_lv2 (fun t => f_X6_towns_82 (nI hs) P (nI n) (f_X6_towns_28 (nI hs) P (nI n) d) th sd' tr (nI s) (nI i) (nI p) t) (hs := hs) (g := 0) h3 (by omega)).trans ?_
  unfold f_X6_towns_82
  simp only [kl0, kl1, kl2, kl3, kl4, kl5, kl6, kl7, kl8, kl9, kl10, kl12, kl13, kl14, kl20, kl21, kl22, kl23, kl24, kl25, kl26, kl30, kl31, kl33, kl48, kl49, kl57, kl65, kl66, kl67, kl72, kl89, kl100, kl128, kl255]
  rw [e 1 (by omega), kb1_some]
  refine (tw_lv2 (fun t => f_X6_towns_104 (nI hs) P (nI n) (f_X6_towns_28 (nI hs) P (nI n) d) th sd' tr (nI s) (nI i) (nI p) _ t) (hs := hs) (g := 1) h3 (by omega)).trans ?_
  unfold f_X6_towns_104
  simp only [kl0, kl1, kl2, kl3, kl4, kl5, kl6, kl7, kl8, kl9, kl10, kl12, kl13, kl14, kl20, kl21, kl22, kl23, kl24, kl25, kl26, kl30, kl31, kl33, kl48, kl49, kl57, kl65, kl66, kl67, kl72, kl89, kl100, kl128, kl255]
  rw [e 2 (by omega), kb1_some]
  exact tw_lv2 (fun t => f_X6_towns_126 (nI hs) P (nI n) (f_X6_towns_28 (nI hs) P (nI n) d) th sd' tr (nI s) (nI i) (nI p) _ _ t) (hs := hs) (g := 2) h3 (by omega)
theorem towns_l {hs S n cn : Nat} {wo : Nat → Nat} {P : Nat → Int32} {nho nch nli nsi nih nye : Int32} {nwr nbi nhm nki nwe wr bi hm ki we : Nat → Int32} {ih : Int32} (hn : n ≤ 30) (hS : S + 31 ≤ 600) (hP : P 25 = nI cn) :
    ∀ (m k fuel : Nat) (A : Nat → Nat) (li si ye : Int32) (tr : Nat → Int32) (sd : Int64) (s : Nat), k + m = n → m < fuel → VA hs (S + k) A → A 25 = cn → TR hs wo A (nI hs) (nI cn) li si ih ye wr bi hm ki we → PG A tr →
    ∃ u v, f_X5_towns_38 nho nch nli nsi nih nye nwr nbi nhm nki nwe (nI n) fuel sd (nI hs) (nI cn) li si ih ye wr bi hm ki we (nI s) (nI (ahA A hs)) (nI k) = some u ∧ f_X6_towns_28 (nI hs) P (nI n) fuel (nI 0) sd tr (nI s) (nI k) = some v ∧ u.1 = v.1 ∧ u.2.1 = v.2.2.1 := by
  intro m
  induction m with
  | zero =>
    intro k fuel A li si ye tr sd s hk hf hV hA hT htr
    obtain ⟨d, rfl⟩ : ∃ d, fuel = d + 1 := ⟨fuel - 1, by omega⟩
    have e : k = n := by omega
    subst e
    simp only [f_X5_towns_38, f_X5_towns_38_b, f_X6_towns_28, f_X6_towns_28_b]
    rw [if_pos (nI_le (Nat.le_refl _) (by omega)), if_pos (nI_le (Nat.le_refl _) (by omega))]
    exact ⟨_, _, rfl, rfl, rfl, rfl⟩
  | succ m ih2 =>
    intro k fuel A li si ye tr sd s hk hf hV hA hT htr
    obtain ⟨d, rfl⟩ : ∃ d, fuel = d + 1 := ⟨fuel - 1, by omega⟩
    obtain ⟨p, hp, ep⟩ := tpk_n (sd * (6364136223846793005 : Int64) + (1442695040888963407 : Int64))
    subst hA
    have h7 := hV.2.2.1
    have h3 := hV.1
    obtain ⟨x5, x6, x7, r1, r2, r3, r4⟩ := tw_before (P := P) (n := n) (i := k) (s := s) (th := nI 0) (sd := sd) (d := d) hV htr (by omega) (by omega) ep
    obtain ⟨B, li', si', ye', tr', s1, s2, s3, s4, s5, s6⟩ := stir_n (P := P) (x1 := nI n) (th := nI 0) (sd := sd * (6364136223846793005 : Int64) + (1442695040888963407 : Int64)) (x2 := nI s) (x3 := nI k) (x5 := x5) (x6 := x6) (t0 := x7) (K := f_X6_towns_28 (nI hs) P (nI n) d) hV (by omega) hT hP htr hp
    have g7 := s2.2.2.1
    rw [r1, s6, tw_after h7 s2 s5 r2 r3 r4]
    have s4b := s4
    obtain ⟨-, -, q3, q4, -, -, -, q8, -⟩ := s4b
    have hA2 := allH_n s2 q8
    have hc := cdiff_n (A := A) (B := B) h3 h7 g7
    rw [s3, ← q3, ← q4] at hA2
    simp only [f_X5_towns_38, f_X5_towns_38_b]
    rw [ep]
    have ih2 := ih2 (k + 1) d B li' si' ye' tr' (sd * (6364136223846793005 : Int64) + (1442695040888963407 : Int64)) (s + cdf A B hs) (by omega) (by omega) s2 s3 s4 s5
    generalize sd * (6364136223846793005 : Int64) + (1442695040888963407 : Int64) = sd' at *
    simp only [kl0, kl1, kl2, kl3, kl4, kl5, kl6, kl7, kl8, kl9, kl10, kl12, kl13, kl14, kl20, kl21, kl22, kl23, kl24, kl25, kl26, kl30, kl31, kl33, kl48, kl49, kl57, kl65, kl66, kl67, kl72, kl89, kl100, kl128, kl255]
    rw [if_neg (nI_ge (by omega) (by omega)), s1, kb1_some]
    dsimp only
    rw [hA2, kb1_some, hc, kb1_some, nI_add, k_s1]
    exact ih2
theorem in_30 (x : Int32) : f_X6_in x.toInt64 1 30 = some (nI (decide (1 ≤ x.toInt ∧ x.toInt ≤ 30)).toNat) := by
  rw [in_x, Int32.toInt_toInt64]
  rfl
theorem cmd_towns {A : Nat → Nat} {P : Nat → Int32} {hs T : Nat} {wo : Nat → Nat} {ho ch li si ih ye : Int32} {wr bi hm ki we : Nat → Int32} (hV : VA hs T A) (hT6 : T + 31 ≤ 600) (hT : TR hs wo A ho ch li si ih ye wr bi hm ki we) (hP : PG A P) (d1 d2 d3 d4 d5 d6 : Int32) (e1 e2 e3 e4 e5 : Nat → Int32) (th : Int32) (tr : Nat → Int32) (sd : Int64) (x : Int32) :
    ∃ u v, f_X5_towns ho ch li si ih ye wr bi hm ki we sd d1 d2 d3 d4 d5 d6 e1 e2 e3 e4 e5 x = some u ∧ f_X6_towns (nI hs) P th sd tr x = some v ∧ u.1 = v.1 ∧ u.2.1 = v.2.2.1 := by
  have h7 := hV.2.2.1
  have h3 := hV.1
  unfold f_X5_towns f_X6_towns
  rw [in_30 x]
  simp only [kl0, kl1, kl2, kl3, kl4, kl5, kl6, kl7, kl8, kl9, kl10, kl12, kl13, kl14, kl20, kl21, kl22, kl23, kl24, kl25, kl26, kl30, kl31, kl33, kl48, kl49, kl57, kl65, kl66, kl67, kl72, kl89, kl100, kl128, kl255]
  rw [kb1_some, ki0]
  have c1 : (x < nI 1) = (x.toInt < 1) := propext (by rw [Int32.lt_iff_toInt_lt]; rfl)
  have c2 : (x ≤ nI 30) = (x.toInt ≤ 30) := propext (by rw [Int32.le_iff_toInt_le]; rfl)
  simp only [c1, c2]
  by_cases hx : 1 ≤ x.toInt ∧ x.toInt ≤ 30
  · rw [decide_eq_true hx, if_neg (show ¬ x.toInt < 1 by omega), if_pos hx.2, if_pos rfl]
    obtain ⟨n, hn, rfl⟩ := nn_of (x := x) (by omega)
    rw [nI_toInt hn] at hx
    obtain ⟨w', b', m', k', v', t1, t2⟩ := take_TR h3 h7 hT d1 d2 d3 d4 d5 d6 e1 e2 e3 e4 e5
    obtain ⟨tr', g1, g2⟩ := begin_n hP tr
    rw [t1, kb1_some, g1, kb1_some]
    have t3 := t2
    obtain ⟨rfl, rfl, rfl, rfl, -, -, -, q8, -⟩ := t3
    dsimp only
    rw [allH_n hV q8, kb1_some]
    exact towns_l (S := T) (wo := wo) (by omega) hT6 (hP 25 (by omega)) n 0 1000 A _ _ _ tr' sd 0 (by omega) (by omega) hV rfl t2 g2
  · rw [decide_eq_false hx, if_neg Bool.false_ne_true]
    by_cases h1 : x.toInt < 1
    · rw [if_pos h1]
      exact ⟨_, _, rfl, rfl, rfl, rfl⟩
    · rw [if_neg h1, if_neg (by omega)]
      exact ⟨_, _, rfl, rfl, rfl, rfl⟩
