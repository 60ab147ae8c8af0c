/-! MATH 21: fractions in least terms -/
theorem k_ne0 {n : Nat} (h0 : 0 < n) (h : n < 2 ^ 31) : ¬ nI n = nI 0 := nI_ne0 h0 h
theorem gcd_st {p q : Nat} : Nat.gcd q (p % q) = Nat.gcd p q := by rw [Nat.gcd_comm p q, Nat.gcd_rec q p, Nat.gcd_comm]
theorem mod_hf {p q : Nat} (h : 0 < p % q) (hq : 0 < q) : q % (p % q) + (q % (p % q)) < q := by
  have h1 : p % q < q := Nat.mod_lt _ hq
  have h2 : q % (p % q) < p % q := Nat.mod_lt _ h
  have h3 := Nat.div_add_mod q (p % q)
  have h4 : 0 < q / (p % q) := Nat.div_pos (by omega) h
  have h5 : p % q ≤ p % q * (q / (p % q)) := Nat.le_mul_of_pos_right _ h4
  omega
theorem euc5 {x0 x1 x2 : Int32} : ∀ (k p q st fuel : Nat), q < 2 ^ k → p < 2 ^ 31 → q < 2 ^ 31 → 2 * k < fuel → st + 2 * k < 100 → f_X5_inLeastTerms_8 x0 x1 x2 fuel (nI p) (nI q) (nI st) = f_X5_inLeastTerms_39 x0 x1 x2 (nI (Nat.gcd p q)) := by
  intro k
  induction k with
  | zero =>
    intro p q st fuel h1 h2 h3 h4 h5
    obtain ⟨d, rfl⟩ : ∃ d, fuel = d + 1 := ⟨fuel - 1, by omega⟩
    have e : q = 0 := by omega
    subst e
    simp only [f_X5_inLeastTerms_8, f_X5_inLeastTerms_8_b, kl0, kl1, kl2, kl3, kl4, kl5, kl6, kl7, kl8, kl9, kl10, kl12, kl13, kl14, kl20, kl21, kl22, kl23, kl24, kl25, kl26, kl30, kl31, kl33, kl48, kl49, kl57, kl65, kl66, kl67, kl72, kl89, kl100, kl128, kl255, if_true]
    rw [Nat.gcd_zero_right]
  | succ k ih =>
    intro p q st fuel h1 h2 h3 h4 h5
    obtain ⟨d, rfl⟩ : ∃ d, fuel = d + 2 := ⟨fuel - 2, by omega⟩
    by_cases e : q = 0
    · subst e
      simp only [f_X5_inLeastTerms_8, f_X5_inLeastTerms_8_b, kl0, kl1, kl2, kl3, kl4, kl5, kl6, kl7, kl8, kl9, kl10, kl12, kl13, kl14, kl20, kl21, kl22, kl23, kl24, kl25, kl26, kl30, kl31, kl33, kl48, kl49, kl57, kl65, kl66, kl67, kl72, kl89, kl100, kl128, kl255, if_true]
      rw [Nat.gcd_zero_right]
    · have hr : p % q < q := Nat.mod_lt _ (by omega)
      have step : f_X5_inLeastTerms_8 x0 x1 x2 (d + 2) (nI p) (nI q) (nI st) = f_X5_inLeastTerms_8 x0 x1 x2 (d + 1) (nI q) (nI (p % q)) (nI (st + 1)) := by
        show f_X5_inLeastTerms_8_b x0 x1 x2 (f_X5_inLeastTerms_8 x0 x1 x2 (d + 1)) (nI p) (nI q) (nI st) = _
        simp only [f_X5_inLeastTerms_8_b, kl0, kl1, kl2, kl3, kl4, kl5, kl6, kl7, kl8, kl9, kl10, kl12, kl13, kl14, kl20, kl21, kl22, kl23, kl24, kl25, kl26, kl30, kl31, kl33, kl48, kl49, kl57, kl65, kl66, kl67, kl72, kl89, kl100, kl128, kl255]
        rw [if_neg (k_ne0 (by omega) h3), if_neg (nI_ge (by omega) (by omega)), kg_yes (knz_y h3 (by omega)), k_mod h2 (by omega) h3, k_s1]
      rw [step, ← gcd_st]
      by_cases er : p % q = 0
      · rw [er]
        exact ih q 0 (st + 1) (d + 1) (Nat.two_pow_pos k) h3 (by omega) (by omega) (by omega)
      · have hh := mod_hf (p := p) (q := q) (by omega) (by omega)
        have step2 : f_X5_inLeastTerms_8 x0 x1 x2 (d + 1) (nI q) (nI (p % q)) (nI (st + 1)) = f_X5_inLeastTerms_8 x0 x1 x2 d (nI (p % q)) (nI (q % (p % q))) (nI (st + 1 + 1)) := by
          show f_X5_inLeastTerms_8_b x0 x1 x2 (f_X5_inLeastTerms_8 x0 x1 x2 d) (nI q) (nI (p % q)) (nI (st + 1)) = _
          simp only [f_X5_inLeastTerms_8_b, kl0, kl1, kl2, kl3, kl4, kl5, kl6, kl7, kl8, kl9, kl10, kl12, kl13, kl14, kl20, kl21, kl22, kl23, kl24, kl25, kl26, kl30, kl31, kl33, kl48, kl49, kl57, kl65, kl66, kl67, kl72, kl89, kl100, kl128, kl255]
          rw [if_neg (k_ne0 (by omega) (by omega)), if_neg (nI_ge (by omega) (by omega)), kg_yes (knz_y (by omega) (by omega)), k_mod h3 (by omega) (by omega), k_s1]
        rw [step2, ← gcd_st (p := q) (q := p % q)]
        have h2k : 2 ^ (k + 1) = 2 ^ k * 2 := Nat.pow_succ ..
        exact ih (p % q) (q % (p % q)) (st + 1 + 1) d (by omega) (by omega) (by omega) (by omega) (by omega)
theorem euc6 {x0 x1 : Int32} : ∀ (k p q fuel : Nat), q < 2 ^ k → p < 2 ^ 31 → q < 2 ^ 31 → 2 * k < fuel → f_X6_divisor_13 x0 x1 fuel (nI p) (nI q) = some (nI (Nat.gcd p q)) := by
  intro k
  induction k with
  | zero =>
    intro p q fuel h1 h2 h3 h4
    obtain ⟨d, rfl⟩ : ∃ d, fuel = d + 1 := ⟨fuel - 1, by omega⟩
    have e : q = 0 := by omega
    subst e
    simp only [f_X6_divisor_13, f_X6_divisor_13_b, kl0, kl1, kl2, kl3, kl4, kl5, kl6, kl7, kl8, kl9, kl10, kl12, kl13, kl14, kl20, kl21, kl22, kl23, kl24, kl25, kl26, kl30, kl31, kl33, kl48, kl49, kl57, kl65, kl66, kl67, kl72, kl89, kl100, kl128, kl255, if_true]
    rw [Nat.gcd_zero_right]
  | succ k ih =>
    intro p q fuel h1 h2 h3 h4
    obtain ⟨d, rfl⟩ : ∃ d, fuel = d + 2 := ⟨fuel - 2, by omega⟩
    by_cases e : q = 0
    · subst e
      simp only [f_X6_divisor_13, f_X6_divisor_13_b, kl0, kl1, kl2, kl3, kl4, kl5, kl6, kl7, kl8, kl9, kl10, kl12, kl13, kl14, kl20, kl21, kl22, kl23, kl24, kl25, kl26, kl30, kl31, kl33, kl48, kl49, kl57, kl65, kl66, kl67, kl72, kl89, kl100, kl128, kl255, if_true]
      rw [Nat.gcd_zero_right]
    · have hr : p % q < q := Nat.mod_lt _ (by omega)
      have step : f_X6_divisor_13 x0 x1 (d + 2) (nI p) (nI q) = f_X6_divisor_13 x0 x1 (d + 1) (nI q) (nI (p % q)) := by
        show f_X6_divisor_13_b x0 x1 (f_X6_divisor_13 x0 x1 (d + 1)) (nI p) (nI q) = _
        simp only [f_X6_divisor_13_b, kl0, kl1, kl2, kl3, kl4, kl5, kl6, kl7, kl8, kl9, kl10, kl12, kl13, kl14, kl20, kl21, kl22, kl23, kl24, kl25, kl26, kl30, kl31, kl33, kl48, kl49, kl57, kl65, kl66, kl67, kl72, kl89, kl100, kl128, kl255]
        rw [if_neg (k_ne0 (by omega) h3), kg_yes (knz_y h3 (by omega)), k_mod h2 (by omega) h3]
      rw [step, ← gcd_st]
      by_cases er : p % q = 0
      · rw [er]
        exact ih q 0 (d + 1) (Nat.two_pow_pos k) h3 (by omega) (by omega)
      · have hh := mod_hf (p := p) (q := q) (by omega) (by omega)
        have step2 : f_X6_divisor_13 x0 x1 (d + 1) (nI q) (nI (p % q)) = f_X6_divisor_13 x0 x1 d (nI (p % q)) (nI (q % (p % q))) := by
          show f_X6_divisor_13_b x0 x1 (f_X6_divisor_13 x0 x1 d) (nI q) (nI (p % q)) = _
          simp only [f_X6_divisor_13_b, kl0, kl1, kl2, kl3, kl4, kl5, kl6, kl7, kl8, kl9, kl10, kl12, kl13, kl14, kl20, kl21, kl22, kl23, kl24, kl25, kl26, kl30, kl31, kl33, kl48, kl49, kl57, kl65, kl66, kl67, kl72, kl89, kl100, kl128, kl255]
          rw [if_neg (k_ne0 (by omega) (by omega)), kg_yes (knz_y (by omega) (by omega)), k_mod h3 (by omega) (by omega)]
        rw [step2, ← gcd_st (p := q) (q := p % q)]
        have h2k : 2 ^ (k + 1) = 2 ^ k * 2 := Nat.pow_succ ..
        exact ih (p % q) (q % (p % q)) d (by omega) (by omega) (by omega) (by omega)
/-- one of the two of a fraction -/
def frc (a b : Nat) (x : Int32) : Int32 := if x = nI 0 then nI (b / Nat.gcd a b) else nI (a / Nat.gcd a b)
theorem frc5 {a b : Nat} (ha : a < 2 ^ 31) (h0 : 0 < b) (hb : b < 2 ^ 31) (x : Int32) : f_X5_inLeastTerms (nI a) (nI b) x = some (frc a b x) := by
  have hg : 0 < Nat.gcd a b := Nat.gcd_pos_of_pos_right a h0
  have hg2 : Nat.gcd a b ≤ b := Nat.gcd_le_right a h0
  unfold f_X5_inLeastTerms
  rw [kl0, euc5 31 a b 0 1000 (by omega) ha hb (by omega) (by omega)]
  unfold f_X5_inLeastTerms_39 f_X5_inLeastTerms_54 frc
  simp only [kl0, kl1, kl2, kl3, kl4, kl5, kl6, kl7, kl8, kl9, kl10, kl12, kl13, kl14, kl20, kl21, kl22, kl23, kl24, kl25, kl26, kl30, kl31, kl33, kl48, kl49, kl57, kl65, kl66, kl67, kl72, kl89, kl100, kl128, kl255]
  rw [if_neg (k_ne0 hg (by omega)), kg_yes (knz_y (by omega) hg), kg_yes (knz_y (by omega) hg), k_div hb hg (by omega), k_div ha hg (by omega)]
  by_cases e : x = nI 0
  · rw [if_pos e, if_pos e]
  · rw [if_neg e, if_neg e]
theorem frc6 {a b : Nat} (ha : a < 2 ^ 31) (h0 : 0 < b) (hb : b < 2 ^ 31) (x : Int32) : f_X6_fraction (nI a) (nI b) x = some (frc a b x) := by
  have hg : 0 < Nat.gcd a b := Nat.gcd_pos_of_pos_right a h0
  have hg2 : Nat.gcd a b ≤ b := Nat.gcd_le_right a h0
  unfold f_X6_fraction f_X6_divisor
  rw [if_pos (nI_pos' ha), euc6 31 a b 1000 (by omega) ha hb (by omega), kb1_some, kg_yes (knz_y (by omega) hg), kg_yes (knz_y (by omega) hg), k_div hb hg (by omega), k_div ha hg (by omega)]
  unfold frc
  simp only [kl0, kl1, kl2, kl3, kl4, kl5, kl6, kl7, kl8, kl9, kl10, kl12, kl13, kl14, kl20, kl21, kl22, kl23, kl24, kl25, kl26, kl30, kl31, kl33, kl48, kl49, kl57, kl65, kl66, kl67, kl72, kl89, kl100, kl128, kl255]
  by_cases e : x = nI 0
  · rw [if_pos e, if_pos e]
  · rw [if_neg e, if_neg e]
theorem frc_sc {k : Nat} (hk : 0 < k) (a b : Nat) (x : Int32) : frc (a * k) (b * k) x = frc a b x := by
  unfold frc
  rw [Nat.gcd_mul_right, Nat.mul_div_mul_right _ _ hk, Nat.mul_div_mul_right _ _ hk]
