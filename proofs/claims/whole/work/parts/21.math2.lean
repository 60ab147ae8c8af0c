/-! MATH 2: who is older, the first, the heirs: class and reference -/
theorem get_n {n c : Nat} {f : Nat → Int32} (hn : n < 2 ^ 31) (hc : c < n) : f_X1_get n f (nI c) = some (f c) := by
  unfold f_X1_get
  simp only [kl0]
  rw [if_neg (k_pos (by omega)), if_neg (show ¬ Int32.ofNat n ≤ nI c from nI_ge hc hn), kg_yes (kin_y (by omega) hc), nI_clamp (by omega)]
theorem get_out {n c : Nat} {f : Nat → Int32} (hc : n ≤ c) (h : c < 2 ^ 31) : f_X1_get n f (nI c) = some (nI 0) := by
  unfold f_X1_get
  simp only [kl0]
  rw [if_neg (k_pos h), if_pos (show Int32.ofNat n ≤ nI c from nI_le hc h)]
theorem set_n {n c : Nat} {f : Nat → Int32} {x : Int32} (hn : n < 2 ^ 31) (hc : c < n) : f_X1_set n f (nI c) x = some (upd f c x) := by
  unfold f_X1_set
  simp only [kl0]
  rw [if_neg (k_pos (by omega)), if_neg (show ¬ Int32.ofNat n ≤ nI c from nI_ge hc hn), kg_yes (kin_y (by omega) hc), nI_clamp (by omega)]
theorem bi_eq {Y p q : Nat} (hY : Y < 2 ^ 30) (hp : p < 2 ^ 30) (hq : q < 2 ^ 30) : (nI Y - nI p = nI Y - nI q) ↔ p = q := by
  rw [← Int32.toInt_inj, pk_sub_toInt hY hp, pk_sub_toInt hY hq]; omega
theorem bi_le {Y p q : Nat} (hY : Y < 2 ^ 30) (hp : p < 2 ^ 30) (hq : q < 2 ^ 30) : (nI Y - nI p ≤ nI Y - nI q) ↔ q ≤ p := by
  rw [Int32.le_iff_toInt_le, pk_sub_toInt hY hp, pk_sub_toInt hY hq]; omega
/-- a page's numbers: ages 0.., houses 7.., what they have 14.., who lives 21, sides 22, taken 23, the year 24, how many 25, kinds 26.. -/
def CT (A : Nat → Nat) (bi ho ki : Nat → Int32) : Prop := ∀ c, c < A 25 → ho c = nI (A (7 + c)) ∧ ki c = nI (A (26 + c)) ∧ bi c = nI (A 24) - nI (A c)
def BD (A : Nat → Nat) : Prop := A 25 ≤ 7 ∧ A 24 < 100000 ∧ ∀ c, c < A 25 → A c < 100000 ∧ A (7 + c) < 3 ∧ A (26 + c) < 4
def PG (A : Nat → Nat) (P : Nat → Int32) : Prop := ∀ k, k < 33 → P k = nI (A k)
def oldA (A : Nat → Nat) (a b : Nat) : Bool := if A a = A b then (if (A (26 + a) == 1) = (A (26 + b) == 1) then decide (a < b) else (A (26 + a) == 1)) else decide (A b < A a)
theorem older_c {A : Nat → Nat} {bi ho ki : Nat → Int32} (hB : BD A) (hT : CT A bi ho ki) {a b : Nat} (ha : a < A 25) (hb : b < A 25) : f_X4_isOlder bi ki (nI a) (nI b) = some (nI (oldA A a b).toNat) := by
  have g : ∀ (f : Nat → Int32) c, c < A 25 → f_X1_get 7 f (nI c) = some (f c) := fun f c h => get_n (by decide) (by have := hB.1; omega)
  obtain ⟨-, ka, ba⟩ := hT a ha
  obtain ⟨-, kb, bb⟩ := hT b hb
  have hBa := hB.2.2 a ha
  have hBb := hB.2.2 b hb
  have hY := hB.2.1
  have h7 := hB.1
  have e1 : (nI (A 24) - nI (A a) = nI (A 24) - nI (A b)) = (A a = A b) := propext (bi_eq (by omega) (by omega) (by omega))
  have e2 : (nI (A 24) - nI (A b) ≤ nI (A 24) - nI (A a)) = (A a ≤ A b) := propext (bi_le (by omega) (by omega) (by omega))
  have e3 : (nI (A (26 + a)) = nI 1) = ((A (26 + a) == 1) = true) := propext ((nI_eq (by omega) (by omega)).trans (by simp))
  have e4 : (nI (A (26 + b)) = nI 1) = ((A (26 + b) == 1) = true) := propext ((nI_eq (by omega) (by omega)).trans (by simp))
  have e5 : (nI b ≤ nI a) = (b ≤ a) := propext (nI_leI (by omega) (by omega))
  unfold f_X4_isOlder f_X4_isOlder_61 f_X4_isOlder_80 oldA
  simp only [g _ a ha, g _ b hb, kb1_some, ka, kb, ba, bb, kl0, kl1, kl2, kl3, kl4, kl5, kl6, kl7, kl8, kl9, kl10, kl12, kl13, kl14, kl20, kl21, kl22, kl23, kl24, kl25, kl26, kl30, kl31, kl33, kl48, kl49, kl57, kl65, kl66, kl67, kl72, kl89, kl100, kl128, kl255, e1, e2, e3, e4, e5]
  by_cases hE : A a = A b
  · rw [if_pos hE, if_pos hE]
    generalize (A (26 + a) == 1) = ta
    generalize (A (26 + b) == 1) = tb
    have d : decide (a < b) = !decide (b ≤ a) := by by_cases h3 : b ≤ a <;> simp [h3] <;> omega
    rw [d]
    have z1 : ¬ (nI 0 = nI 1) := by decide
    have z2 : ¬ (nI 1 = nI 0) := by decide
    cases ta <;> cases tb <;> by_cases h3 : b ≤ a <;> simp [h3, kg, kbo_0, kbo_1, z1, z2]
  · rw [if_neg hE, if_neg hE]
    by_cases h3 : A a ≤ A b
    · rw [if_pos h3, decide_eq_false (Nat.not_lt.mpr h3)]; rfl
    · rw [if_neg h3, decide_eq_true (Nat.lt_of_not_le h3)]; rfl
def fe : Option Nat → Int32
  | none => -1
  | some g => nI g
def fe9 : Option Nat → Int32
  | none => -9
  | some g => nI g
theorem firstOf_cl {A : Nat → Nat} {bi ho ki : Nat → Int32} (hB : BD A) (hT : CT A bi ho ki) {s : Nat} (hs : s < 2 ^ 31) (o : Bool) : ∀ (m c fuel : Nat), c + m = A 25 → m < fuel → f_X4_firstOf_5 (nI (A 25)) bi ki (nI s) (nI o.toNat) fuel (fe (fsO (oldA A) (!o) s c)) (nI c) = some (nI (fbt (fsO (oldA A) (!o) s (A 25)))) := by
  have h7 := hB.1
  intro m
  induction m with
  | zero =>
    intro c fuel hc hf
    obtain ⟨k, rfl⟩ : ∃ k, fuel = k + 1 := ⟨fuel - 1, by omega⟩
    have hcn : c = A 25 := by omega
    rw [hcn]
    simp only [f_X4_firstOf_5, f_X4_firstOf_5_b, kl0, kl1, kl2, kl3, kl4, kl5, kl6, kl7, kl8, kl9, kl10, kl12, kl13, kl14, kl20, kl21, kl22, kl23, kl24, kl25, kl26, kl30, kl31, kl33, kl48, kl49, kl57, kl65, kl66, kl67, kl72, kl89, kl100, kl128, kl255]
    rw [if_pos (nI_le (Nat.le_refl _) (by omega))]
    cases hf : fsO (oldA A) (!o) s (A 25) with
    | none => rfl
    | some g =>
      have hg := (fsO_in hf).1
      show (if nI 0 ≤ nI g then _ else _) = _
      rw [if_pos (k_nn (by omega)), show f_X5_bit (fe (some g)) = some (nI (2 ^ g)) from bit_n (by omega)]
      rfl
  | succ m ih =>
    intro c fuel hc hf
    obtain ⟨k, rfl⟩ : ∃ k, fuel = k + 1 := ⟨fuel - 1, by omega⟩
    have hcn : c < A 25 := by omega
    simp only [f_X4_firstOf_5, f_X4_firstOf_5_b, kl0, kl1, kl2, kl3, kl4, kl5, kl6, kl7, kl8, kl9, kl10, kl12, kl13, kl14, kl20, kl21, kl22, kl23, kl24, kl25, kl26, kl30, kl31, kl33, kl48, kl49, kl57, kl65, kl66, kl67, kl72, kl89, kl100, kl128, kl255]
    rw [if_neg (nI_ge hcn (by omega)), isIn_n hs (by omega), kb1_some, ki0, show nI c + nI 1 = nI (c + 1) from nI_1 c]
    have ih := ih (c + 1) k (by omega) (by omega)
    rw [fsO] at ih
    cases hb : s.testBit c with
    | false =>
      rw [hb] at ih
      exact ih
    | true =>
      rw [hb] at ih
      rw [if_pos rfl] at ih ⊢
      cases hf : fsO (oldA A) (!o) s c with
      | none =>
        rw [hf] at ih
        exact ih
      | some g =>
        rw [hf] at ih
        have hg := (fsO_in hf).1
        show (if nI g < nI 0 then _ else _) = _
        rw [if_neg (k_pos (by omega))]
        show kb1 (f_X4_isOlder bi ki (nI c) (nI g)) _ = _
        rw [older_c hB hT hcn (by omega), kb1_some]
        change f_X4_firstOf_5 (nI (A 25)) bi ki (nI s) (nI o.toNat) k (fe (if (oldA A c g != !o) = true then some c else some g)) (nI (c + 1)) = _ at ih
        cases ho : oldA A c g <;> cases o <;> rw [ho] at ih <;> exact ih
theorem firstOf_c {A : Nat → Nat} {bi ho ki : Nat → Int32} (hB : BD A) (hT : CT A bi ho ki) {s : Nat} (hs : s < 2 ^ 31) (o : Bool) : f_X4_firstOf (nI (A 25)) bi ki (nI s) (nI o.toNat) = some (nI (fbt (fsO (oldA A) (!o) s (A 25)))) := by
  have h7 := hB.1
  exact firstOf_cl hB hT hs o (A 25) 0 1000 (by omega) (by omega)
/-- the heirs by a page -/
def hrA (A : Nat → Nat) (h : Nat) (yg : Bool) (al : Nat) : Nat := hrS (A 25) (fun c => A (7 + c)) (fun c => A (26 + c)) (oldA A) h yg al
theorem heirs_cl {A : Nat → Nat} {bi ho ki : Nat → Int32} (hB : BD A) (hT : CT A bi ho ki) {h al : Nat} (hh : h < 2 ^ 31) (ha : al < 2 ^ 31) (yg : Bool) : ∀ (m c fuel : Nat), c + m = A 25 → m < fuel →
    f_X4_heirsAmong_12 (nI (A 25)) bi ho ki (nI h) (nI yg.toNat) (nI al) fuel (nI (bsm (fun c => al.testBit c && A (7 + c) == h && decide (A (26 + c) < 2)) c)) (nI (bsm (fun c => al.testBit c && A (7 + c) == h && A (26 + c) == 2) c)) (nI (bsm (fun c => al.testBit c && A (7 + c) == h && A (26 + c) == 3) c)) (nI c) = some (nI (hrA A h yg al)) := by
  have h7 := hB.1
  have lt31 : ∀ p : Nat → Bool, bsm p (A 25) < 2 ^ 31 := fun p => Nat.lt_of_lt_of_le (bsm_lt p _) (Nat.pow_le_pow_right (by decide) (by omega))
  intro m
  induction m with
  | zero =>
    intro c fuel hc hf
    obtain ⟨k, rfl⟩ : ∃ k, fuel = k + 1 := ⟨fuel - 1, by omega⟩
    have hcn : c = A 25 := by omega
    rw [hcn]
    simp only [f_X4_heirsAmong_12, f_X4_heirsAmong_12_b, f_X4_heirsAmong_128, kl0, kl1, kl2, kl3, kl4, kl5, kl6, kl7, kl8, kl9, kl10, kl12, kl13, kl14, kl20, kl21, kl22, kl23, kl24, kl25, kl26, kl30, kl31, kl33, kl48, kl49, kl57, kl65, kl66, kl67, kl72, kl89, kl100, kl128, kl255]
    rw [if_pos (nI_le (Nat.le_refl _) (by omega))]
    unfold hrA hrS
    have fo : ∀ (p : Nat → Bool) (b : Bool), f_X4_firstOf (nI (A 25)) bi ki (nI (bsm p (A 25))) (nI b.toNat) = some (nI (fbt (fsO (oldA A) (!b) (bsm p (A 25)) (A 25)))) := fun p b => firstOf_c hB hT (lt31 p) b
    have z : ∀ p : Nat → Bool, (nI (bsm p (A 25)) = nI 0) = (bsm p (A 25) = 0) := fun p => propext (nI_eq (lt31 p) (by decide))
    simp only [z, ne_eq, ite_not]
    by_cases h1 : bsm (fun c => al.testBit c && A (7 + c) == h && decide (A (26 + c) < 2)) (A 25) = 0
    · rw [if_pos h1, if_pos h1]
      by_cases h2 : bsm (fun c => al.testBit c && A (7 + c) == h && A (26 + c) == 2) (A 25) = 0
      · rw [if_pos h2, if_pos h2, show nI 1 = nI true.toNat from rfl, fo]
        rfl
      · rw [if_neg h2, if_neg h2]
    · rw [if_neg h1, if_neg h1, ki0]
      cases yg with
      | false =>
        rw [if_neg (by decide), show nI 1 = nI true.toNat from rfl, fo]
        rfl
      | true =>
        rw [if_pos rfl, show nI 0 = nI false.toNat from rfl, fo]
        rfl
  | succ m ih =>
    intro c fuel hc hf
    obtain ⟨k, rfl⟩ : ∃ k, fuel = k + 1 := ⟨fuel - 1, by omega⟩
    have hcn : c < A 25 := by omega
    obtain ⟨th, tk, -⟩ := hT c hcn
    obtain ⟨-, b1, b2⟩ := hB.2.2 c hcn
    have g : ∀ (f : Nat → Int32), f_X1_get 7 f (nI c) = some (f c) := fun f => get_n (by decide) (by omega)
    have ih := ih (c + 1) k (by omega) (by omega)
    simp only [bsm] at ih
    simp only [f_X4_heirsAmong_12, f_X4_heirsAmong_12_b, kl0, kl1, kl2, kl3, kl4, kl5, kl6, kl7, kl8, kl9, kl10, kl12, kl13, kl14, kl20, kl21, kl22, kl23, kl24, kl25, kl26, kl30, kl31, kl33, kl48, kl49, kl57, kl65, kl66, kl67, kl72, kl89, kl100, kl128, kl255]
    rw [if_neg (nI_ge hcn (by omega)), g, kb1_some, th, isIn_n ha (by omega), kb1_some, ki0, g, kb1_some, tk, show nI c + nI 1 = nI (c + 1) from nI_1 c, bit_n (by omega), kb1_some, kb1_some, kb1_some]
    simp only [k_or]
    by_cases h1 : A (7 + c) = h
    · rw [if_pos (by rw [h1])]
      cases h2 : al.testBit c with
      | false =>
        simp only [h2, Bool.false_and, Nat.or_zero, Bool.false_eq_true, if_false] at ih ⊢
        exact ih
      | true =>
        rw [if_pos rfl]
        simp only [h2, h1, beq_self_eq_true, Bool.true_and, decide_eq_true_eq, beq_iff_eq] at ih
        by_cases h3 : A (26 + c) = 2
        · rw [if_pos (by rw [h3])]
          rw [if_neg (by omega), if_pos h3, if_neg (by omega), Nat.or_zero, Nat.or_zero] at ih
          exact ih
        · rw [if_neg (fun q => h3 ((nI_eq (by omega) (by omega)).mp q))]
          by_cases h4 : A (26 + c) = 3
          · rw [if_pos (by rw [h4])]
            rw [if_neg (by omega), if_neg h3, if_pos h4, Nat.or_zero, Nat.or_zero] at ih
            exact ih
          · rw [if_neg (fun q => h4 ((nI_eq (by omega) (by omega)).mp q))]
            rw [if_pos (by omega), if_neg h3, if_neg h4, Nat.or_zero, Nat.or_zero] at ih
            exact ih
    · rw [if_neg (fun q => h1 ((nI_eq (by omega) hh).mp q))]
      have h1b : (A (7 + c) == h) = false := by simp [h1]
      simp only [h1b, Bool.and_false, Bool.false_and, Nat.or_zero, Bool.false_eq_true, if_false] at ih
      exact ih
theorem heirs_c {A : Nat → Nat} {bi ho ki : Nat → Int32} (hB : BD A) (hT : CT A bi ho ki) {h al : Nat} (hh : h < 2 ^ 31) (ha : al < 2 ^ 31) (yg : Bool) : f_X4_heirsAmong (nI (A 25)) bi ho ki (nI h) (nI yg.toNat) (nI al) = some (nI (hrA A h yg al)) := by
  have h7 := hB.1
  exact heirs_cl hB hT hh ha yg (A 25) 0 1000 (by omega) (by omega)
theorem older_r {A : Nat → Nat} {P : Nat → Int32} (hB : BD A) (hP : PG A P) {a b : Nat} (ha : a < A 25) (hb : b < A 25) : f_X6_isOlder P (nI a) (nI b) = some (nI (oldA A a b).toNat) := by
  have h7 := hB.1
  have hBa := hB.2.2 a ha
  have hBb := hB.2.2 b hb
  have q0 : ∀ c, c < 7 → kin (nI 0 + nI c) 33 = true ∧ P ((nI 0 + nI c).toNatClampNeg) = nI (A c) := by
    intro c hc
    rw [nI_add, Nat.zero_add]
    exact ⟨kin_y (by omega) (by omega), by rw [nI_clamp (by omega)]; exact hP c (by omega)⟩
  have q26 : ∀ c, c < 7 → kin (nI 26 + nI c) 33 = true ∧ P ((nI 26 + nI c).toNatClampNeg) = nI (A (26 + c)) := by
    intro c hc
    rw [nI_add]
    exact ⟨kin_y (by omega) (by omega), by rw [nI_clamp (by omega)]; exact hP (26 + c) (by omega)⟩
  have a0 := q0 a (by omega)
  have b0 := q0 b (by omega)
  have a26 := q26 a (by omega)
  have b26 := q26 b (by omega)
  have e1 : (nI (A a) = nI (A b)) = (A a = A b) := propext (nI_eq (by omega) (by omega))
  have e2 : (nI (A a) ≤ nI (A b)) = (A a ≤ A b) := propext (nI_leI (by omega) (by omega))
  have e3 : (nI (A (26 + a)) = nI 1) = ((A (26 + a) == 1) = true) := propext ((nI_eq (by omega) (by omega)).trans (by simp))
  have e4 : (nI (A (26 + b)) = nI 1) = ((A (26 + b) == 1) = true) := propext ((nI_eq (by omega) (by omega)).trans (by simp))
  have e5 : (nI b ≤ nI a) = (b ≤ a) := propext (nI_leI (by omega) (by omega))
  unfold f_X6_isOlder f_X6_isOlder_47 f_X6_isOlder_63 oldA
  simp only [kl0, kl1, kl2, kl3, kl4, kl5, kl6, kl7, kl8, kl9, kl10, kl12, kl13, kl14, kl20, kl21, kl22, kl23, kl24, kl25, kl26, kl30, kl31, kl33, kl48, kl49, kl57, kl65, kl66, kl67, kl72, kl89, kl100, kl128, kl255, a0.1, b0.1, a26.1, b26.1, a0.2, b0.2, a26.2, b26.2, kg_tr, e1, e2, e3, e4, e5]
  by_cases hE : A a = A b
  · rw [if_pos hE, if_pos hE]
    generalize (A (26 + a) == 1) = ta
    generalize (A (26 + b) == 1) = tb
    have d : decide (a < b) = !decide (b ≤ a) := by by_cases h3 : b ≤ a <;> simp [h3] <;> omega
    rw [d]
    have z1 : ¬ (nI 0 = nI 1) := by decide
    have z2 : ¬ (nI 1 = nI 0) := by decide
    cases ta <;> cases tb <;> by_cases h3 : b ≤ a <;> simp [h3, kg, kbo_0, kbo_1, z1, z2]
  · rw [if_neg hE, if_neg hE]
    by_cases h3 : A a ≤ A b
    · rw [if_pos h3, decide_eq_false (Nat.not_lt.mpr h3)]; rfl
    · rw [if_neg h3, decide_eq_true (Nat.lt_of_not_le h3)]; rfl
theorem firstOf_rl {A : Nat → Nat} {P : Nat → Int32} (hB : BD A) (hP : PG A P) {s : Nat} (hs : s < 2 ^ A 25) (y : Bool) : ∀ (m c fuel : Nat), c + m = 7 → m < fuel → f_X6_firstOf_6 P (nI s) (nI y.toNat) fuel (fe9 (fsO (oldA A) y s c)) (nI c) = some (nI (fbt (fsO (oldA A) y s 7))) := by
  have h7 := hB.1
  have hs31 : s < 2 ^ 31 := Nat.lt_of_lt_of_le hs (Nat.pow_le_pow_right (by decide) (by omega))
  intro m
  induction m with
  | zero =>
    intro c fuel hc hf
    obtain ⟨k, rfl⟩ : ∃ k, fuel = k + 1 := ⟨fuel - 1, by omega⟩
    have hcn : c = 7 := by omega
    rw [hcn]
    simp only [f_X6_firstOf_6, f_X6_firstOf_6_b, kl0, kl1, kl2, kl3, kl4, kl5, kl6, kl7, kl8, kl9, kl10, kl12, kl13, kl14, kl20, kl21, kl22, kl23, kl24, kl25, kl26, kl30, kl31, kl33, kl48, kl49, kl57, kl65, kl66, kl67, kl72, kl89, kl100, kl128, kl255]
    rw [if_pos (nI_le (Nat.le_refl _) (by omega))]
    cases hf : fsO (oldA A) y s 7 with
    | none => rfl
    | some g =>
      have hg := (fsO_in hf).1
      show (if nI g = -nI 9 then some (nI 0) else some (nI 1 <<< (nI g &&& nI 31))) = _
      rw [if_neg, k_sh1 (by omega)]
      · rfl
      · intro q
        have : ∀ g, g < 7 → ¬ nI g = -nI 9 := by decide
        exact this g hg q
  | succ m ih =>
    intro c fuel hc hf
    obtain ⟨k, rfl⟩ : ∃ k, fuel = k + 1 := ⟨fuel - 1, by omega⟩
    have hcn : c < 7 := by omega
    simp only [f_X6_firstOf_6, f_X6_firstOf_6_b, kl0, kl1, kl2, kl3, kl4, kl5, kl6, kl7, kl8, kl9, kl10, kl12, kl13, kl14, kl20, kl21, kl22, kl23, kl24, kl25, kl26, kl30, kl31, kl33, kl48, kl49, kl57, kl65, kl66, kl67, kl72, kl89, kl100, kl128, kl255]
    rw [if_neg (nI_ge hcn (by omega)), has_n hs31 (by omega), kb1_some, ki0, show nI c + nI 1 = nI (c + 1) from nI_1 c]
    have ih := ih (c + 1) k (by omega) (by omega)
    rw [fsO] at ih
    cases hb : s.testBit c with
    | false =>
      rw [hb] at ih
      exact ih
    | true =>
      have hcA : c < A 25 := by
        rcases Nat.lt_or_ge c (A 25) with q | q
        · exact q
        · rw [tb_big hs q] at hb; cases hb
      rw [hb] at ih
      rw [if_pos rfl] at ih ⊢
      cases hf : fsO (oldA A) y s c with
      | none =>
        rw [hf] at ih
        exact ih
      | some g =>
        rw [hf] at ih
        have hg := (fsO_in hf).1
        show (if nI g = -nI 9 then _ else _) = _
        rw [if_neg (fun q => (by decide : ∀ g, g < 7 → ¬ nI g = -nI 9) g (by omega) q)]
        show kb1 (f_X6_isOlder P (nI c) (nI g)) _ = _
        rw [older_r hB hP hcA (by omega), kb1_some]
        change f_X6_firstOf_6 P (nI s) (nI y.toNat) k (fe9 (if (oldA A c g != y) = true then some c else some g)) (nI (c + 1)) = _ at ih
        cases ho : oldA A c g <;> cases y <;> rw [ho] at ih <;> exact ih
theorem firstOf_r {A : Nat → Nat} {P : Nat → Int32} (hB : BD A) (hP : PG A P) {s : Nat} (hs : s < 2 ^ A 25) (y : Bool) : f_X6_firstOf P (nI s) (nI y.toNat) = some (nI (fbt (fsO (oldA A) y s (A 25)))) := by
  have h7 := hB.1
  have h := firstOf_rl hB hP hs y 7 0 1000 (by omega) (by omega)
  have e : fsO (oldA A) y s 7 = fsO (oldA A) y s (A 25) := by
    have := fsO_more (old := oldA A) (y := y) hs (7 - A 25)
    rw [show A 25 + (7 - A 25) = 7 by omega] at this
    exact this
  rw [e] at h
  exact h
theorem heirs_rl {A : Nat → Nat} {P : Nat → Int32} (hB : BD A) (hP : PG A P) {h al : Nat} (hh : h < 2 ^ 31) (ha : al < 2 ^ 31) (yg : Bool) : ∀ (m c fuel : Nat), c + m = A 25 → m < fuel →
    f_X6_heirsOf_12 P (nI h) (nI yg.toNat) (nI al) fuel (nI (bsm (fun c => al.testBit c && A (7 + c) == h && decide (A (26 + c) < 2)) c)) (nI (bsm (fun c => al.testBit c && A (7 + c) == h && A (26 + c) == 2) c)) (nI (bsm (fun c => al.testBit c && A (7 + c) == h && A (26 + c) == 3) c)) (nI c) = some (nI (hrA A h yg al)) := by
  have h7 := hB.1
  have lt31 : ∀ p : Nat → Bool, bsm p (A 25) < 2 ^ 31 := fun p => Nat.lt_of_lt_of_le (bsm_lt p _) (Nat.pow_le_pow_right (by decide) (by omega))
  intro m
  induction m with
  | zero =>
    intro c fuel hc hf
    obtain ⟨k, rfl⟩ : ∃ k, fuel = k + 1 := ⟨fuel - 1, by omega⟩
    have hcn : c = A 25 := by omega
    rw [hcn]
    simp only [f_X6_heirsOf_12, f_X6_heirsOf_12_b, f_X6_heirsOf_141, kl0, kl1, kl2, kl3, kl4, kl5, kl6, kl7, kl8, kl9, kl10, kl12, kl13, kl14, kl20, kl21, kl22, kl23, kl24, kl25, kl26, kl30, kl31, kl33, kl48, kl49, kl57, kl65, kl66, kl67, kl72, kl89, kl100, kl128, kl255]
    rw [hP 25 (by omega), if_pos (nI_le (Nat.le_refl _) (by omega))]
    unfold hrA hrS
    have fo : ∀ (p : Nat → Bool) (b : Bool), f_X6_firstOf P (nI (bsm p (A 25))) (nI b.toNat) = some (nI (fbt (fsO (oldA A) b (bsm p (A 25)) (A 25)))) := fun p b => firstOf_r hB hP (bsm_lt p _) b
    have z : ∀ p : Nat → Bool, (nI (bsm p (A 25)) = nI 0) = (bsm p (A 25) = 0) := fun p => propext (nI_eq (lt31 p) (by decide))
    simp only [z, ne_eq, ite_not]
    by_cases h1 : bsm (fun c => al.testBit c && A (7 + c) == h && decide (A (26 + c) < 2)) (A 25) = 0
    · rw [if_pos h1, if_pos h1]
      by_cases h2 : bsm (fun c => al.testBit c && A (7 + c) == h && A (26 + c) == 2) (A 25) = 0
      · rw [if_pos h2, if_pos h2, show nI 0 = nI false.toNat from rfl, fo]
        rfl
      · rw [if_neg h2, if_neg h2]
    · rw [if_neg h1, if_neg h1, ki1]
      cases yg with
      | false =>
        rw [if_neg (by decide), show nI 0 = nI false.toNat from rfl, fo]
        rfl
      | true =>
        rw [if_pos rfl, show nI 1 = nI true.toNat from rfl, fo]
        rfl
  | succ m ih =>
    intro c fuel hc hf
    obtain ⟨k, rfl⟩ : ∃ k, fuel = k + 1 := ⟨fuel - 1, by omega⟩
    have hcn : c < A 25 := by omega
    obtain ⟨-, b1, b2⟩ := hB.2.2 c hcn
    have q7 : kin (nI 7 + nI c) 33 = true ∧ P ((nI 7 + nI c).toNatClampNeg) = nI (A (7 + c)) := by
      rw [nI_add]
      exact ⟨kin_y (by omega) (by omega), by rw [nI_clamp (by omega)]; exact hP (7 + c) (by omega)⟩
    have q26 : kin (nI 26 + nI c) 33 = true ∧ P ((nI 26 + nI c).toNatClampNeg) = nI (A (26 + c)) := by
      rw [nI_add]
      exact ⟨kin_y (by omega) (by omega), by rw [nI_clamp (by omega)]; exact hP (26 + c) (by omega)⟩
    have ih := ih (c + 1) k (by omega) (by omega)
    simp only [bsm] at ih
    have e1 : (nI 2 ≤ nI (A (26 + c))) = (2 ≤ A (26 + c)) := propext (nI_leI (by omega) (by omega))
    have e2 : (nI (A (26 + c)) = nI 2) = (A (26 + c) = 2) := propext (nI_eq (by omega) (by omega))
    have e3 : (nI (A (26 + c)) = nI 3) = (A (26 + c) = 3) := propext (nI_eq (by omega) (by omega))
    have e4 : (nI (A (7 + c)) = nI h) = (A (7 + c) = h) := propext (nI_eq (by omega) hh)
    simp only [f_X6_heirsOf_12, f_X6_heirsOf_12_b, f_X6_heirsOf_114, f_X6_heirsOf_92, f_X6_heirsOf_70, f_X6_heirsOf_49, kl0, kl1, kl2, kl3, kl4, kl5, kl6, kl7, kl8, kl9, kl10, kl12, kl13, kl14, kl20, kl21, kl22, kl23, kl24, kl25, kl26, kl30, kl31, kl33, kl48, kl49, kl57, kl65, kl66, kl67, kl72, kl89, kl100, kl128, kl255, q7.1, q7.2, q26.1, q26.2, kg_tr, e1, e2, e3, e4, show nI c + nI 1 = nI (c + 1) from nI_1 c, k_sh1 (c := c) (by omega), has_n ha (c := c) (by omega), kb1_some, ki0, k_or]
    rw [hP 25 (by omega), if_neg (nI_ge hcn (by omega))]
    by_cases h1 : A (7 + c) = h
    · rw [if_pos h1]
      cases h2 : al.testBit c with
      | false =>
        simp only [h2, Bool.false_and, Nat.or_zero, Bool.false_eq_true, if_false, ite_self] at ih ⊢
        exact ih
      | true =>
        rw [if_pos rfl]
        simp only [h2, h1, beq_self_eq_true, Bool.true_and, decide_eq_true_eq, beq_iff_eq] at ih
        by_cases h3 : A (26 + c) = 2
        · rw [if_pos (by omega), if_pos h3, if_neg (by omega), Nat.or_zero, Nat.or_zero]
          rw [if_neg (by omega), if_pos h3, if_neg (by omega), Nat.or_zero, Nat.or_zero] at ih
          exact ih
        · by_cases h4 : A (26 + c) = 3
          · rw [if_pos (by omega), if_neg h3, if_pos h4, Nat.or_zero, Nat.or_zero]
            rw [if_neg (by omega), if_neg h3, if_pos h4, Nat.or_zero, Nat.or_zero] at ih
            exact ih
          · rw [if_neg (by omega), if_neg h3, if_neg h4, Nat.or_zero, Nat.or_zero]
            rw [if_pos (by omega), if_neg h3, if_neg h4, Nat.or_zero, Nat.or_zero] at ih
            exact ih
    · rw [if_neg h1]
      have h1b : (A (7 + c) == h) = false := by simp [h1]
      simp only [h1b, Bool.and_false, Bool.false_and, Nat.or_zero, Bool.false_eq_true, if_false] at ih
      simp only [Nat.or_zero, ite_self]
      exact ih
theorem heirs_r {A : Nat → Nat} {P : Nat → Int32} (hB : BD A) (hP : PG A P) {h al : Nat} (hh : h < 2 ^ 31) (ha : al < 2 ^ 31) (yg : Bool) : f_X6_heirsOf P (nI h) (nI yg.toNat) (nI al) = some (nI (hrA A h yg al)) := by
  have h7 := hB.1
  exact heirs_rl hB hP hh ha yg (A 25) 0 1000 (by omega) (by omega)
theorem heirsNow_r {A : Nat → Nat} {P : Nat → Int32} (hB : BD A) (hP : PG A P) {h : Nat} (hh : h < 31) (h22 : A 22 < 2 ^ 31) (h21 : A 21 < 2 ^ 31) : f_X6_heirsNow P (nI h) = some (nI (hrA A h ((A 22).testBit h) (A 21))) := by
  unfold f_X6_heirsNow
  simp only [kl0, kl1, kl2, kl3, kl4, kl5, kl6, kl7, kl8, kl9, kl10, kl12, kl13, kl14, kl20, kl21, kl22, kl23, kl24, kl25, kl26, kl30, kl31, kl33, kl48, kl49, kl57, kl65, kl66, kl67, kl72, kl89, kl100, kl128, kl255]
  rw [hP 22 (by omega), hP 21 (by omega), k_shr h22 (by omega), k_and, k_bit, heirs_r hB hP (by omega) h21, kb1_some]
