/-! MATH 3: ranges, sets, the class's small town methods -/
def inr (x : Int32) (n : Nat) : Bool := decide (0 ≤ x.toInt ∧ x.toInt < n)
theorem inr_cases (x : Int32) {n : Nat} (hn : n < 2 ^ 31) : inr x n = false ∨ ∃ c, c < n ∧ x = nI c := by
  by_cases h : 0 ≤ x.toInt ∧ x.toInt < n
  · refine Or.inr ⟨x.toInt.toNat, by omega, ?_⟩
    apply Int32.toInt_inj.mp
    rw [nI_toInt (by omega)]
    omega
  · exact Or.inl (decide_eq_false h)
theorem inr_y {c n : Nat} (h : c < n) (hn : n < 2 ^ 31) : inr (nI c) n = true := by
  unfold inr
  rw [nI_toInt (by omega)]
  exact decide_eq_true ⟨by omega, by omega⟩
theorem k_neg (x : Int32) : (x < nI 0) = (x.toInt < 0) := propext (Int32.lt_iff_toInt_lt)
theorem k_leI (x : Int32) {n : Nat} (hn : n < 2 ^ 31) : (nI n ≤ x) = ((n : Int) ≤ x.toInt) := by
  rw [← nI_toInt hn]; exact propext Int32.le_iff_toInt_le
theorem k_ltI (x : Int32) {n : Nat} (hn : n < 2 ^ 31) : (nI n < x) = ((n : Int) < x.toInt) := by
  rw [← nI_toInt hn]; exact propext Int32.lt_iff_toInt_lt
theorem hasHouse_x (x : Int32) {n : Nat} (hn : n < 2 ^ 31) : f_X4_hasHouse (nI n) x = some (nI (inr x n).toNat) := by
  unfold f_X4_hasHouse inr
  simp only [kl0, kl1, kl2, kl3, kl4, kl5, kl6, kl7, kl8, kl9, kl10, kl12, kl13, kl14, kl20, kl21, kl22, kl23, kl24, kl25, kl26, kl30, kl31, kl33, kl48, kl49, kl57, kl65, kl66, kl67, kl72, kl89, kl100, kl128, kl255, k_neg, k_leI x hn]
  by_cases h1 : x.toInt < 0
  · rw [if_pos h1, decide_eq_false (by omega)]; rfl
  · rw [if_neg h1]
    by_cases h2 : (n : Int) ≤ x.toInt
    · rw [if_pos h2, decide_eq_false (by omega)]; rfl
    · rw [if_neg h2, decide_eq_true (by omega)]; rfl
theorem hasChild_x (x : Int32) {n : Nat} (hn : n < 2 ^ 31) : f_X4_hasChild (nI n) x = some (nI (inr x n).toNat) := hasHouse_x x hn
theorem in_x (v a b : Int64) : f_X6_in v a b = some (nI (decide (a.toInt ≤ v.toInt ∧ v.toInt ≤ b.toInt)).toNat) := by
  unfold f_X6_in lg_cmp
  simp only [kl0, kl1, kl2, kl3, kl4, kl5, kl6, kl7, kl8, kl9, kl10, kl12, kl13, kl14, kl20, kl21, kl22, kl23, kl24, kl25, kl26, kl30, kl31, kl33, kl48, kl49, kl57, kl65, kl66, kl67, kl72, kl89, kl100, kl128, kl255, gt_iff_lt, Int64.lt_iff_toInt_lt, ← Int64.toInt_inj]
  have d1 : ¬ nI 1 < nI 0 := by decide
  have d2 : ¬ nI 0 < nI 0 := by decide
  have d3 : (-nI 1) < nI 0 := by decide
  have d4 : nI 0 < nI 1 := by decide
  have d5 : ¬ nI 0 < (-nI 1) := by decide
  by_cases h1 : a.toInt < v.toInt
  · rw [if_pos h1, if_neg d1]
    by_cases h2 : b.toInt < v.toInt
    · rw [if_pos h2, if_pos d4, decide_eq_false (by omega)]; rfl
    · rw [if_neg h2]
      by_cases h3 : v.toInt = b.toInt
      · rw [if_pos h3, if_neg d2, decide_eq_true (by omega)]; rfl
      · rw [if_neg h3, if_neg d5, decide_eq_true (by omega)]; rfl
  · rw [if_neg h1]
    by_cases h4 : v.toInt = a.toInt
    · rw [if_pos h4, if_neg d2]
      by_cases h2 : b.toInt < v.toInt
      · rw [if_pos h2, if_pos d4, decide_eq_false (by omega)]; rfl
      · rw [if_neg h2]
        by_cases h3 : v.toInt = b.toInt
        · rw [if_pos h3, if_neg d2, decide_eq_true (by omega)]; rfl
        · rw [if_neg h3, if_neg d5, decide_eq_true (by omega)]; rfl
    · rw [if_neg h4, if_pos d3, decide_eq_false (by omega)]; rfl
theorem in_n (x : Int32) {n : Nat} (hn : n < 2 ^ 30) : f_X6_in x.toInt64 0 ((nI n - nI 1).toInt64) = some (nI (inr x n).toNat) := by
  rw [in_x, Int32.toInt_toInt64, Int32.toInt_toInt64, pk_sub_toInt (by omega) (by omega)]
  unfold inr
  congr 3
  apply decide_eq_decide.mpr
  have : (0 : Int64).toInt = 0 := by decide
  omega
theorem noHouse_x (x : Int32) {n : Nat} (hn : n < 2 ^ 30) : f_X6_noHouse (nI n) x = some (nI (!inr x n).toNat) := by
  unfold f_X6_noHouse
  simp only [kl0, kl1, kl2, kl3, kl4, kl5, kl6, kl7, kl8, kl9, kl10, kl12, kl13, kl14, kl20, kl21, kl22, kl23, kl24, kl25, kl26, kl30, kl31, kl33, kl48, kl49, kl57, kl65, kl66, kl67, kl72, kl89, kl100, kl128, kl255]
  rw [in_n x hn, kb1_some, ki0]
  cases inr x n <;> rfl
theorem noChild_x {A : Nat → Nat} {P : Nat → Int32} (hP : PG A P) (x : Int32) (hn : A 25 < 2 ^ 30) : f_X6_noChild P x = some (nI (!inr x (A 25)).toNat) := by
  unfold f_X6_noChild
  simp only [kl0, kl1, kl2, kl3, kl4, kl5, kl6, kl7, kl8, kl9, kl10, kl12, kl13, kl14, kl20, kl21, kl22, kl23, kl24, kl25, kl26, kl30, kl31, kl33, kl48, kl49, kl57, kl65, kl66, kl67, kl72, kl89, kl100, kl128, kl255]
  rw [hP 25 (by omega), in_n x hn, kb1_some, ki0]
  cases inr x (A 25) <;> rfl
/-- a set less another -/
def adn (a b : Nat) : Nat := a ^^^ (a &&& b)
theorem adn_tb (a b i : Nat) : (adn a b).testBit i = (a.testBit i && !b.testBit i) := by
  unfold adn
  rw [Nat.testBit_xor, Nat.testBit_and]
  cases a.testBit i <;> cases b.testBit i <;> rfl
theorem k_adn (a b : Nat) : nI a &&& (nI b ^^^ (-nI 1)) = nI (adn a b) := by
  unfold adn
  rw [← k_xor, ← k_and]
  apply Int32.toBitVec_inj.1
  show (nI a).toBitVec &&& ((nI b).toBitVec ^^^ (-nI 1).toBitVec) = (nI a).toBitVec ^^^ ((nI a).toBitVec &&& (nI b).toBitVec)
  have e : (-nI 1).toBitVec = BitVec.allOnes 32 := by decide
  rw [e]
  apply BitVec.eq_of_getLsbD_eq
  intro i hi
  rw [BitVec.getLsbD_and, BitVec.getLsbD_xor, BitVec.getLsbD_allOnes, BitVec.getLsbD_xor, BitVec.getLsbD_and, decide_eq_true hi]
  cases (nI a).toBitVec.getLsbD i <;> cases (nI b).toBitVec.getLsbD i <;> rfl
theorem adn_0 {a b : Nat} : adn a b = 0 ↔ ∀ i, a.testBit i = true → b.testBit i = true := by
  constructor
  · intro h i hi
    have := adn_tb a b i
    rw [h, Nat.zero_testBit, hi] at this
    simpa using this.symm
  · intro h
    apply tb_ext
    intro i
    rw [adn_tb, Nat.zero_testBit]
    cases ha : a.testBit i with
    | false => rfl
    | true => rw [h i ha]; rfl
theorem adn_lt {a b n : Nat} (h : a < 2 ^ n) : adn a b < 2 ^ n := by
  unfold adn
  exact Nat.xor_lt_two_pow h (Nat.lt_of_le_of_lt Nat.and_le_left h)
theorem isAlive_n {n L c : Nat} (hn : n ≤ 7) (hL : L < 2 ^ 31) (hc : c < n) : f_X4_isAlive (nI n) (nI L) (nI c) = some (nI (L.testBit c).toNat) := by
  unfold f_X4_isAlive
  rw [hasChild_x _ (by omega), kb1_some, inr_y hc (by omega)]
  simp only [kl0, kl1, kl2, kl3, kl4, kl5, kl6, kl7, kl8, kl9, kl10, kl12, kl13, kl14, kl20, kl21, kl22, kl23, kl24, kl25, kl26, kl30, kl31, kl33, kl48, kl49, kl57, kl65, kl66, kl67, kl72, kl89, kl100, kl128, kl255]
  rw [ki0, if_pos rfl, isIn_n hL (by omega), kb1_some, ki0]
  cases L.testBit c <;> rfl
theorem isAlive_out {n L : Nat} {x : Int32} (hn : n ≤ 7) (h : inr x n = false) : f_X4_isAlive (nI n) (nI L) x = some (nI 0) := by
  unfold f_X4_isAlive
  rw [hasChild_x _ (by omega), kb1_some, h]
  rfl
theorem sideOf_n {S h : Nat} (hS : S < 2 ^ 31) (hh : h < 7) : f_X4_sideOf (nI S) (nI h) = some (nI (S.testBit h).toNat) := by
  unfold f_X4_sideOf
  rw [isIn_n hS hh, kb1_some]
  simp only [kl0, kl1, kl2, kl3, kl4, kl5, kl6, kl7, kl8, kl9, kl10, kl12, kl13, kl14, kl20, kl21, kl22, kl23, kl24, kl25, kl26, kl30, kl31, kl33, kl48, kl49, kl57, kl65, kl66, kl67, kl72, kl89, kl100, kl128, kl255]
  rw [ki0]
  cases S.testBit h <;> rfl
/-- the heirs by a house's own side -/
def hrN (A : Nat → Nat) (h : Nat) : Nat := hrA A h ((A 22).testBit h) (A 21)
theorem heirsOf_c {A : Nat → Nat} {bi ho ki : Nat → Int32} (hB : BD A) (hT : CT A bi ho ki) {h : Nat} (hh : h < 7) (h21 : A 21 < 2 ^ 31) (h22 : A 22 < 2 ^ 31) : f_X4_heirsOf (nI (A 25)) (nI (A 21)) (nI (A 22)) bi ho ki (nI h) = some (nI (hrN A h)) := by
  unfold f_X4_heirsOf
  rw [sideOf_n h22 hh, kb1_some, heirs_c hB hT (by omega) h21, kb1_some]
  rfl
theorem hrA_lt (A : Nat → Nat) (hA : A 25 ≤ 7) (h : Nat) (yg : Bool) (al : Nat) : hrA A h yg al < 128 := Nat.lt_of_lt_of_le (hrS_lt _ _ _ _ _ _ _) (Nat.pow_le_pow_right (n := 2) (by decide) hA)
theorem partOf_n {wr : Nat → Int32} {wo h s : Nat} (hh : h < 3) (hw : wr h = nI wo) (hwo : wo < 2 ^ 31) (hs : s < 128) : f_X4_partOf wr (nI h) (nI s) = some (nI (if s = 0 then 0 else wo / pcn s)) := by
  unfold f_X4_partOf
  simp only [kl0, kl1, kl2, kl3, kl4, kl5, kl6, kl7, kl8, kl9, kl10, kl12, kl13, kl14, kl20, kl21, kl22, kl23, kl24, kl25, kl26, kl30, kl31, kl33, kl48, kl49, kl57, kl65, kl66, kl67, kl72, kl89, kl100, kl128, kl255]
  by_cases h0 : s = 0
  · subst h0; rfl
  · rw [if_neg (fun q => h0 ((nI_eq (by omega) (by omega)).mp q)), get_n (by decide) hh, kb1_some, bc_all s hs, kb1_some, if_neg h0, hw]
    have hp := pcn_pos s hs (by omega)
    have hl := pcn_le s
    rw [kg_yes (knz_y (by omega) hp), pk_div hwo hp (by omega)]
theorem upd_s {f : Nat → Int32} {k : Nat} {x : Int32} : upd f k x k = x := pk_us
theorem upd_n {f : Nat → Int32} {k j : Nat} {x : Int32} (h : j ≠ k) : upd f k x j = f j := pk_un h
theorem enrich_l {n : Nat} (hn : n ≤ 7) {s : Nat} (hs : s < 2 ^ 31) (by_ : Int32) (f0 : Nat → Int32) : ∀ (m c fuel : Nat) (f : Nat → Int32), c + m = n → m < fuel → (∀ i, i < c → f i = if s.testBit i = true then f0 i + by_ else f0 i) → (∀ i, c ≤ i → f i = f0 i) →
    ∃ g, f_X4_enrich_2 (nI n) (nI s) by_ fuel f (nI c) = some g ∧ ∀ i, i < n → g i = if s.testBit i = true then f0 i + by_ else f0 i := by
  intro m
  induction m with
  | zero =>
    intro c fuel f hc hf h1 h2
    obtain ⟨k, rfl⟩ : ∃ k, fuel = k + 1 := ⟨fuel - 1, by omega⟩
    refine ⟨f, ?_, fun i hi => h1 i (by omega)⟩
    simp only [f_X4_enrich_2, f_X4_enrich_2_b, kl0, kl1, kl2, kl3, kl4, kl5, kl6, kl7, kl8, kl9, kl10, kl12, kl13, kl14, kl20, kl21, kl22, kl23, kl24, kl25, kl26, kl30, kl31, kl33, kl48, kl49, kl57, kl65, kl66, kl67, kl72, kl89, kl100, kl128, kl255]
    rw [if_pos (nI_le (by omega) (by omega))]
  | succ m ih =>
    intro c fuel f hc hf h1 h2
    obtain ⟨k, rfl⟩ : ∃ k, fuel = k + 1 := ⟨fuel - 1, by omega⟩
    simp only [f_X4_enrich_2, f_X4_enrich_2_b, kl0, kl1, kl2, kl3, kl4, kl5, kl6, kl7, kl8, kl9, kl10, kl12, kl13, kl14, kl20, kl21, kl22, kl23, kl24, kl25, kl26, kl30, kl31, kl33, kl48, kl49, kl57, kl65, kl66, kl67, kl72, kl89, kl100, kl128, kl255]
    rw [if_neg (nI_ge (by omega) (by omega)), isIn_n hs (by omega), kb1_some, ki0, show nI c + nI 1 = nI (c + 1) from nI_1 c]
    cases hb : s.testBit c with
    | false =>
      refine ih (c + 1) k f (by omega) (by omega) (fun i hi => ?_) (fun i hi => h2 i (by omega))
      by_cases hic : i = c
      · subst hic; rw [hb, h2 i (by omega)]; rfl
      · exact h1 i (by omega)
    | true =>
      rw [if_pos rfl, get_n (by decide) (by omega), kb1_some, set_n (by decide) (by omega), kb1_some]
      refine ih (c + 1) k _ (by omega) (by omega) (fun i hi => ?_) (fun i hi => by rw [upd_n (by omega)]; exact h2 i (by omega))
      by_cases hic : i = c
      · subst hic; rw [upd_s, hb, h2 i (by omega)]; rfl
      · rw [upd_n hic]; exact h1 i (by omega)
theorem enrich_n {n : Nat} (hn : n ≤ 7) {s : Nat} (hs : s < 2 ^ 31) (by_ : Int32) (f0 : Nat → Int32) : ∃ g, f_X4_enrich (nI n) f0 (nI s) by_ = some g ∧ ∀ i, i < n → g i = if s.testBit i = true then f0 i + by_ else f0 i :=
  enrich_l hn hs by_ f0 n 0 1000 f0 (by omega) (by omega) (fun i hi => absurd hi (Nat.not_lt_zero i)) (fun i _ => rfl)
/-- those that live of a house -/
def brd (A : Nat → Nat) (c : Nat) : Nat := bsm (fun i => (A 21).testBit i && A (7 + i) == A (7 + c)) (A 25)
theorem broodOf_l {A : Nat → Nat} {bi ho ki : Nat → Int32} (hB : BD A) (hT : CT A bi ho ki) (h21 : A 21 < 2 ^ 31) {x : Nat} (hx : x < A 25) : ∀ (m c fuel : Nat), c + m = A 25 → m < fuel →
    f_X4_broodOf_4 (nI (A 25)) (nI (A 21)) ho (nI x) fuel (nI (bsm (fun i => (A 21).testBit i && A (7 + i) == A (7 + x)) c)) (nI c) = some (nI (brd A x)) := by
  have h7 := hB.1
  intro m
  induction m with
  | zero =>
    intro c fuel hc hf
    obtain ⟨k, rfl⟩ : ∃ k, fuel = k + 1 := ⟨fuel - 1, by omega⟩
    have hcn : c = A 25 := by omega
    rw [hcn]
    simp only [f_X4_broodOf_4, f_X4_broodOf_4_b, kl0, kl1, kl2, kl3, kl4, kl5, kl6, kl7, kl8, kl9, kl10, kl12, kl13, kl14, kl20, kl21, kl22, kl23, kl24, kl25, kl26, kl30, kl31, kl33, kl48, kl49, kl57, kl65, kl66, kl67, kl72, kl89, kl100, kl128, kl255]
    rw [if_pos (nI_le (Nat.le_refl _) (by omega))]
    rfl
  | succ m ih =>
    intro c fuel hc hf
    obtain ⟨k, rfl⟩ : ∃ k, fuel = k + 1 := ⟨fuel - 1, by omega⟩
    have hcn : c < A 25 := by omega
    have ih := ih (c + 1) k (by omega) (by omega)
    simp only [bsm] at ih
    have b1 := hB.2.2 c hcn
    have b2 := hB.2.2 x hx
    simp only [f_X4_broodOf_4, f_X4_broodOf_4_b, kl0, kl1, kl2, kl3, kl4, kl5, kl6, kl7, kl8, kl9, kl10, kl12, kl13, kl14, kl20, kl21, kl22, kl23, kl24, kl25, kl26, kl30, kl31, kl33, kl48, kl49, kl57, kl65, kl66, kl67, kl72, kl89, kl100, kl128, kl255]
    rw [if_neg (nI_ge hcn (by omega)), isAlive_n h7 h21 hcn, kb1_some, ki0, show nI c + nI 1 = nI (c + 1) from nI_1 c, get_n (by decide) (by omega), kb1_some, get_n (by decide) (by omega), kb1_some, (hT c hcn).1, (hT x hx).1, bit_n (by omega), kb1_some, k_or]
    cases hb : (A 21).testBit c with
    | false =>
      simp only [hb, Bool.false_and, Bool.false_eq_true, if_false, Nat.or_zero] at ih ⊢
      exact ih
    | true =>
      rw [if_pos rfl]
      by_cases he : A (7 + c) = A (7 + x)
      · rw [if_pos (by rw [he])]
        simp only [hb, he, beq_self_eq_true, Bool.and_true, if_true] at ih
        exact ih
      · rw [if_neg (fun q => he ((nI_eq (by omega) (by omega)).mp q))]
        have he2 : (A (7 + c) == A (7 + x)) = false := by simp [he]
        simp only [he2, Bool.and_false, Bool.false_eq_true, if_false, Nat.or_zero] at ih
        exact ih
theorem broodOf_n {A : Nat → Nat} {bi ho ki : Nat → Int32} (hB : BD A) (hT : CT A bi ho ki) (h21 : A 21 < 2 ^ 31) {x : Nat} (hx : x < A 25) : f_X4_broodOf (nI (A 25)) (nI (A 21)) ho (nI x) = some (nI (brd A x)) := by
  have h7 := hB.1
  exact broodOf_l hB hT h21 hx (A 25) 0 1000 (by omega) (by omega)
