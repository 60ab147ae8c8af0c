/-! MATH 1: numbers, bits, sets of children -/
theorem kb1_some {α ρ : Type} (x : α) (k : α → Option ρ) : kb1 (some x) k = k x := rfl
theorem kg_tr {ρ : Type} (k : Option ρ) : kg true k = k := rfl
theorem kg_yes {ρ : Type} {b : Bool} {k : Option ρ} (h : b = true) : kg b k = k := by rw [h]; rfl
theorem kl0 : (0 : Int32) = nI 0 := Int32.toInt_inj.mp (by decide)
theorem kl1 : (1 : Int32) = nI 1 := Int32.toInt_inj.mp (by decide)
theorem kl2 : (2 : Int32) = nI 2 := Int32.toInt_inj.mp (by decide)
theorem kl3 : (3 : Int32) = nI 3 := Int32.toInt_inj.mp (by decide)
theorem kl4 : (4 : Int32) = nI 4 := Int32.toInt_inj.mp (by decide)
theorem kl5 : (5 : Int32) = nI 5 := Int32.toInt_inj.mp (by decide)
theorem kl6 : (6 : Int32) = nI 6 := Int32.toInt_inj.mp (by decide)
theorem kl7 : (7 : Int32) = nI 7 := Int32.toInt_inj.mp (by decide)
theorem kl8 : (8 : Int32) = nI 8 := Int32.toInt_inj.mp (by decide)
theorem kl9 : (9 : Int32) = nI 9 := Int32.toInt_inj.mp (by decide)
theorem kl10 : (10 : Int32) = nI 10 := Int32.toInt_inj.mp (by decide)
theorem kl12 : (12 : Int32) = nI 12 := Int32.toInt_inj.mp (by decide)
theorem kl13 : (13 : Int32) = nI 13 := Int32.toInt_inj.mp (by decide)
theorem kl14 : (14 : Int32) = nI 14 := Int32.toInt_inj.mp (by decide)
theorem kl20 : (20 : Int32) = nI 20 := Int32.toInt_inj.mp (by decide)
theorem kl21 : (21 : Int32) = nI 21 := Int32.toInt_inj.mp (by decide)
theorem kl22 : (22 : Int32) = nI 22 := Int32.toInt_inj.mp (by decide)
theorem kl23 : (23 : Int32) = nI 23 := Int32.toInt_inj.mp (by decide)
theorem kl24 : (24 : Int32) = nI 24 := Int32.toInt_inj.mp (by decide)
theorem kl25 : (25 : Int32) = nI 25 := Int32.toInt_inj.mp (by decide)
theorem kl26 : (26 : Int32) = nI 26 := Int32.toInt_inj.mp (by decide)
theorem kl30 : (30 : Int32) = nI 30 := Int32.toInt_inj.mp (by decide)
theorem kl31 : (31 : Int32) = nI 31 := Int32.toInt_inj.mp (by decide)
theorem kl33 : (33 : Int32) = nI 33 := Int32.toInt_inj.mp (by decide)
theorem kl48 : (48 : Int32) = nI 48 := Int32.toInt_inj.mp (by decide)
theorem kl49 : (49 : Int32) = nI 49 := Int32.toInt_inj.mp (by decide)
theorem kl57 : (57 : Int32) = nI 57 := Int32.toInt_inj.mp (by decide)
theorem kl65 : (65 : Int32) = nI 65 := Int32.toInt_inj.mp (by decide)
theorem kl66 : (66 : Int32) = nI 66 := Int32.toInt_inj.mp (by decide)
theorem kl67 : (67 : Int32) = nI 67 := Int32.toInt_inj.mp (by decide)
theorem kl72 : (72 : Int32) = nI 72 := Int32.toInt_inj.mp (by decide)
theorem kl89 : (89 : Int32) = nI 89 := Int32.toInt_inj.mp (by decide)
theorem kl100 : (100 : Int32) = nI 100 := Int32.toInt_inj.mp (by decide)
theorem kl128 : (128 : Int32) = nI 128 := Int32.toInt_inj.mp (by decide)
theorem kl255 : (255 : Int32) = nI 255 := Int32.toInt_inj.mp (by decide)
theorem k_pos {n : Nat} (h : n < 2 ^ 31) : ¬ nI n < nI 0 := nI_pos h
theorem k_nn {n : Nat} (h : n < 2 ^ 31) : nI 0 ≤ nI n := nI_pos' h
theorem kin_n {a n : Nat} (h : a < 2 ^ 31) : kin (nI a) n = decide (a < n) := by
  have h1 : ¬ nI a < 0 := nI_pos h
  unfold kin
  rw [nI_clamp h]
  apply decide_eq_decide.mpr
  constructor
  · intro g; exact Nat.lt_of_not_le (fun q => g (Or.inr q))
  · intro g q; exact q.elim h1 (fun q => absurd g (Nat.not_lt.mpr q))
theorem kin_y {a n : Nat} (h : a < 2 ^ 31) (hn : a < n) : kin (nI a) n = true := by rw [kin_n h]; exact decide_eq_true hn
theorem knz_y {a : Nat} (h : a < 2 ^ 31) (h0 : 0 < a) : knz (nI a) = true := decide_eq_true (nI_ne0 h0 h)
theorem kbo_0 : kbo (nI 0) = true := by decide
theorem kbo_1 : kbo (nI 1) = true := by decide
theorem k_sm : ∀ n, n < 32 → ((nI n &&& nI 31).toBitVec.smod 32).toNat = n := by decide +kernel
theorem k_and (a b : Nat) : nI a &&& nI b = nI (a &&& b) := by
  apply Int32.toBitVec_inj.1
  show BitVec.ofNat 32 a &&& BitVec.ofNat 32 b = BitVec.ofNat 32 (a &&& b)
  apply BitVec.eq_of_getLsbD_eq
  intro i hi
  simp [hi]
theorem k_or (a b : Nat) : nI a ||| nI b = nI (a ||| b) := by
  apply Int32.toBitVec_inj.1
  show BitVec.ofNat 32 a ||| BitVec.ofNat 32 b = BitVec.ofNat 32 (a ||| b)
  apply BitVec.eq_of_getLsbD_eq
  intro i hi
  simp [hi]
theorem k_xor (a b : Nat) : nI a ^^^ nI b = nI (a ^^^ b) := by
  apply Int32.toBitVec_inj.1
  show BitVec.ofNat 32 a ^^^ BitVec.ofNat 32 b = BitVec.ofNat 32 (a ^^^ b)
  apply BitVec.eq_of_getLsbD_eq
  intro i hi
  simp [hi]
theorem k_shr {a c : Nat} (ha : a < 2 ^ 31) (hc : c < 32) : nI a >>> (nI c &&& nI 31) = nI (a >>> c) := by
  rw [Nat.shiftRight_eq_div_pow]
  exact pk_shrN ha (nI c &&& nI 31) c (k_sm c hc)
theorem k_shl {a c : Nat} (hc : c < 32) (h : a * 2 ^ c < 2 ^ 32) : nI a <<< (nI c &&& nI 31) = nI (a * 2 ^ c) := pk_shlN (nI c &&& nI 31) c (k_sm c hc) h
theorem k_two {c d : Nat} (h : c < d) : 2 ^ c < 2 ^ d := Nat.pow_lt_pow_right (by decide) h
theorem k_sh1 {c : Nat} (hc : c < 32) : nI 1 <<< (nI c &&& nI 31) = nI (2 ^ c) := by
  have h := k_shl (a := 1) hc (by rw [Nat.one_mul]; exact k_two hc)
  rw [Nat.one_mul] at h
  exact h
theorem k_bit (a c : Nat) : a >>> c &&& 1 = (a.testBit c).toNat := by
  rw [Nat.and_one_is_mod, Nat.shiftRight_eq_div_pow, Nat.testBit_eq_decide_div_mod_eq]
  rcases Nat.mod_two_eq_zero_or_one (a / 2 ^ c) with h | h <;> simp [h]
theorem kB0 (b : Bool) : (nI b.toNat = nI 0) ↔ b = false := by cases b <;> decide
theorem kB1 (b : Bool) : (nI b.toNat = nI 1) ↔ b = true := by cases b <;> decide
theorem kBB (a b : Bool) : (nI a.toNat = nI b.toNat) ↔ a = b := by cases a <;> cases b <;> decide
theorem kB_lt (b : Bool) : b.toNat < 2 := by cases b <;> decide
theorem kB_bo (b : Bool) : kbo (nI b.toNat) = true := by cases b <;> decide
theorem ki0 (b : Bool) {α : Type} (x y : α) : (if nI b.toNat = nI 0 then x else y) = (if b = true then y else x) := by cases b <;> rfl
theorem ki1 (b : Bool) {α : Type} (x y : α) : (if nI b.toNat = nI 1 then x else y) = (if b = true then x else y) := by cases b <;> rfl
theorem k_sB (c : Prop) [Decidable c] : (if c then (some (nI 1)) else some (nI 0)) = some (nI (decide c).toNat) := by by_cases h : c <;> simp [h]
theorem k_sB' (c : Prop) [Decidable c] : (if c then (some (nI 0)) else some (nI 1)) = some (nI (decide (¬ c)).toNat) := by by_cases h : c <;> simp [h]
/-- isIn, has, bit -/
theorem isIn_n {a c : Nat} (ha : a < 2 ^ 31) (hc : c < 7) : f_X5_isIn (nI a) (nI c) = some (nI (a.testBit c).toNat) := by
  unfold f_X5_isIn
  simp only [kl0, kl1, kl2, kl3, kl4, kl5, kl6, kl7, kl8, kl9, kl10, kl12, kl13, kl14, kl20, kl21, kl22, kl23, kl24, kl25, kl26, kl30, kl31, kl33, kl48, kl49, kl57, kl65, kl66, kl67, kl72, kl89, kl100, kl128, kl255]
  rw [if_neg (k_pos (by omega)), if_neg (nI_ge hc (by decide)), k_shr ha (by omega), k_and, k_bit, ki1]
  cases a.testBit c <;> rfl
theorem isIn_big {a c : Nat} (hc7 : 7 ≤ c) (hc : c < 2 ^ 31) : f_X5_isIn (nI a) (nI c) = some (nI 0) := by
  unfold f_X5_isIn
  simp only [kl0, kl1, kl2, kl3, kl4, kl5, kl6, kl7, kl8, kl9, kl10, kl12, kl13, kl14, kl20, kl21, kl22, kl23, kl24, kl25, kl26, kl30, kl31, kl33, kl48, kl49, kl57, kl65, kl66, kl67, kl72, kl89, kl100, kl128, kl255]
  rw [if_neg (k_pos hc), if_pos (nI_le hc7 hc)]
theorem has_n {a c : Nat} (ha : a < 2 ^ 31) (hc : c < 32) : f_X6_has (nI a) (nI c) = some (nI (a.testBit c).toNat) := by
  unfold f_X6_has
  simp only [kl0, kl1, kl2, kl3, kl4, kl5, kl6, kl7, kl8, kl9, kl10, kl12, kl13, kl14, kl20, kl21, kl22, kl23, kl24, kl25, kl26, kl30, kl31, kl33, kl48, kl49, kl57, kl65, kl66, kl67, kl72, kl89, kl100, kl128, kl255]
  rw [k_shr ha hc, k_and, k_bit, ki1]
  cases a.testBit c <;> rfl
theorem bit_n {c : Nat} (hc : c < 31) : f_X5_bit (nI c) = some (nI (2 ^ c)) := by
  unfold f_X5_bit
  simp only [kl0, kl1, kl2, kl3, kl4, kl5, kl6, kl7, kl8, kl9, kl10, kl12, kl13, kl14, kl20, kl21, kl22, kl23, kl24, kl25, kl26, kl30, kl31, kl33, kl48, kl49, kl57, kl65, kl66, kl67, kl72, kl89, kl100, kl128, kl255]
  rw [k_sh1 (by omega)]
/-- how many of seven -/
def pcn (s : Nat) : Nat := (s.testBit 0).toNat + (s.testBit 1).toNat + (s.testBit 2).toNat + (s.testBit 3).toNat + (s.testBit 4).toNat + (s.testBit 5).toNat + (s.testBit 6).toNat
theorem bc_all : ∀ s, s < 128 → f_J6_bitCount_0f7a4 (nI s) = some (nI (pcn s)) := by decide +kernel
theorem many_all : ∀ s, s < 128 → f_X6_many (nI s) = some (nI (pcn s)) := by decide +kernel
theorem pcn_le (s : Nat) : pcn s ≤ 7 := by
  have h := fun i => kB_lt (s.testBit i)
  have h0 := h 0; have h1 := h 1; have h2 := h 2; have h3 := h 3; have h4 := h 4; have h5 := h 5; have h6 := h 6
  unfold pcn
  omega
theorem pcn_pos : ∀ s, s < 128 → 0 < s → 0 < pcn s := by decide +kernel
theorem pcn_two : ∀ c, c < 7 → pcn (2 ^ c) = 1 := by decide +kernel
/-- a set by what is in it -/
def bsm (p : Nat → Bool) : Nat → Nat
  | 0 => 0
  | n + 1 => bsm p n ||| (if p n = true then 2 ^ n else 0)
theorem bsm_lt (p : Nat → Bool) : ∀ n, bsm p n < 2 ^ n
  | 0 => Nat.one_pos
  | n + 1 => by
    have h := bsm_lt p n
    have h2 : bsm p n < 2 ^ (n + 1) := Nat.lt_trans h (k_two (Nat.lt_succ_self n))
    unfold bsm
    refine Nat.or_lt_two_pow h2 ?_
    split
    · exact k_two (Nat.lt_succ_self n)
    · exact Nat.two_pow_pos _
theorem bsm_tb (p : Nat → Bool) (i : Nat) : ∀ n, (bsm p n).testBit i = (decide (i < n) && p i)
  | 0 => by simp [bsm]
  | n + 1 => by
    unfold bsm
    rw [Nat.testBit_or, bsm_tb p i n]
    by_cases h : p n = true
    · rw [if_pos h, Nat.testBit_two_pow]
      by_cases hi : n = i
      · subst hi; simp [h]
      · have : (decide (i < n + 1)) = decide (i < n) := decide_eq_decide.mpr (by omega)
        rw [this]
        simp [hi]
    · rw [if_neg h, Nat.zero_testBit]
      by_cases hi : n = i
      · subst hi; simp [h]
      · have : (decide (i < n + 1)) = decide (i < n) := decide_eq_decide.mpr (by omega)
        rw [this]
        simp
theorem tb_ext {a b : Nat} (h : ∀ i, a.testBit i = b.testBit i) : a = b := Nat.eq_of_testBit_eq h
theorem tb_big {a n i : Nat} (h : a < 2 ^ n) (hi : n ≤ i) : a.testBit i = false := Nat.testBit_lt_two_pow (Nat.lt_of_lt_of_le h (Nat.pow_le_pow_right (by decide) hi))
theorem bsm_0 {p : Nat → Bool} {n : Nat} : bsm p n = 0 ↔ ∀ i, i < n → p i = false := by
  constructor
  · intro h i hi
    have := bsm_tb p i n
    rw [h, Nat.zero_testBit] at this
    simpa [hi] using this.symm
  · intro h
    apply tb_ext
    intro i
    rw [bsm_tb, Nat.zero_testBit]
    by_cases hi : i < n
    · simp [h i hi]
    · simp [hi]
theorem bsm_congr {p q : Nat → Bool} : ∀ {n : Nat}, (∀ i, i < n → p i = q i) → bsm p n = bsm q n
  | 0, _ => rfl
  | n + 1, h => by
    unfold bsm
    rw [bsm_congr (fun i hi => h i (by omega)), h n (by omega)]
/-- of a set the first by an order -/
def fsO (old : Nat → Nat → Bool) (y : Bool) (s : Nat) : Nat → Option Nat
  | 0 => none
  | n + 1 => if s.testBit n = true then (match fsO old y s n with | none => some n | some g => if (old n g != y) = true then some n else some g) else fsO old y s n
def fbt : Option Nat → Nat
  | none => 0
  | some g => 2 ^ g
theorem fsO_in {old : Nat → Nat → Bool} {y : Bool} {s : Nat} : ∀ {n g : Nat}, fsO old y s n = some g → g < n ∧ s.testBit g = true
  | 0, g, h => by cases h
  | n + 1, g, h => by
    unfold fsO at h
    split at h
    · rename_i hb
      split at h
      · cases h; exact ⟨by omega, hb⟩
      · rename_i g0 hg
        have := fsO_in hg
        split at h
        · cases h; exact ⟨by omega, hb⟩
        · cases h; exact ⟨by omega, this.2⟩
    · have := fsO_in h
      exact ⟨by omega, this.2⟩
theorem fsO_none {old : Nat → Nat → Bool} {y : Bool} {s : Nat} : ∀ {n : Nat}, fsO old y s n = none → ∀ i, i < n → s.testBit i = false
  | 0, _, i, hi => absurd hi (Nat.not_lt_zero i)
  | n + 1, h, i, hi => by
    unfold fsO at h
    split at h
    · split at h
      · cases h
      · split at h <;> cases h
    · rename_i hb
      by_cases hin : i = n
      · subst hin; simpa using hb
      · exact fsO_none h i (by omega)
theorem fsO_more {old : Nat → Nat → Bool} {y : Bool} {s n : Nat} (hs : s < 2 ^ n) : ∀ k, fsO old y s (n + k) = fsO old y s n
  | 0 => rfl
  | k + 1 => by
    show fsO old y s ((n + k) + 1) = _
    rw [fsO, tb_big hs (by omega)]
    exact fsO_more hs k
theorem fsO_one {old : Nat → Nat → Bool} {y : Bool} {s c n : Nat} (hc : c < n) (h : ∀ i, s.testBit i = decide (i = c)) : fsO old y s n = some c := by
  cases hf : fsO old y s n with
  | none => have := fsO_none hf c hc; rw [h] at this; simp at this
  | some g => have := (fsO_in hf).2; rw [h] at this; rw [of_decide_eq_true this]
/-- the heirs of a house -/
def hrS (n : Nat) (hm kd : Nat → Nat) (old : Nat → Nat → Bool) (h : Nat) (yg : Bool) (al : Nat) : Nat :=
  if bsm (fun c => al.testBit c && hm c == h && decide (kd c < 2)) n ≠ 0 then fbt (fsO old yg (bsm (fun c => al.testBit c && hm c == h && decide (kd c < 2)) n) n)
  else if bsm (fun c => al.testBit c && hm c == h && kd c == 2) n ≠ 0 then bsm (fun c => al.testBit c && hm c == h && kd c == 2) n
  else fbt (fsO old false (bsm (fun c => al.testBit c && hm c == h && kd c == 3) n) n)
theorem fbt_tb {old : Nat → Nat → Bool} {y : Bool} {s n i : Nat} (h : (fbt (fsO old y s n)).testBit i = true) : i < n ∧ s.testBit i = true := by
  cases hf : fsO old y s n with
  | none => rw [hf] at h; simp [fbt] at h
  | some g =>
    rw [hf] at h
    simp only [fbt, Nat.testBit_two_pow] at h
    have := of_decide_eq_true h
    subst this
    exact fsO_in hf
theorem fbt_0 {old : Nat → Nat → Bool} {y : Bool} {s n : Nat} (h : fbt (fsO old y s n) = 0) : ∀ i, i < n → s.testBit i = false := by
  cases hf : fsO old y s n with
  | none => exact fsO_none hf
  | some g => rw [hf] at h; exact absurd h (Nat.ne_of_gt (Nat.two_pow_pos g))
theorem fbt_lt {old : Nat → Nat → Bool} {y : Bool} {s n : Nat} : fbt (fsO old y s n) < 2 ^ n := by
  cases hf : fsO old y s n with
  | none => exact Nat.two_pow_pos n
  | some g => exact k_two (fsO_in hf).1
theorem hrS_lt (n : Nat) (hm kd : Nat → Nat) (old : Nat → Nat → Bool) (h : Nat) (yg : Bool) (al : Nat) : hrS n hm kd old h yg al < 2 ^ n := by
  unfold hrS
  split
  · exact fbt_lt
  · split
    · exact bsm_lt _ _
    · exact fbt_lt
theorem hrS_in {n : Nat} {hm kd : Nat → Nat} {old : Nat → Nat → Bool} {h : Nat} {yg : Bool} {al i : Nat} (hb : (hrS n hm kd old h yg al).testBit i = true) : i < n ∧ al.testBit i = true ∧ hm i = h := by
  have key : ∀ q : Nat → Bool, (bsm (fun c => al.testBit c && hm c == h && q c) n).testBit i = true → i < n ∧ al.testBit i = true ∧ hm i = h := by
    intro q hq
    rw [bsm_tb] at hq
    simp only [Bool.and_eq_true, decide_eq_true_eq, beq_iff_eq] at hq
    exact ⟨hq.1, hq.2.1.1, hq.2.1.2⟩
  unfold hrS at hb
  split at hb
  · exact key _ (fbt_tb hb).2
  · split at hb
    · exact key _ hb
    · exact key _ (fbt_tb hb).2
theorem hrS_0 {n : Nat} {hm kd : Nat → Nat} {old : Nat → Nat → Bool} {h : Nat} {yg : Bool} {al : Nat} (hk : ∀ c, c < n → kd c < 4) : hrS n hm kd old h yg al = 0 ↔ ∀ c, c < n → ¬ (al.testBit c = true ∧ hm c = h) := by
  constructor
  · intro h0 c hc hh
    have z : ∀ q : Nat → Bool, bsm (fun c => al.testBit c && hm c == h && q c) n = 0 → q c = false := by
      intro q hq
      have := bsm_0.mp hq c hc
      simpa [hh.1, hh.2] using this
    unfold hrS at h0
    split at h0
    · rename_i hne
      apply hne
      apply tb_ext
      intro i
      rw [Nat.zero_testBit]
      by_cases hi : i < n
      · exact fbt_0 h0 i hi
      · exact tb_big (bsm_lt _ _) (by omega)
    · rename_i hs
      have hs := z _ (Decidable.not_not.mp hs)
      split at h0
      · rename_i hd; exact hd h0
      · rename_i hd
        have hd := z _ (Decidable.not_not.mp hd)
        have ha : bsm (fun c => al.testBit c && hm c == h && kd c == 3) n = 0 := by
          apply tb_ext
          intro i
          rw [Nat.zero_testBit]
          by_cases hi : i < n
          · exact fbt_0 h0 i hi
          · exact tb_big (bsm_lt _ _) (by omega)
        have ha := z _ ha
        have := hk c hc
        simp at hs hd ha
        omega
  · intro hno
    have z : ∀ q : Nat → Bool, bsm (fun c => al.testBit c && hm c == h && q c) n = 0 := by
      intro q
      apply bsm_0.mpr
      intro i hi
      have := hno i hi
      cases h1 : al.testBit i
      · simp
      · by_cases h2 : hm i = h
        · exact absurd ⟨h1, h2⟩ this
        · simp [h2]
    unfold hrS
    rw [if_neg (fun q => q (z _)), if_neg (fun q => q (z _)), z]
    cases hf : fsO old false 0 n with
    | none => rfl
    | some g => have := (fsO_in hf).2; simp at this
theorem hrS_congr {n : Nat} {hm kd : Nat → Nat} {old : Nat → Nat → Bool} {h : Nat} {yg : Bool} {al al2 : Nat} (hh : ∀ c, c < n → hm c = h → al.testBit c = al2.testBit c) : hrS n hm kd old h yg al = hrS n hm kd old h yg al2 := by
  have z : ∀ q : Nat → Bool, bsm (fun c => al.testBit c && hm c == h && q c) n = bsm (fun c => al2.testBit c && hm c == h && q c) n := by
    intro q
    apply bsm_congr
    intro i hi
    show (al.testBit i && hm i == h && q i) = (al2.testBit i && hm i == h && q i)
    by_cases h2 : hm i = h
    · rw [hh i hi h2]
    · have h3 : (hm i == h) = false := by simp [h2]
      rw [h3]
      simp
  unfold hrS
  rw [z, z, z]
theorem hrS_one {n : Nat} {hm kd : Nat → Nat} {old : Nat → Nat → Bool} {h : Nat} {yg : Bool} {al c : Nat} (hk : kd c < 4) (hc : c < n) (hmc : hm c = h) (ha : ∀ i, i < n → hm i = h → al.testBit i = decide (i = c)) : hrS n hm kd old h yg al = 2 ^ c := by
  have z : ∀ q : Nat → Bool, ∀ i, (bsm (fun c => al.testBit c && hm c == h && q c) n).testBit i = (decide (i = c) && q c) := by
    intro q i
    rw [bsm_tb]
    by_cases hi : i < n
    · by_cases h2 : hm i = h
      · rw [ha i hi h2]
        by_cases hic : i = c
        · subst hic; simp [hi, h2]
        · simp [hic]
      · have hic : i ≠ c := fun e => h2 (by rw [e]; exact hmc)
        simp [h2, hic]
    · have hic : i ≠ c := by omega
      simp [hi, hic]
  have z0 : ∀ q : Nat → Bool, bsm (fun c => al.testBit c && hm c == h && q c) n ≠ 0 ↔ q c = true := by
    intro q
    constructor
    · intro hne
      cases hq : q c with
      | true => rfl
      | false =>
        exfalso
        apply hne
        apply tb_ext
        intro i
        rw [z, hq, Nat.zero_testBit]
        simp
    · intro hq h0
      have := z q c
      rw [h0, hq] at this
      simp at this
  have one : ∀ (q : Nat → Bool) (y : Bool), q c = true → fbt (fsO old y (bsm (fun c => al.testBit c && hm c == h && q c) n) n) = 2 ^ c := by
    intro q y hq
    rw [fsO_one hc (fun i => by rw [z, hq]; simp)]
    rfl
  unfold hrS
  by_cases h1 : kd c < 2
  · rw [if_pos ((z0 (fun c => decide (kd c < 2))).mpr (by simp [h1])), one (fun c => decide (kd c < 2)) _ (by simp [h1])]
  · rw [if_neg (fun q => h1 (by simpa using (z0 (fun c => decide (kd c < 2))).mp q))]
    by_cases h2 : kd c = 2
    · rw [if_pos ((z0 (fun c => kd c == 2)).mpr (by simp [h2]))]
      apply tb_ext
      intro i
      rw [z (fun c => kd c == 2), Nat.testBit_two_pow]
      by_cases hic : c = i
      · subst hic; simp [h2]
      · have : i ≠ c := fun e => hic e.symm
        simp [hic, this]
    · rw [if_neg (fun q => h2 (by simpa using (z0 (fun c => kd c == 2)).mp q)), one (fun c => kd c == 3) _ (by simp; omega)]
