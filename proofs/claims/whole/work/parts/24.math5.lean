/-! MATH 5: which houses to roll, the house to move to -/
theorem CT_au {A : Nat → Nat} {bi hm ki : Nat → Int32} (h : CT A bi hm ki) (h7 : A 25 ≤ 7) {k : Nat} (v : Nat) (hk : 21 ≤ k ∧ k ≤ 23) : CT (au A k v) bi hm ki := by
  intro c hc
  rw [au_n _ _ (by omega)] at hc
  have := h c hc
  rw [au_n _ _ (by omega), au_n _ _ (by omega), au_n _ _ (by omega), au_n _ _ (by omega)]
  exact this
theorem WE_au {A : Nat → Nat} {we : Nat → Int32} (h : WE A we) (h7 : A 25 ≤ 7) {k : Nat} (v : Nat) (hk : 21 ≤ k ∧ k ≤ 23) : WE (au A k v) we := by
  intro c hc
  rw [au_n _ _ (by omega)] at hc
  rw [au_n _ _ (by omega)]
  exact h c hc
theorem BD_au {A : Nat → Nat} (h : BD A) {k : Nat} (v : Nat) (hk : 21 ≤ k ∧ k ≤ 23) : BD (au A k v) := by
  obtain ⟨h1, h2, h3⟩ := h
  refine ⟨by rw [au_n _ _ (by omega)]; exact h1, by rw [au_n _ _ (by omega)]; exact h2, fun c hc => ?_⟩
  rw [au_n _ _ (by omega)] at hc
  rw [au_n _ _ (by omega), au_n _ _ (by omega), au_n _ _ (by omega)]
  exact h3 c hc
theorem ctr_le {A wo : Nat → Nat} {hs c : Nat} (hwo : WO hs wo) (hh : A (7 + c) < hs) : ctr A wo c ≤ 9 := by
  unfold ctr
  split
  · omega
  · split
    · exact Nat.le_trans (Nat.div_le_self _ _) (hwo _ hh).2
    · omega
/-- the best of sets by how much, then fewest, then the least -/
def rsv (v : Nat → Nat) (ok : Nat → Bool) : Nat → Nat × Nat
  | 0 => (v 0, 0)
  | k + 1 => if ok (k + 1) = true ∧ ((rsv v ok k).1 < v (k + 1) ∨ (v (k + 1) = (rsv v ok k).1 ∧ pcn (k + 1) < pcn (rsv v ok k).2)) then (v (k + 1), k + 1) else rsv v ok k
theorem rsv_le (v : Nat → Nat) (ok : Nat → Bool) : ∀ k, (rsv v ok k).2 ≤ k
  | 0 => Nat.le_refl _
  | k + 1 => by
    unfold rsv
    split
    · exact Nat.le_refl _
    · exact Nat.le_succ_of_le (rsv_le v ok k)
theorem rsv_b (v : Nat → Nat) (ok : Nat → Bool) {m : Nat} (h : ∀ s, v s ≤ m) : ∀ k, (rsv v ok k).1 ≤ m
  | 0 => h 0
  | k + 1 => by
    unfold rsv
    split
    · exact h _
    · exact rsv_b v ok h k
theorem rsv_more (v : Nat → Nat) (ok : Nat → Bool) {n : Nat} (h : ∀ s, n < s → ok s = false) : ∀ k, rsv v ok (n + k) = rsv v ok n
  | 0 => rfl
  | k + 1 => by
    show rsv v ok ((n + k) + 1) = _
    rw [rsv, h _ (by omega), if_neg (fun q => by cases q.1)]
    exact rsv_more v ok h k
theorem left_all : ∀ h, h < 4 → ∀ t, t < 8 → ∀ s, s < 8 → (adn s (adn (2 ^ h - 1) t) = 0 ↔ (s < 2 ^ h ∧ s &&& t = 0)) := by decide +kernel
theorem left_n {hs t : Nat} (h3 : hs ≤ 3) : f_X4_housesLeft (nI hs) (nI t) = some (nI (adn (2 ^ hs - 1) t)) := by
  unfold f_X4_housesLeft
  simp only [kl0, kl1, kl2, kl3, kl4, kl5, kl6, kl7, kl8, kl9, kl10, kl12, kl13, kl14, kl20, kl21, kl22, kl23, kl24, kl25, kl26, kl30, kl31, kl33, kl48, kl49, kl57, kl65, kl66, kl67, kl72, kl89, kl100, kl128, kl255]
  rw [bit_n (by omega), kb1_some, pk_sub (Nat.two_pow_pos hs), k_adn]
def rlv (A wo : Nat → Nat) (c s : Nat) : Nat := gtS (au A 22 (A 22 ^^^ s)) wo c
def rlok (A : Nat → Nat) (hs s : Nat) : Bool := decide (s < 2 ^ hs ∧ s &&& A 23 = 0)
theorem rlv_le {A wo : Nat → Nat} {hs T c : Nat} (hV : VA hs T A) (hwo : WO hs wo) (hc : c < A 25) (s : Nat) : rlv A wo c s ≤ 6000 := by
  have hd := hV.2.2.2.2.2.2.2 c hc
  have h7 := hV.2.2.1
  have hT := hV.2.1
  unfold rlv gtS
  have := ctr_le (A := au A 22 (A 22 ^^^ s)) (c := c) hwo (by rw [au_n _ _ (by omega)]; exact hd.2.1)
  rw [au_n _ _ (by omega)]
  omega
theorem xor8 {a s : Nat} (ha : a < 8) (hs : s < 8) : a ^^^ s < 8 := Nat.xor_lt_two_pow (n := 3) ha hs
def m1 (s : Nat) (x : Nat) : Int32 := if s = 0 then (-nI 1) else nI x
def m9 (s : Nat) (x : Nat) : Int32 := if s = 0 then (-nI 9) else nI x
theorem m1_lt {s x v : Nat} (hx : x < 2 ^ 31) (hv : v < 2 ^ 31) : (m1 s x < nI v) = (s = 0 ∨ x < v) := by
  unfold m1
  by_cases h : s = 0
  · rw [if_pos h]
    have : (-nI 1) < nI v := by rw [Int32.lt_iff_toInt_lt, nI_toInt hv]; exact Int.lt_of_lt_of_le (by decide) (Int.natCast_nonneg v)
    simp [this, h]
  · rw [if_neg h]
    simp [nI_ltI hx hv, h]
theorem m9_lt {s x v : Nat} (hx : x < 2 ^ 31) (hv : v < 2 ^ 31) : (m9 s x < nI v) = (s = 0 ∨ x < v) := by
  unfold m9
  by_cases h : s = 0
  · rw [if_pos h]
    have : (-nI 9) < nI v := by rw [Int32.lt_iff_toInt_lt, nI_toInt hv]; exact Int.lt_of_lt_of_le (by decide) (Int.natCast_nonneg v)
    simp [this, h]
  · rw [if_neg h]
    simp [nI_ltI hx hv, h]
theorem roll_cl {A : Nat → Nat} {hs T : Nat} {wo : Nat → Nat} {wr bi hm ki we nwr nbi nhm nki nwe : Nat → Int32} {ho ye nch nli nye x2 : Int32} (hV : VA hs T A) (hwo : WO hs wo) (hT : CT A bi hm ki) (hE : WE A we) (hw : WM hs wo wr) {c : Nat} (hc : c < A 25) :
    ∀ (m s fuel : Nat) (si : Int32), s + m = 8 → m < fuel → ∃ u, f_X5_rollFor_44 (nI hs) nch nli (nI (A 22)) (nI (A 23)) nye nwr nbi nhm nki nwe (nI c) x2 fuel ho (nI (A 25)) (nI (A 21)) si (nI (A 23)) ye wr bi hm ki we (m1 s (rsv (rlv A wo c) (rlok A hs) (s - 1)).1) (nI (if s = 0 then 0 else (rsv (rlv A wo c) (rlok A hs) (s - 1)).2)) (nI s) = some u ∧ u.1 = if x2 = nI 0 then nI (rsv (rlv A wo c) (rlok A hs) 7).1 else nI (rsv (rlv A wo c) (rlok A hs) 7).2 := by
  have h7 := hV.2.2.1
  have hb := hV.lt
  have hd := hV.2.2.2.2.2.2.2 c hc
  intro m
  induction m with
  | zero =>
    intro s fuel si hs2 hf
    obtain ⟨k, rfl⟩ : ∃ k, fuel = k + 1 := ⟨fuel - 1, by omega⟩
    have e : s = 8 := by omega
    subst e
    simp only [f_X5_rollFor_44, f_X5_rollFor_44_b, kl0, kl1, kl2, kl3, kl4, kl5, kl6, kl7, kl8, kl9, kl10, kl12, kl13, kl14, kl20, kl21, kl22, kl23, kl24, kl25, kl26, kl30, kl31, kl33, kl48, kl49, kl57, kl65, kl66, kl67, kl72, kl89, kl100, kl128, kl255]
    rw [if_pos (nI_le (Nat.le_refl _) (by omega))]
    by_cases hx : x2 = nI 0
    · rw [if_pos hx, if_pos hx]; exact ⟨_, rfl, rfl⟩
    · rw [if_neg hx, if_neg hx]; exact ⟨_, rfl, rfl⟩
  | succ m ih =>
    intro s fuel si hs2 hf
    obtain ⟨k, rfl⟩ : ∃ k, fuel = k + 1 := ⟨fuel - 1, by omega⟩
    have hs8 : s < 8 := by omega
    have ih := fun si => ih (s + 1) k si (by omega) (by omega)
    simp only [Nat.add_sub_cancel, Nat.add_eq_zero_iff, Nat.one_ne_zero, and_false, if_false] at ih
    have hA' : WE (au A 22 (A 22 ^^^ s)) we := WE_au hE h7 _ (by omega)
    have hv := rlv_le hV hwo hc
    have hp1 := rsv_b _ (rlok A hs) hv (s - 1)
    have hp2 := rsv_le (rlv A wo c) (rlok A hs) (s - 1)
    have hbest : (if s = 0 then 0 else (rsv (rlv A wo c) (rlok A hs) (s - 1)).2) < 128 := by split <;> omega
    have hwl := wealth_n (A := au A 22 (A 22 ^^^ s)) (c := c) (BD_au hV.bd _ (by omega)) (CT_au hT h7 (A 22 ^^^ s) (by omega)) hA' hV.1 hw hwo (by rw [au_n _ _ (by omega)]; omega) (by rw [au_s]; have := xor8 hb.2.1 hs8; omega) (by rw [au_n _ _ (by omega)]; omega) (by rw [au_n _ _ (by omega)]; exact hc) (by rw [au_n _ _ (by omega)]; exact hd.2.1)
    rw [au_n A _ (show 25 ≠ 22 by decide), au_n A _ (show 21 ≠ 22 by decide), au_n A _ (show 23 ≠ 22 by decide), au_s, show gtS (au A 22 (A 22 ^^^ s)) wo c = rlv A wo c s from rfl] at hwl
    have e0 : (nI (adn s (adn (2 ^ hs - 1) (A 23))) = nI 0) = (rlok A hs s = true) := by
      have hl := adn_lt (a := s) (b := adn (2 ^ hs - 1) (A 23)) (n := 3) hs8
      rw [propext (nI_eq (by omega) (by omega)), propext (left_all hs (by have := hV.1; omega) (A 23) hb.2.2 s hs8)]
      unfold rlok
      simp
    have e1 := m1_lt (s := s) (x := (rsv (rlv A wo c) (rlok A hs) (s - 1)).1) (v := rlv A wo c s) (by omega) (by have := hv s; omega)
    have hb1 := pcn_le s
    have hb2 := pcn_le (if s = 0 then 0 else (rsv (rlv A wo c) (rlok A hs) (s - 1)).2)
    simp only [f_X5_rollFor_44, f_X5_rollFor_44_b, f_X5_rollFor_114, kl0, kl1, kl2, kl3, kl4, kl5, kl6, kl7, kl8, kl9, kl10, kl12, kl13, kl14, kl20, kl21, kl22, kl23, kl24, kl25, kl26, kl30, kl31, kl33, kl48, kl49, kl57, kl65, kl66, kl67, kl72, kl89, kl100, kl128, kl255]
    rw [if_neg (nI_ge hs8 (by omega)), left_n hV.1, kb1_some, k_adn, k_xor, hwl, kb1_some, bc_all s (by omega), kb1_some, bc_all _ hbest, kb1_some, show nI s + nI 1 = nI (s + 1) from nI_1 s]
    simp only [e0]
    by_cases hok : rlok A hs s = true
    · rw [if_pos hok]
      simp only [e1]
      rcases Nat.eq_zero_or_pos s with h0 | h0
      · subst h0
        simp only [true_or, if_true, ite_self]
        exact ih _
      · obtain ⟨t, rfl⟩ : ∃ t, s = t + 1 := ⟨s - 1, by omega⟩
        simp only [Nat.add_sub_cancel, Nat.add_eq_zero_iff, Nat.one_ne_zero, and_false, if_false, false_or] at ih ⊢
        rw [rsv, hok] at ih
        simp only [true_and] at ih
        simp only [Nat.add_sub_cancel] at hp1 hp2
        have e2 : (nI (rlv A wo c (t + 1)) = nI (rsv (rlv A wo c) (rlok A hs) t).1) = (rlv A wo c (t + 1) = (rsv (rlv A wo c) (rlok A hs) t).1) := propext (nI_eq (by have := hv (t + 1); omega) (by omega))
        have em : ∀ x, m1 (t + 1) x = nI x := fun x => by unfold m1; rw [if_neg (by omega)]
        have em2 : ∀ x, m1 (t + 1 + 1) x = nI x := fun x => by unfold m1; rw [if_neg (by omega)]
        have e3 : (nI (pcn (rsv (rlv A wo c) (rlok A hs) t).2) ≤ nI (pcn (t + 1))) = (pcn (rsv (rlv A wo c) (rlok A hs) t).2 ≤ pcn (t + 1)) := propext (nI_leI (by have := pcn_le (rsv (rlv A wo c) (rlok A hs) t).2; omega) (by omega))
        simp only [e2, e3, em, em2] at ih ⊢
        by_cases q1 : (rsv (rlv A wo c) (rlok A hs) t).1 < rlv A wo c (t + 1)
        · simp only [q1, true_or, if_true, ite_self] at ih ⊢
          exact ih _
        · by_cases q2 : rlv A wo c (t + 1) = (rsv (rlv A wo c) (rlok A hs) t).1
          · by_cases q3 : pcn (rsv (rlv A wo c) (rlok A hs) t).2 ≤ pcn (t + 1)
            · have q4 : ¬ pcn (t + 1) < pcn (rsv (rlv A wo c) (rlok A hs) t).2 := by omega
              simp only [q1, q2, q3, q4, Nat.lt_irrefl, and_false, or_false, if_true, if_false] at ih ⊢
              exact ih _
            · have q4 : pcn (t + 1) < pcn (rsv (rlv A wo c) (rlok A hs) t).2 := by omega
              have z : ¬ nI 1 = nI 0 := by decide
              simp only [q2, q3, q4, z, Nat.lt_irrefl, and_true, or_true, if_true, if_false] at ih ⊢
              exact ih _
          · simp only [q1, q2, false_and, or_false, if_false, ite_self] at ih ⊢
            exact ih _
    · rw [if_neg hok]
      have hs0 : s ≠ 0 := by
        intro q
        apply hok
        subst q
        unfold rlok
        rw [Nat.zero_and]
        exact decide_eq_true ⟨Nat.two_pow_pos hs, rfl⟩
      obtain ⟨t, rfl⟩ : ∃ t, s = t + 1 := ⟨s - 1, by omega⟩
      rw [rsv, if_neg (fun q => hok q.1)] at ih
      simp only [Nat.add_sub_cancel, Nat.add_eq_zero_iff, Nat.one_ne_zero, and_false, if_false] at ih ⊢
      have em : ∀ x, m1 (t + 1) x = nI x := fun x => by unfold m1; rw [if_neg (by omega)]
      have em2 : ∀ x, m1 (t + 1 + 1) x = nI x := fun x => by unfold m1; rw [if_neg (by omega)]
      simp only [em, em2] at ih ⊢
      exact ih _
theorem roll_rl {A : Nat → Nat} {P mw : Nat → Int32} {hs T : Nat} {wo : Nat → Nat} (hV : VA hs T A) (hwo : WO hs wo) (hP : PG A P) (hw : WM hs wo mw) {c : Nat} (hc : c < A 25) :
    ∀ (m s fuel : Nat) (tr : Nat → Int32), s + m = 2 ^ hs → m < fuel → ∃ tr', f_X6_findRoll_13 (nI hs) mw P (nI c) fuel (m9 s (rsv (rlv A wo c) (rlok A hs) (s - 1)).1) (nI (if s = 0 then 0 else (rsv (rlv A wo c) (rlok A hs) (s - 1)).2)) tr (nI s) = some (nI (rsv (rlv A wo c) (rlok A hs) (2 ^ hs - 1)).1, nI (rsv (rlv A wo c) (rlok A hs) (2 ^ hs - 1)).2, tr') := by
  have h7 := hV.2.2.1
  have h3 := hV.1
  have hb := hV.lt
  have hd := hV.2.2.2.2.2.2.2 c hc
  have hpw : 2 ^ hs ≤ 8 := p2_le3 h3
  have hpp : 0 < 2 ^ hs := Nat.two_pow_pos hs
  intro m
  induction m with
  | zero =>
    intro s fuel tr hs2 hf
    obtain ⟨k, rfl⟩ : ∃ k, fuel = k + 1 := ⟨fuel - 1, by omega⟩
    have e : s = 2 ^ hs := by omega
    subst e
    simp only [f_X6_findRoll_13, f_X6_findRoll_13_b, kl0, kl1, kl2, kl3, kl4, kl5, kl6, kl7, kl8, kl9, kl10, kl12, kl13, kl14, kl20, kl21, kl22, kl23, kl24, kl25, kl26, kl30, kl31, kl33, kl48, kl49, kl57, kl65, kl66, kl67, kl72, kl89, kl100, kl128, kl255]
    rw [k_sh1 (by omega), if_pos (nI_le (Nat.le_refl _) (by omega))]
    unfold m9
    rw [if_neg (by omega), if_neg (by omega)]
    exact ⟨_, rfl⟩
  | succ m ih =>
    intro s fuel tr hs2 hf
    obtain ⟨k, rfl⟩ : ∃ k, fuel = k + 1 := ⟨fuel - 1, by omega⟩
    have hs8 : s < 8 := by omega
    have ih := fun tr => ih (s + 1) k tr (by omega) (by omega)
    simp only [Nat.add_sub_cancel, Nat.add_eq_zero_iff, Nat.one_ne_zero, and_false, if_false] at ih
    have hv := rlv_le hV hwo hc
    have hp1 := rsv_b _ (rlok A hs) hv (s - 1)
    have hp2 := rsv_le (rlv A wo c) (rlok A hs) (s - 1)
    have hbest : (if s = 0 then 0 else (rsv (rlv A wo c) (rlok A hs) (s - 1)).2) < 128 := by split <;> omega
    obtain ⟨u, hu1, hu2⟩ := begin_n hP tr
    have hPu : PG (au A 22 (A 22 ^^^ s)) (upd u 22 (nI (A 22 ^^^ s))) := hu2.au _
    have hgo := getsOf_r (A := au A 22 (A 22 ^^^ s)) (c := c) (BD_au hV.bd _ (by omega)) hPu h3 hw hwo (by rw [au_n _ _ (by omega)]; omega) (by rw [au_s]; have := xor8 hb.2.1 hs8; omega) (by rw [au_n _ _ (by omega)]; omega) (by rw [au_n _ _ (by omega)]; exact hc) (by rw [au_n _ _ (by omega)]; exact hd.2.1)
    rw [show gtS (au A 22 (A 22 ^^^ s)) wo c = rlv A wo c s from rfl] at hgo
    have e0 : (nI (s &&& A 23) = nI 0) = (rlok A hs s = true) := by
      have hl : s &&& A 23 < 8 := Nat.lt_of_le_of_lt Nat.and_le_left hs8
      rw [propext (nI_eq (by omega) (by omega))]
      unfold rlok
      simp
      omega
    have e1 := m9_lt (s := s) (x := (rsv (rlv A wo c) (rlok A hs) (s - 1)).1) (v := rlv A wo c s) (by omega) (by have := hv s; omega)
    have hb1 := pcn_le s
    simp only [f_X6_findRoll_13, f_X6_findRoll_13_b, f_X6_findRoll_90, kl0, kl1, kl2, kl3, kl4, kl5, kl6, kl7, kl8, kl9, kl10, kl12, kl13, kl14, kl20, kl21, kl22, kl23, kl24, kl25, kl26, kl30, kl31, kl33, kl48, kl49, kl57, kl65, kl66, kl67, kl72, kl89, kl100, kl128, kl255]
    rw [k_sh1 (by omega), if_neg (nI_ge (by omega) (by omega)), hP 23 (by omega), k_and, hu1, kb1_some, hu2 22 (by omega), k_xor, hgo, kb1_some, many_all s (by omega), kb1_some, many_all _ hbest, kb1_some, show nI s + nI 1 = nI (s + 1) from nI_1 s]
    simp only [e0, e1]
    by_cases hok : rlok A hs s = true
    · rw [if_pos hok]
      rcases Nat.eq_zero_or_pos s with h0 | h0
      · subst h0
        simp only [true_or, if_true]
        exact ih _
      · obtain ⟨t, rfl⟩ : ∃ t, s = t + 1 := ⟨s - 1, by omega⟩
        simp only [Nat.add_sub_cancel, Nat.add_eq_zero_iff, Nat.one_ne_zero, and_false, if_false, false_or] at ih ⊢
        rw [rsv, hok] at ih
        simp only [true_and] at ih
        simp only [Nat.add_sub_cancel] at hp1 hp2
        have e2 : (nI (rlv A wo c (t + 1)) = nI (rsv (rlv A wo c) (rlok A hs) t).1) = (rlv A wo c (t + 1) = (rsv (rlv A wo c) (rlok A hs) t).1) := propext (nI_eq (by have := hv (t + 1); omega) (by omega))
        have em : ∀ x, m9 (t + 1) x = nI x := fun x => by unfold m9; rw [if_neg (by omega)]
        have em2 : ∀ x, m9 (t + 1 + 1) x = nI x := fun x => by unfold m9; rw [if_neg (by omega)]
        have e3 : (nI (pcn (rsv (rlv A wo c) (rlok A hs) t).2) ≤ nI (pcn (t + 1))) = (pcn (rsv (rlv A wo c) (rlok A hs) t).2 ≤ pcn (t + 1)) := propext (nI_leI (by have := pcn_le (rsv (rlv A wo c) (rlok A hs) t).2; omega) (by omega))
        simp only [e2, e3, em, em2] at ih ⊢
        by_cases q1 : (rsv (rlv A wo c) (rlok A hs) t).1 < rlv A wo c (t + 1)
        · simp only [q1, true_or, if_true] at ih ⊢
          exact ih _
        · by_cases q2 : rlv A wo c (t + 1) = (rsv (rlv A wo c) (rlok A hs) t).1
          · by_cases q3 : pcn (rsv (rlv A wo c) (rlok A hs) t).2 ≤ pcn (t + 1)
            · have q4 : ¬ pcn (t + 1) < pcn (rsv (rlv A wo c) (rlok A hs) t).2 := by omega
              simp only [q1, q2, q3, q4, Nat.lt_irrefl, and_false, or_false, if_true, if_false] at ih ⊢
              exact ih _
            · have q4 : pcn (t + 1) < pcn (rsv (rlv A wo c) (rlok A hs) t).2 := by omega
              simp only [q2, q3, q4, Nat.lt_irrefl, and_true, or_true, if_true, if_false] at ih ⊢
              exact ih _
          · simp only [q1, q2, false_and, or_false, if_false] at ih ⊢
            exact ih _
    · rw [if_neg hok]
      have hs0 : s ≠ 0 := by
        intro q
        apply hok
        subst q
        unfold rlok
        rw [Nat.zero_and]
        exact decide_eq_true ⟨Nat.two_pow_pos hs, rfl⟩
      obtain ⟨t, rfl⟩ : ∃ t, s = t + 1 := ⟨s - 1, by omega⟩
      rw [rsv, if_neg (fun q => hok q.1)] at ih
      simp only [Nat.add_sub_cancel, Nat.add_eq_zero_iff, Nat.one_ne_zero, and_false, if_false] at ih ⊢
      have em : ∀ x, m9 (t + 1) x = nI x := fun x => by unfold m9; rw [if_neg (by omega)]
      have em2 : ∀ x, m9 (t + 1 + 1) x = nI x := fun x => by unfold m9; rw [if_neg (by omega)]
      simp only [em, em2] at ih ⊢
      exact ih _
