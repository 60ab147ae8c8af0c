/-! MATH 13: sightings -/
def SN (n : Nat) (H C L : Nat → Nat) (sh sc sl mh mc ml : Nat → Int32) : Prop :=
  n ≤ 6 ∧ ∀ i, i < n → sh i = nI (H i) ∧ sc i = nI (C i) ∧ sl i = nI (L i) ∧ mh i = nI (H i) ∧ mc i = nI (C i) ∧ ml i = nI (L i) ∧ H i < 3 ∧ C i < 7 ∧ L i < 128 ∧ (L i).testBit (C i) = true
def SNE (n : Nat) (sh sc sl mh mc ml : Nat → Int32) : Prop := ∃ H C L, SN n H C L sh sc sl mh mc ml
theorem inr_nI {a n : Nat} (ha : a < 2 ^ 31) : inr (nI a) n = decide (a < n) := by
  unfold inr
  rw [nI_toInt ha]
  exact decide_eq_decide.mpr (by omega)
theorem cmd_see {hs T na : Nat} {wo : Nat → Nat} {ho ch li si ih ye : Int32} {wr bi hm ki we wt wh bf P bk : Nat → Int32} (hS : ST hs T wo na ho ch li si ih ye wr bi hm ki we wt wh bf P bk) {n : Nat} {sh sc sl mh mc ml : Nat → Int32} (hN : SNE n sh sc sl mh mc ml) (th x y z : Int32) :
    ∃ r th' n' sh' sc' sl' mh' mc' ml', f_X5_see ho ch (nI n) sh sc sl x y z = some (r, nI n', sh', sc', sl') ∧ f_X6_see (nI hs) P th (nI n) mh mc ml x y z = some (r, th', nI n', mh', mc', ml') ∧ SNE n' sh' sc' sl' mh' mc' ml' := by
  have hN0 := hN
  obtain ⟨H, C, L, n6, hN⟩ := hN
  obtain ⟨A, hV, hTR, hP, hA⟩ := hS
  have h7 := hV.2.2.1
  have h3 := hV.1
  have p7 := p2_le h7
  have p0 := Nat.two_pow_pos (A 25)
  obtain ⟨rfl, rfl, -, -, -, -, -, -, -⟩ := hTR
  unfold f_X5_see f_X6_see
  rw [hasHouse_x x (by omega), noHouse_x x (by omega)]
  simp only [kl0, kl1, kl2, kl3, kl4, kl5, kl6, kl7, kl8, kl9, kl10, kl12, kl13, kl14, kl20, kl21, kl22, kl23, kl24, kl25, kl26, kl30, kl31, kl33, kl48, kl49, kl57, kl65, kl66, kl67, kl72, kl89, kl100, kl128, kl255]
  rw [kb1_some, kb1_some, ki0, ki0]
  rcases inr_cases x (n := hs) (by omega) with h | ⟨c, hc, rfl⟩
  · rw [h]
    exact ⟨_, _, n, _, _, _, _, _, _, rfl, rfl, hN0⟩
  · rw [inr_y hc (by omega), if_pos rfl, if_neg (show ¬ ((!true) = true) by decide), hasChild_x y (by omega), noChild_x hP y (by omega), kb1_some, kb1_some, ki0, ki0]
    rcases inr_cases y (n := A 25) (by omega) with h | ⟨d, hd, rfl⟩
    · rw [h]
      exact ⟨_, _, n, _, _, _, _, _, _, rfl, rfl, hN0⟩
    · rw [inr_y hd (by omega), if_pos rfl, if_neg (show ¬ ((!true) = true) by decide), hP 25 (by omega), k_sh1 (by omega), in_n z (by omega), kb1_some, ki0]
      have e1 : (z < nI 0) = (z.toInt < 0) := k_neg z
      have e2 : (nI (2 ^ A 25) ≤ z) = (((2 ^ A 25 : Nat) : Int) ≤ z.toInt) := k_leI z (by omega)
      simp only [e1, e2]
      rcases inr_cases z (n := 2 ^ A 25) (by omega) with h | ⟨l, hl, rfl⟩
      · have h' := h
        unfold inr at h'
        rw [decide_eq_false_iff_not] at h'
        rw [h]
        by_cases z0 : z.toInt < 0
        · rw [if_pos z0]
          exact ⟨_, _, n, _, _, _, _, _, _, rfl, rfl, hN0⟩
        · rw [if_neg z0, if_pos (by omega)]
          exact ⟨_, _, n, _, _, _, _, _, _, rfl, rfl, hN0⟩
      · rw [nI_toInt (by omega), if_neg (by omega), if_neg (by omega), inr_y hl (by omega), if_pos rfl, isIn_n (by omega) (by omega), kb1_some, ki0, has_n (by omega) (by omega), kb1_some, ki0]
        by_cases b : l.testBit d = true
        · rw [if_pos b, if_pos b]
          by_cases e : n = 6
          · subst e
            rw [if_neg (nI_nlt (Nat.le_refl 6) (by omega)), if_pos rfl]
            exact ⟨_, _, 6, _, _, _, _, _, _, rfl, rfl, hN0⟩
          · rw [if_pos (nI_lt (by omega) (by omega)), if_neg (fun q => e ((nI_eq (by omega) (by omega)).1 q)), kg_yes (kin_y (by omega) (by omega)), kg_yes (kin_y (by omega) (by omega)), kg_yes (kin_y (by omega) (by omega)), nI_clamp (by omega), k_s1]
            unfold f_X2_add
            simp only [kl0, kl1, kl2, kl3, kl4, kl5, kl6, kl7, kl8, kl9, kl10, kl12, kl13, kl14, kl20, kl21, kl22, kl23, kl24, kl25, kl26, kl30, kl31, kl33, kl48, kl49, kl57, kl65, kl66, kl67, kl72, kl89, kl100, kl128, kl255]
            rw [set_n (by decide) (by omega), kb1_some, set_n (by decide) (by omega), kb1_some, set_n (by decide) (by omega), kb1_some, kb1_some, k_s1]
            refine ⟨_, _, n + 1, _, _, _, _, _, _, rfl, rfl, fun i => if i = n then c else H i, fun i => if i = n then d else C i, fun i => if i = n then l else L i, by omega, fun i hi => ?_⟩
            dsimp only
            by_cases q : i = n
            · rw [q, if_pos rfl, if_pos rfl, if_pos rfl, upd_s, upd_s, upd_s, upd_s, upd_s, upd_s]
              exact ⟨rfl, rfl, rfl, rfl, rfl, rfl, by omega, by omega, by omega, b⟩
            · rw [if_neg q, if_neg q, if_neg q, upd_n q, upd_n q, upd_n q, upd_n q, upd_n q, upd_n q]
              exact hN i (by omega)
        · rw [if_neg b, if_neg b]
          exact ⟨_, _, n, _, _, _, _, _, _, rfl, rfl, hN0⟩
/-- how many are wrong -/
def cw (A : Nat → Nat) (hs : Nat) (H C L : Nat → Nat) (S : Nat) : Nat → Nat
  | 0 => 0
  | k + 1 => cw A hs H C L S k + (if (H k < hs ∧ L k < 2 ^ A 25) ∧ (hrA A (H k) (S.testBit (H k)) (L k)).testBit (C k) = false then 1 else 0)
theorem cw_s (A : Nat → Nat) (hs : Nat) (H C L : Nat → Nat) (S k : Nat) : cw A hs H C L S (k + 1) = cw A hs H C L S k + (if (H k < hs ∧ L k < 2 ^ A 25) ∧ (hrA A (H k) (S.testBit (H k)) (L k)).testBit (C k) = false then 1 else 0) := rfl
theorem cw_le (A : Nat → Nat) (hs : Nat) (H C L : Nat → Nat) (S : Nat) : ∀ k, cw A hs H C L S k ≤ k
  | 0 => Nat.le_refl _
  | k + 1 => by
    have := cw_le A hs H C L S k
    unfold cw
    split <;> omega
theorem looked_n {A : Nat → Nat} {hs n : Nat} {H C L : Nat → Nat} {sh sc sl mh mc ml : Nat → Int32} (hN : SN n H C L sh sc sl mh mc ml) (h7 : A 25 ≤ 7) (h3 : hs ≤ 3) {c : Nat} (hc : c < n) :
    f_X2_isLookedAt sh sc sl (nI hs) (nI (A 25)) (nI c) = some (nI (decide (H c < hs ∧ L c < 2 ^ A 25)).toNat) := by
  obtain ⟨n6, hN⟩ := hN
  obtain ⟨q1, q2, q3, -, -, -, q7, q8, q9, q10⟩ := hN c hc
  have p7 := p2_le h7
  unfold f_X2_isLookedAt
  simp only [kl0, kl1, kl2, kl3, kl4, kl5, kl6, kl7, kl8, kl9, kl10, kl12, kl13, kl14, kl20, kl21, kl22, kl23, kl24, kl25, kl26, kl30, kl31, kl33, kl48, kl49, kl57, kl65, kl66, kl67, kl72, kl89, kl100, kl128, kl255]
  rw [get_n (by decide) (by omega), kb1_some, q1, hasHouse_x _ (by omega), kb1_some, ki0, inr_nI (by omega), get_n (by decide) (by omega), kb1_some, q2, hasChild_x _ (by omega), kb1_some, ki0, inr_nI (by omega), get_n (by decide) (by omega), kb1_some, q3, bit_n (by omega), kb1_some]
  by_cases a : H c < hs
  · rw [decide_eq_true a, if_pos rfl]
    by_cases b : L c < 2 ^ A 25
    · rw [decide_eq_true (tb_lt b q10), if_pos rfl, if_neg (nI_ge b (by omega)), decide_eq_true (And.intro a b)]; rfl
    · rw [decide_eq_false (show ¬ (H c < hs ∧ L c < 2 ^ A 25) from fun w => b w.2)]
      by_cases d : C c < A 25
      · rw [decide_eq_true d, if_pos rfl, if_pos (nI_le (by omega) (by omega))]; rfl
      · rw [decide_eq_false d, if_neg Bool.false_ne_true]; rfl
  · rw [decide_eq_false a, if_neg Bool.false_ne_true, decide_eq_false (show ¬ (H c < hs ∧ L c < 2 ^ A 25) from fun w => a w.1)]; rfl
theorem wrong_cl {A : Nat → Nat} {hs n : Nat} {H C L : Nat → Nat} {sh sc sl mh mc ml bi hm ki : Nat → Int32} (hN : SN n H C L sh sc sl mh mc ml) (hB : BD A) (hT : CT A bi hm ki) (h3 : hs ≤ 3) {S : Nat} (hS : S < 8) :
    ∀ (m c fuel : Nat), c + m = n → m < fuel → f_X2_countWrong_5 (nI n) sh sc sl (nI hs) (nI (A 25)) bi hm ki (nI S) fuel (nI (cw A hs H C L S c)) (nI c) = some (nI (cw A hs H C L S n)) := by
  have h7 := hB.1
  have n6 := hN.1
  intro m
  induction m with
  | zero =>
    intro c fuel hc hf
    obtain ⟨k, rfl⟩ : ∃ k, fuel = k + 1 := ⟨fuel - 1, by omega⟩
    have e : c = n := by omega
    subst e
    simp only [f_X2_countWrong_5, f_X2_countWrong_5_b]
    rw [if_pos (nI_le (Nat.le_refl _) (by omega))]
  | succ m ih =>
    intro c fuel hc hf
    obtain ⟨k, rfl⟩ : ∃ k, fuel = k + 1 := ⟨fuel - 1, by omega⟩
    obtain ⟨q1, q2, q3, -, -, -, q7, q8, q9, q10⟩ := hN.2 c (by omega)
    have ih := ih (c + 1) k (by omega) (by omega)
    have hh := fun y => heirs_c hB hT (h := H c) (al := L c) (by omega) (by omega) y
    have hl := fun y => hrA_lt A h7 (H c) y (L c)
    simp only [f_X2_countWrong_5, f_X2_countWrong_5_b, f_X2_countWrong_48, kl0, kl1, kl2, kl3, kl4, kl5, kl6, kl7, kl8, kl9, kl10, kl12, kl13, kl14, kl20, kl21, kl22, kl23, kl24, kl25, kl26, kl30, kl31, kl33, kl48, kl49, kl57, kl65, kl66, kl67, kl72, kl89, kl100, kl128, kl255]
    rw [if_neg (nI_ge (by omega) (by omega)), looked_n hN h7 h3 (by omega), kb1_some, ki0, get_n (by decide) (by omega), kb1_some, q1, isIn_n (by omega) (by omega), kb1_some, ki0, kb1_some, kb1_some, get_n (by decide) (by omega), kb1_some, kb1_some, q3, get_n (by decide) (by omega), q2]
    have h0 := hh false
    have h1 := hh true
    rw [show nI false.toNat = nI 0 from rfl] at h0
    rw [show nI true.toNat = nI 1 from rfl] at h1
    rw [h0, h1, kb1_some, kb1_some, kb1_some, kb1_some, isIn_n (by have := hl true; omega) (by omega), isIn_n (by have := hl false; omega) (by omega), kb1_some, kb1_some, ki0, ki0, k_s1, k_s1]
    rw [cw_s] at ih
    by_cases a : H c < hs ∧ L c < 2 ^ A 25
    · rw [decide_eq_true a, if_pos rfl]
      by_cases b : S.testBit (H c) = true
      · rw [b] at ih
        rw [if_pos b]
        by_cases d : (hrA A (H c) true (L c)).testBit (C c) = true
        · rw [if_pos d]
          rw [if_neg (fun w => by rw [d] at w; exact absurd w.2 (by decide)), Nat.add_zero] at ih
          exact ih
        · rw [if_neg d]
          rw [if_pos ⟨a, (Bool.not_eq_true _).mp d⟩] at ih
          exact ih
      · rw [(Bool.not_eq_true _).mp b] at ih
        rw [if_neg b]
        by_cases d : (hrA A (H c) false (L c)).testBit (C c) = true
        · rw [if_pos d]
          rw [if_neg (fun w => by rw [d] at w; exact absurd w.2 (by decide)), Nat.add_zero] at ih
          exact ih
        · rw [if_neg d]
          rw [if_pos ⟨a, (Bool.not_eq_true _).mp d⟩] at ih
          exact ih
    · rw [decide_eq_false a, if_neg Bool.false_ne_true]
      rw [if_neg (fun w => a w.1), Nat.add_zero] at ih
      exact ih
theorem wrong_c {A : Nat → Nat} {hs n : Nat} {H C L : Nat → Nat} {sh sc sl mh mc ml bi hm ki : Nat → Int32} (hN : SN n H C L sh sc sl mh mc ml) (hB : BD A) (hT : CT A bi hm ki) (h3 : hs ≤ 3) {S : Nat} (hS : S < 8) :
    f_X2_countWrong (nI n) sh sc sl (nI hs) (nI (A 25)) bi hm ki (nI S) = some (nI (cw A hs H C L S n)) := by
  have n6 := hN.1
  unfold f_X2_countWrong
  rw [kl0]
  exact wrong_cl hN hB hT h3 hS n 0 1000 (by omega) (by omega)
theorem wrong_rl {A : Nat → Nat} {hs n : Nat} {H C L : Nat → Nat} {sh sc sl mh mc ml P : Nat → Int32} (hN : SN n H C L sh sc sl mh mc ml) (hB : BD A) (hP : PG A P) (h3 : hs ≤ 3) {S : Nat} (hS : S < 8) :
    ∀ (m c fuel : Nat), c + m = n → m < fuel → f_X6_wrongBy_4 (nI hs) (nI n) P mh mc ml (nI S) fuel (nI (cw A hs H C L S c)) (nI c) = some (nI (cw A hs H C L S n)) := by
  have h7 := hB.1
  have n6 := hN.1
  have p7 := p2_le h7
  intro m
  induction m with
  | zero =>
    intro c fuel hc hf
    obtain ⟨k, rfl⟩ : ∃ k, fuel = k + 1 := ⟨fuel - 1, by omega⟩
    have e : c = n := by omega
    subst e
    simp only [f_X6_wrongBy_4, f_X6_wrongBy_4_b]
    rw [if_pos (nI_le (Nat.le_refl _) (by omega))]
  | succ m ih =>
    intro c fuel hc hf
    obtain ⟨k, rfl⟩ : ∃ k, fuel = k + 1 := ⟨fuel - 1, by omega⟩
    obtain ⟨-, -, -, q1, q2, q3, q7, q8, q9, q10⟩ := hN.2 c (by omega)
    have ih := ih (c + 1) k (by omega) (by omega)
    have hh := heirs_r hB hP (h := H c) (al := L c) (by omega) (by omega) (S.testBit (H c))
    have hl := hrA_lt A h7 (H c) (S.testBit (H c)) (L c)
    rw [cw_s] at ih
    simp only [f_X6_wrongBy_4, f_X6_wrongBy_4_b, f_X6_wrongBy_48, f_X6_wrongBy_88, kl0, kl1, kl2, kl3, kl4, kl5, kl6, kl7, kl8, kl9, kl10, kl12, kl13, kl14, kl20, kl21, kl22, kl23, kl24, kl25, kl26, kl30, kl31, kl33, kl48, kl49, kl57, kl65, kl66, kl67, kl72, kl89, kl100, kl128, kl255, if_true, show (nI 1 = nI 0) = False from propext ⟨fun h => absurd h (by decide), False.elim⟩, if_false]
    rw [if_neg (nI_ge (by omega) (by omega)), kg_yes (kin_y (by omega) (by omega)), nI_clamp (show c < 2 ^ 31 by omega), q1, noHouse_x _ (by omega), kb1_some, ki0, inr_nI (by omega), kg_yes (kin_y (by omega) (by omega)), kg_yes (kin_y (by omega) (by omega)), q3, hP 25 (by omega), k_sh1 (by omega), k_shr (by omega) (by omega), k_and, k_bit, hh, kb1_some, kg_yes (kin_y (by omega) (by omega)), q2, has_n (by omega) (by omega), kb1_some, ki0, k_s1, k_s1, nI_add, Nat.add_zero]
    by_cases a : H c < hs
    · rw [decide_eq_true a, if_neg (show ¬ ((!true) = true) by decide)]
      by_cases b : L c < 2 ^ A 25
      · rw [if_neg (nI_ge b (by omega))]
        by_cases d : (hrA A (H c) (S.testBit (H c)) (L c)).testBit (C c) = true
        · rw [if_pos d, kg_yes (kin_y (by omega) (by omega)), kg_yes (kin_y (by omega) (by omega))]
          rw [if_neg (fun w => by rw [d] at w; exact absurd w.2 (by decide)), Nat.add_zero] at ih
          exact ih
        · rw [if_neg d, kg_yes (kin_y (by omega) (by omega)), kg_yes (kin_y (by omega) (by omega))]
          rw [if_pos ⟨⟨a, b⟩, (Bool.not_eq_true _).mp d⟩] at ih
          exact ih
      · rw [if_pos (nI_le (by omega) (by omega))]
        rw [if_neg (fun w => b w.1.2), Nat.add_zero] at ih
        exact ih
    · rw [decide_eq_false a, if_pos (show (!false) = true from rfl)]
      rw [if_neg (fun w => a w.1.1), Nat.add_zero] at ih
      exact ih
theorem wrong_r {A : Nat → Nat} {hs n : Nat} {H C L : Nat → Nat} {sh sc sl mh mc ml P : Nat → Int32} (hN : SN n H C L sh sc sl mh mc ml) (hB : BD A) (hP : PG A P) (h3 : hs ≤ 3) {S : Nat} (hS : S < 8) :
    f_X6_wrongBy (nI hs) (nI n) P mh mc ml (nI S) = some (nI (cw A hs H C L S n)) := by
  have n6 := hN.1
  unfold f_X6_wrongBy
  rw [kl0]
  exact wrong_rl hN hB hP h3 hS n 0 1000 (by omega) (by omega)
