/-! MATH 5b: rollFor -/
theorem in_r01 (x : Int32) : f_X6_in x.toInt64 0 1 = some (nI (decide (0 ≤ x.toInt ∧ x.toInt ≤ 1)).toNat) := by
  rw [in_x, Int32.toInt_toInt64]
  rfl
theorem cmd_rollFor {A : Nat → Nat} {P mw : Nat → Int32} {hs T : Nat} {wo : Nat → Nat} {ho ch li si ih ye : Int32} {wr bi hm ki we : Nat → Int32} (hV : VA hs T A) (hwo : WO hs wo) (hT : TR hs wo A ho ch li si ih ye wr bi hm ki we) (hP : PG A P) (hmw : WM hs wo mw) (d1 d2 d3 d4 d5 d6 : Int32) (e1 e2 e3 e4 e5 : Nat → Int32) (th rm rs : Int32) (tr : Nat → Int32) (x y : Int32) :
    ∃ u v, f_X5_rollFor ho ch li si ih ye wr bi hm ki we d1 d2 d3 d4 d5 d6 e1 e2 e3 e4 e5 x y = some u ∧ f_X6_rollFor (nI hs) mw P th rm rs tr x y = some v ∧ u.1 = v.1 := by
  have h7 := hV.2.2.1
  have h3 := hV.1
  obtain ⟨w', b', m', k', v', t1, t2⟩ := take_TR h3 h7 hT d1 d2 d3 d4 d5 d6 e1 e2 e3 e4 e5
  obtain ⟨rfl, rfl, rfl, rfl, rfl, rfl, -, -, -⟩ := hT
  obtain ⟨-, -, -, -, -, -, q7, q8, q9⟩ := t2
  unfold f_X5_rollFor f_X6_rollFor
  rw [hasChild_x x (by omega), noChild_x hP x (by omega), in_r01 y, t1]
  simp only [kl0, kl1, kl2, kl3, kl4, kl5, kl6, kl7, kl8, kl9, kl10, kl12, kl13, kl14, kl20, kl21, kl22, kl23, kl24, kl25, kl26, kl30, kl31, kl33, kl48, kl49, kl57, kl65, kl66, kl67, kl72, kl89, kl100, kl128, kl255]
  rw [kb1_some, kb1_some, kb1_some, ki0, ki0, kb1_some, ki0]
  rcases inr_cases x (n := A 25) (by omega) with h | ⟨c, hc, rfl⟩
  · rw [h]
    exact ⟨_, _, rfl, rfl, rfl⟩
  · rw [inr_y hc (by omega)]
    rw [if_pos rfl, if_neg (show ¬ ((!true) = true) by decide)]
    simp only [k_neg, show (y ≤ nI 1) = (y.toInt ≤ 1) from propext (by rw [Int32.le_iff_toInt_le]; rfl)]
    by_cases hy1 : y.toInt < 0
    · rw [if_pos hy1, decide_eq_false (by omega)]
      exact ⟨_, _, rfl, rfl, rfl⟩
    · rw [if_neg hy1]
      by_cases hy2 : y.toInt ≤ 1
      · rw [if_pos hy2, decide_eq_true (by omega)]
        simp only [if_true]
        obtain ⟨u, hu1, hu2⟩ := roll_cl (nch := nI (A 25)) (nli := nI (A 21)) (nye := nI (A 24)) (nwr := wr) (nbi := bi) (nhm := hm) (nki := ki) (nwe := we) (ho := nI hs) (ye := nI (A 24)) (x2 := y) hV hwo q8 q9 q7 hc 8 0 1000 (nI (A 22)) (by omega) (by omega)
        obtain ⟨tr', hr⟩ := roll_rl hV hwo hP hmw hc (2 ^ hs) 0 1000 tr (by omega) (by have := p2_le3 h3; omega)
        simp only [m1, m9, if_true] at hu1 hr
        unfold f_X6_findRoll
        simp only [kl0, kl1, kl2, kl3, kl4, kl5, kl6, kl7, kl8, kl9, kl10, kl12, kl13, kl14, kl20, kl21, kl22, kl23, kl24, kl25, kl26, kl30, kl31, kl33, kl48, kl49, kl57, kl65, kl66, kl67, kl72, kl89, kl100, kl128, kl255]
        rw [hu1, hr, kb1_some]
        dsimp only
        have e7 : rsv (rlv A wo c) (rlok A hs) 7 = rsv (rlv A wo c) (rlok A hs) (2 ^ hs - 1) := by
          have hp := p2_le3 h3
          have hp0 := Nat.two_pow_pos hs
          have := rsv_more (rlv A wo c) (rlok A hs) (n := 2 ^ hs - 1) (fun s h => by unfold rlok; exact decide_eq_false (fun q => by omega)) (7 - (2 ^ hs - 1))
          rw [show 2 ^ hs - 1 + (7 - (2 ^ hs - 1)) = 7 by omega] at this
          exact this
        rw [e7] at hu2
        by_cases hy : y = nI 0
        · rw [if_pos hy] at hu2 ⊢
          exact ⟨_, _, rfl, rfl, hu2⟩
        · rw [if_neg hy] at hu2 ⊢
          exact ⟨_, _, rfl, rfl, hu2⟩
      · rw [if_neg hy2, decide_eq_false (by omega)]
        exact ⟨_, _, rfl, rfl, rfl⟩
