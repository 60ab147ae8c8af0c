/-! MATH 15: sides of the reference, and the command -/
theorem find_rl {A : Nat → Nat} {hs n : Nat} {H C L : Nat → Nat} {sh sc sl mh mc ml P : Nat → Int32} (hN : SN n H C L sh sc sl mh mc ml) (hB : BD A) (hP : PG A P) (h3 : hs ≤ 3) :
    ∀ (m c fuel : Nat), c + m = 2 ^ hs → m < fuel → f_X6_findSides_42 (nI hs) (nI n) P mh mc ml fuel (nI (rcS (fun S => cw A hs H C L S n) c)) (nI (onS (fun S => cw A hs H C L S n) (2 ^ hs - 1) c)) (nI (noS (fun S => cw A hs H C L S n) (2 ^ hs - 1) c)) (nI (if c = 0 then 0 else (lwS (fun S => cw A hs H C L S n) (c - 1)).1)) (c9 c (lwS (fun S => cw A hs H C L S n) (c - 1)).2) (nI c) =
      some (nI (rcS (fun S => cw A hs H C L S n) (2 ^ hs)), nI (onS (fun S => cw A hs H C L S n) (2 ^ hs - 1) (2 ^ hs)), nI (noS (fun S => cw A hs H C L S n) (2 ^ hs - 1) (2 ^ hs)), nI (lwS (fun S => cw A hs H C L S n) (2 ^ hs - 1)).1, nI (lwS (fun S => cw A hs H C L S n) (2 ^ hs - 1)).2) := by
  have p8 := p2_le3 h3
  have p0 := Nat.two_pow_pos hs
  have n6 := hN.1
  intro m
  induction m with
  | zero =>
    intro c fuel hc hf
    obtain ⟨k, rfl⟩ : ∃ k, fuel = k + 1 := ⟨fuel - 1, by omega⟩
    have e : c = 2 ^ hs := by omega
    subst e
    simp only [f_X6_findSides_42, f_X6_findSides_42_b, kl0, kl1, kl2, kl3, kl4, kl5, kl6, kl7, kl8, kl9, kl10, kl12, kl13, kl14, kl20, kl21, kl22, kl23, kl24, kl25, kl26, kl30, kl31, kl33, kl48, kl49, kl57, kl65, kl66, kl67, kl72, kl89, kl100, kl128, kl255]
    unfold c9
    rw [k_sh1 (by omega), if_pos (nI_le (Nat.le_refl _) (by omega)), if_neg (by omega), if_neg (by omega)]
  | succ m ih =>
    intro c fuel hc hf
    obtain ⟨k, rfl⟩ : ∃ k, fuel = k + 1 := ⟨fuel - 1, by omega⟩
    have ih := ih (c + 1) k (by omega) (by omega)
    have hcl := cw_le A hs H C L c n
    have hb := lwS_b (w := fun S => cw A hs H C L S n) (m := n) (fun s => cw_le A hs H C L s n) (c - 1)
    rw [rcS_s, onS_s, noS_s, if_neg (show ¬ c + 1 = 0 by omega), show c + 1 - 1 = c by omega] at ih
    have e9 : ∀ v, c9 (c + 1) v = nI v := fun v => by unfold c9; rw [if_neg (by omega)]
    rw [e9] at ih
    simp only [f_X6_findSides_42, f_X6_findSides_42_b, f_X6_findSides_94, f_X6_findSides_120, f_X6_findSides_149, kl0, kl1, kl2, kl3, kl4, kl5, kl6, kl7, kl8, kl9, kl10, kl12, kl13, kl14, kl20, kl21, kl22, kl23, kl24, kl25, kl26, kl30, kl31, kl33, kl48, kl49, kl57, kl65, kl66, kl67, kl72, kl89, kl100, kl128, kl255]
    rw [k_sh1 (by omega), if_neg (nI_ge (by omega) (by omega)), wrong_r hN hB hP h3 (by omega), kb1_some, k_s1, k_s1, k_and, k_adn]
    simp only [c9_9 (show (lwS (fun S => cw A hs H C L S n) (c - 1)).2 < 8 by omega)]
    rcases Nat.eq_zero_or_pos c with h0 | h0
    · subst h0
      simp only [if_true]
      have el : lwS (fun S => cw A hs H C L S n) 0 = (0, cw A hs H C L 0 n) := rfl
      rw [el] at ih
      by_cases q : cw A hs H C L 0 n = 0
      · rw [if_pos q, if_pos q, if_pos q] at ih
        rw [if_pos (congrArg nI q)]
        exact ih
      · rw [if_neg q, if_neg q, if_neg q] at ih
        rw [if_neg (fun z => q ((nI_eq (by omega) (by omega)).1 z))]
        exact ih
    · obtain ⟨t, rfl⟩ : ∃ t, c = t + 1 := ⟨c - 1, by omega⟩
      have ez : ((t + 1 : Nat) = 0) = False := propext ⟨fun h => by omega, False.elim⟩
      simp only [ez, if_false]
      rw [lwS_s] at ih
      unfold c9
      simp only [ez, if_false]
      rw [show t + 1 - 1 = t by omega] at hb ⊢
      have hw : (nI (lwS (fun S => cw A hs H C L S n) t).2 ≤ nI (cw A hs H C L (t + 1) n)) = ((lwS (fun S => cw A hs H C L S n) t).2 ≤ cw A hs H C L (t + 1) n) := propext (nI_leI (by omega) (by omega))
      simp only [hw]
      by_cases v : (lwS (fun S => cw A hs H C L S n) t).2 ≤ cw A hs H C L (t + 1) n
      · rw [if_pos v] at ih
        simp only [v, if_true]
        by_cases q : cw A hs H C L (t + 1) n = 0
        · rw [if_pos q, if_pos q, if_pos q] at ih
          rw [if_pos (congrArg nI q)]
          exact ih
        · rw [if_neg q, if_neg q, if_neg q] at ih
          rw [if_neg (fun z => q ((nI_eq (by omega) (by omega)).1 z))]
          exact ih
      · rw [if_neg v] at ih
        simp only [v, if_false]
        by_cases q : cw A hs H C L (t + 1) n = 0
        · rw [if_pos q, if_pos q, if_pos q] at ih
          rw [if_pos (congrArg nI q)]
          exact ih
        · rw [if_neg q, if_neg q, if_neg q] at ih
          rw [if_neg (fun z => q ((nI_eq (by omega) (by omega)).1 z))]
          exact ih
theorem cmd_sides {hs T na : Nat} {wo : Nat → Nat} {ho ch li si ih ye : Int32} {wr bi hm ki we wt wh bf P bk : Nat → Int32} (hS : ST hs T wo na ho ch li si ih ye wr bi hm ki we wt wh bf P bk) {n : Nat} {sh sc sl mh mc ml : Nat → Int32} (hN : SNE n sh sc sl mh mc ml) (th s1 s2 s3 s4 s5 x : Int32) :
    ∃ r th' s1' s2' s3' s4' s5', f_X5_sides ho ch bi hm ki (nI n) sh sc sl x = some r ∧ f_X6_sides (nI hs) (nI n) P mh mc ml th s1 s2 s3 s4 s5 x = some (r, th', s1', s2', s3', s4', s5') := by
  obtain ⟨H, C, L, hN⟩ := hN
  obtain ⟨A, hV, hTR, hP, hA⟩ := hS
  have h7 := hV.2.2.1
  have h3 := hV.1
  have p8 := p2_le3 h3
  have p0 := Nat.two_pow_pos hs
  have n6 := hN.1
  obtain ⟨rfl, rfl, -, -, -, -, -, q8, q9⟩ := hTR
  have e1 : nI (2 ^ hs) - nI 1 = nI (2 ^ hs - 1) := by
    obtain ⟨d, hd⟩ : ∃ d, 2 ^ hs = d + 1 := ⟨2 ^ hs - 1, by omega⟩
    rw [hd, k_p1]; rfl
  have hr := right_cl (sh := sh) (sc := sc) (sl := sl) hN hV.bd q8 h3 (2 ^ hs) 0 1000 (by omega) (by omega)
  have ho := on_cl (sh := sh) (sc := sc) (sl := sl) hN hV.bd q8 h3 (2 ^ hs) 0 1000 (by omega) (by omega)
  have hn := no_cl (sh := sh) (sc := sc) (sl := sl) hN hV.bd q8 h3 (2 ^ hs) 0 1000 (by omega) (by omega)
  have hl := least_cl (sh := sh) (sc := sc) (sl := sl) hN hV.bd q8 h3 (2 ^ hs - 1) 0 1000 (by omega) (by omega)
  have hf := find_rl hN hV.bd hP h3 (2 ^ hs) 0 1000 (by omega) (by omega)
  have hb := lwS_b (w := fun S => cw A hs H C L S n) (m := n) (fun s => cw_le A hs H C L s n) (2 ^ hs - 1)
  have hrc := rcS_le (fun S => cw A hs H C L S n) (2 ^ hs)
  have ewl : cw A hs H C L (lwS (fun S => cw A hs H C L S n) (2 ^ hs - 1)).1 n = (lwS (fun S => cw A hs H C L S n) (2 ^ hs - 1)).2 := by
    generalize 2 ^ hs - 1 = k
    induction k with
    | zero => rfl
    | succ k ihk =>
      rw [lwS_s]
      split
      · exact ihk
      · rfl
  have z0 : ∀ v, c9 0 v = -nI 9 := fun v => rfl
  have z1 : rcS (fun S => cw A hs H C L S n) 0 = 0 := rfl
  rw [z1] at hr ho hn hf
  rw [z0] at ho hn hf
  have ez : (if (0 : Nat) = 0 then 0 else (lwS (fun S => cw A hs H C L S n) (0 - 1)).1) = 0 := rfl
  rw [ez] at hf
  have eo : onS (fun S => cw A hs H C L S n) (2 ^ hs - 1) 0 = 2 ^ hs - 1 := rfl
  have en : noS (fun S => cw A hs H C L S n) (2 ^ hs - 1) 0 = 2 ^ hs - 1 := rfl
  rw [eo, en] at hf
  have el : lwS (fun S => cw A hs H C L S n) 0 = (0, cw A hs H C L 0 n) := rfl
  rw [el] at hl
  unfold f_X5_sides f_X6_sides f_X2_countRight f_X2_alwaysOn f_X2_leastWrong f_X6_findSides
  rw [in_k x (n := 5) (u := 4) (by decide)]
  simp only [kl0, kl1, kl2, kl3, kl4, kl5, kl6, kl7, kl8, kl9, kl10, kl12, kl13, kl14, kl20, kl21, kl22, kl23, kl24, kl25, kl26, kl30, kl31, kl33, kl48, kl49, kl57, kl65, kl66, kl67, kl72, kl89, kl100, kl128, kl255]
  rw [k_sh1 (by omega), e1, kb1_some, ki0, hf, kb1_some, hr, kb1_some, ho, kb1_some, hn, kb1_some, wrong_c hN hV.bd q8 h3 (by omega), kb1_some, hl, kb1_some, kb1_some, wrong_c hN hV.bd q8 h3 (by omega), kb1_some, ewl]
  generalize rcS (fun S => cw A hs H C L S n) (2 ^ hs) = r at *
  rcases inr_cases x (n := 5) (by omega) with h | ⟨c, hc, rfl⟩
  · rw [h]
    have hx : ∀ k, k < 5 → ¬ x = nI k := fun k hk q => by rw [q, inr_y hk (by omega)] at h; exact absurd h (by decide)
    rw [if_neg (hx 0 (by omega)), if_neg (hx 1 (by omega)), if_neg (hx 2 (by omega)), if_neg (hx 3 (by omega)), if_neg (hx 4 (by omega))]
    exact ⟨_, _, _, _, _, _, _, rfl, rfl⟩
  · rw [inr_y hc (by omega), if_pos rfl]
    have : c = 0 ∨ c = 1 ∨ c = 2 ∨ c = 3 ∨ c = 4 := by omega
    rcases this with rfl | rfl | rfl | rfl | rfl
    · exact ⟨_, _, _, _, _, _, _, rfl, rfl⟩
    · rw [if_neg (show ¬ nI 1 = nI 0 by decide), if_pos rfl, if_neg (show ¬ nI 1 = nI 0 by decide), if_pos (show nI 1 ≤ nI 2 by decide)]
      unfold c9
      by_cases q : r = 0
      · rw [if_pos q, if_pos (congrArg nI q)]; exact ⟨_, _, _, _, _, _, _, rfl, rfl⟩
      · rw [if_neg q, if_neg (fun z => q ((nI_eq (by omega) (by omega)).1 z)), if_pos rfl]; exact ⟨_, _, _, _, _, _, _, rfl, rfl⟩
    · rw [if_neg (show ¬ nI 2 = nI 0 by decide), if_neg (show ¬ nI 2 = nI 1 by decide), if_pos rfl, if_neg (show ¬ nI 2 = nI 0 by decide), if_pos (show nI 2 ≤ nI 2 by decide), if_neg (show ¬ nI 2 = nI 1 by decide)]
      unfold c9
      by_cases q : r = 0
      · rw [if_pos q, if_pos (congrArg nI q)]; exact ⟨_, _, _, _, _, _, _, rfl, rfl⟩
      · rw [if_neg q, if_neg (fun z => q ((nI_eq (by omega) (by omega)).1 z))]; exact ⟨_, _, _, _, _, _, _, rfl, rfl⟩
    · exact ⟨_, _, _, _, _, _, _, rfl, rfl⟩
    · exact ⟨_, _, _, _, _, _, _, rfl, rfl⟩
