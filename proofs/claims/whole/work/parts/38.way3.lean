/-! MATH 18: way: both choose alike -/
theorem sub_eq {s R : Nat} (h : adn s R = 0) : s &&& R = s := tb_ext (fun i => by
  rw [Nat.testBit_and]
  have := adn_0.1 h i
  cases e : s.testBit i with
  | false => rfl
  | true => rw [this e]; rfl)
theorem sub_le {s R : Nat} (h : adn s R = 0) : s ≤ R := by rw [← sub_eq h]; exact Nat.and_le_right
theorem brd_tb (A : Nat → Nat) (c i : Nat) : (brd A c).testBit i = (decide (i < A 25) && ((A 21).testBit i && A (7 + i) == A (7 + c))) := by unfold brd; rw [bsm_tb]
theorem way_eq {A : Nat → Nat} {hs T c g : Nat} (hV : VA hs T A) (hc : c < A 25) (hb : (A 21).testBit c = true) (hg : A (7 + c) = g) :
    bst (okX A c g (adn (A 21) (2 ^ c))) (adn (A 21) (2 ^ c) + 1) = some (cbs (adn (brd A c) (2 ^ c)) (okX A c g (adn (brd A c) (2 ^ c))) 128) := by
  have h7 := hV.2.2.1
  have hl := hV.lt
  have hX : adn (A 21) (2 ^ c) < 2 ^ 7 := adn_lt (show A 21 < 2 ^ 7 by omega)
  have hbr : brd A c < 2 ^ 7 := Nat.lt_of_lt_of_le (bsm_lt _ _) (p2_le h7)
  have hR : adn (brd A c) (2 ^ c) < 2 ^ 7 := adn_lt hbr
  have hXb : ∀ i, (adn (A 21) (2 ^ c)).testBit i = ((A 21).testBit i && !decide (c = i)) := fun i => by rw [adn_tb, Nat.testBit_two_pow]
  have hRb : ∀ i, (adn (brd A c) (2 ^ c)).testBit i = ((decide (i < A 25) && ((A 21).testBit i && A (7 + i) == A (7 + c))) && !decide (c = i)) := fun i => by rw [adn_tb, Nat.testBit_two_pow, brd_tb]
  generalize adn (A 21) (2 ^ c) = X at *
  generalize adn (brd A c) (2 ^ c) = R at *
  have F1 : ∀ i, R.testBit i = true → X.testBit i = true := fun i h => by
    rw [hRb, Bool.and_eq_true, Bool.and_eq_true, Bool.and_eq_true] at h
    rw [hXb, h.1.2.1, h.2]; rfl
  have F2 : ∀ s, adn s X = 0 → good A c g s = good A c g (s &&& R) := fun s h => by
    unfold good hrA
    rw [hrS_congr (al2 := adn (A 21) (s &&& R)) (fun i hi hm => ?_)]
    rw [adn_tb, adn_tb, Nat.testBit_and]
    by_cases q : s.testBit i = true
    · have hx := adn_0.1 h i q
      rw [hXb, Bool.and_eq_true] at hx
      rw [q, hRb, hx.1, hx.2, decide_eq_true hi, show (A (7 + i) == A (7 + c)) = true by rw [hg]; exact beq_iff_eq.2 hm]; rfl
    · rw [(Bool.not_eq_true _).mp q]; rfl
  have F3 : good A c g R = true := by
    unfold good hrA
    refine decide_eq_true (hrS_one (hV.2.2.2.2.2.2.2 c hc).2.2.2 hc hg (fun i hi hm => ?_))
    rw [adn_tb, hRb, decide_eq_true hi, show (A (7 + i) == A (7 + c)) = true by rw [hg]; exact beq_iff_eq.2 hm]
    by_cases e : c = i
    · subst e; rw [hb, decide_eq_true rfl]; rfl
    · rw [decide_eq_false e, decide_eq_false (fun z => e z.symm)]; cases (A 21).testBit i <;> rfl
  have okR : okX A c g R R = true := by
    unfold okX
    rw [F3, decide_eq_true (adn_0.2 (fun i h => h))]; rfl
  have hsub : ∀ s, okX A c g R s = true → adn s R = 0 ∧ good A c g s = true := fun s h => by
    unfold okX at h
    rw [Bool.and_eq_true, decide_eq_true_iff] at h
    exact h
  have hsubX : ∀ s, okX A c g X s = true → adn s X = 0 ∧ good A c g s = true := fun s h => by
    unfold okX at h
    rw [Bool.and_eq_true, decide_eq_true_iff] at h
    exact h
  have hcb := cbs_ok okR (fun s h e => by
    have := hsub s h
    have hle := sub_le this.1
    exact pcn_sub s (by omega) R hR this.1 e) 128
  obtain ⟨a1, -, a3⟩ := hcb
  generalize cbs R (okX A c g R) 128 = a at *
  obtain ⟨a4, a5⟩ := hsub a a1
  have a6 : adn a X = 0 := adn_0.2 (fun i h => F1 i (adn_0.1 a4 i h))
  have a7 := sub_le a6
  have okXa : okX A c g X a = true := by unfold okX; rw [a5, decide_eq_true a6]; rfl
  obtain ⟨b1, b2⟩ := bst_ok (okX A c g X) (X + 1)
  cases e : bst (okX A c g X) (X + 1) with
  | none => have := b2 e a (by omega); rw [okXa] at this; exact absurd this (by decide)
  | some b =>
    obtain ⟨c1, c2, c3⟩ := b1 b e
    obtain ⟨c4, c5⟩ := hsubX b c2
    have d1 : adn (b &&& R) X = 0 := adn_0.2 (fun i h => by
      rw [Nat.testBit_and, Bool.and_eq_true] at h
      exact adn_0.1 c4 i h.1)
    have d2 : okX A c g X (b &&& R) = true := by unfold okX; rw [← F2 b c4, c5, decide_eq_true d1]; rfl
    have d3 : b &&& R ≤ b := Nat.and_le_left
    have d4 := c3 (b &&& R) (by omega) d2
    have d5 : b &&& R = b := by
      by_cases z : b &&& R = b
      · exact z
      · have := pcn_sub (b &&& R) (by omega) b (by omega) (adn_0.2 (fun i h => by rw [Nat.testBit_and, Bool.and_eq_true] at h; exact h.1)) z
        unfold lss at d4
        omega
    have d6 : adn b R = 0 := adn_0.2 (fun i h => by rw [← d5, Nat.testBit_and, Bool.and_eq_true] at h; exact h.2)
    have d7 : okX A c g R b = true := by unfold okX; rw [c5, decide_eq_true d6]; rfl
    have e1 := a3 b (by omega) d7
    have e2 := c3 a (by omega) okXa
    unfold lss at e1 e2
    have : b = a := by omega
    rw [this]
theorem way_out {A : Nat → Nat} {c g X : Nat} (hg : A (7 + c) ≠ g) : ∀ n, bst (okX A c g X) n = none := fun n => by
  cases e : bst (okX A c g X) n with
  | none => rfl
  | some b =>
    have h := ((bst_ok (okX A c g X) n).1 b e).2.1
    unfold okX good hrA at h
    rw [Bool.and_eq_true, decide_eq_true_iff, decide_eq_true_iff] at h
    have := hrS_in (i := c) (by rw [h.2, Nat.testBit_two_pow]; exact decide_eq_true rfl)
    exact absurd this.2.2 hg
theorem cmd_way {hs T na : Nat} {wo : Nat → Nat} {ho ch li si ih ye : Int32} {wr bi hm ki we wt wh bf P bk : Nat → Int32} (hS : ST hs T wo na ho ch li si ih ye wr bi hm ki we wt wh bf P bk) (th x y : Int32) :
    ∃ r th', f_X5_way ho ch li si bi hm ki x y = some r ∧ f_X6_way (nI hs) P th x y = some (r, th') := by
  obtain ⟨A, hV, hTR, hP, hA⟩ := hS
  have h7 := hV.2.2.1
  have h3 := hV.1
  have hl := hV.lt
  obtain ⟨rfl, rfl, rfl, rfl, rfl, rfl, -, q8, q9⟩ := hTR
  unfold f_X5_way f_X6_way f_X4_fewestInTheWay
  rw [hasChild_x x (by omega), noChild_x hP x (by omega)]
  simp only [kl0, kl1, kl2, kl3, kl4, kl5, kl6, kl7, kl8, kl9, kl10, kl12, kl13, kl14, kl20, kl21, kl22, kl23, kl24, kl25, kl26, kl30, kl31, kl33, kl48, kl49, kl57, kl65, kl66, kl67, kl72, kl89, kl100, kl128, kl255]
  rw [kb1_some, kb1_some, ki0, ki0]
  rcases inr_cases x (n := A 25) (by omega) with h | ⟨c, hc, rfl⟩
  · rw [h]
    exact ⟨_, _, rfl, rfl⟩
  · rw [inr_y hc (by omega), if_pos rfl, if_neg (show ¬ ((!true) = true) by decide), hasHouse_x y (by omega), noHouse_x y (by omega), kb1_some, kb1_some, ki0, ki0]
    rcases inr_cases y (n := hs) (by omega) with h | ⟨g, hg, rfl⟩
    · rw [h]
      exact ⟨_, _, rfl, rfl⟩
    · rw [inr_y hg (by omega), if_pos rfl, if_neg (show ¬ ((!true) = true) by decide), isAlive_n h7 (by omega) hc, kb1_some, hP 21 (by omega), has_n (by omega) (by omega), kb1_some, ki0, ki0]
      by_cases b : (A 21).testBit c = true
      · have hX : adn (A 21) (2 ^ c) < 2 ^ 7 := adn_lt (show A 21 < 2 ^ 7 by omega)
        have hbr : brd A c < 2 ^ 7 := Nat.lt_of_lt_of_le (bsm_lt _ _) (p2_le h7)
        have hR : adn (brd A c) (2 ^ c) < 2 ^ 7 := adn_lt hbr
        have hd := (hV.2.2.2.2.2.2.2 c hc).2.1
        have hr := way_rl (th := nI 0) hV hP hc hg (X := adn (A 21) (2 ^ c)) (by omega) (adn (A 21) (2 ^ c) + 1) 0 1000 (by omega) (by omega)
        rw [show bst (okX A c g (adn (A 21) (2 ^ c))) 0 = none from rfl, o9_n] at hr
        rw [if_pos b, if_pos b, k_sh1 (by omega), k_adn, hr, get_n (by decide) (by omega), kb1_some, (q8 c hc).1]
        by_cases e : A (7 + c) = g
        · have hcl := way_cl hV q8 hc hg (R := adn (brd A c) (2 ^ c)) (by omega) 128 0 1000 (by omega) (by omega) (by show adn (brd A c) (2 ^ c) < 128; omega)
          rw [show cbs (adn (brd A c) (2 ^ c)) (okX A c g (adn (brd A c) (2 ^ c))) 0 = adn (brd A c) (2 ^ c) from rfl] at hcl
          rw [if_pos (congrArg nI e), broodOf_n hV.bd q8 (by omega) hc, kb1_some, bit_n (by omega), kb1_some, k_adn, hcl, kb1_some, way_eq hV hc b e, o9_m]
          exact ⟨_, _, rfl, rfl⟩
        · rw [if_neg (fun z => e ((nI_eq (by omega) (by omega)).1 z)), kb1_some, way_out e, o9_n]
          exact ⟨_, _, rfl, rfl⟩
      · rw [if_neg b, if_neg b]
        exact ⟨_, _, rfl, rfl⟩
