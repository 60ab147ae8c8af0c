/-! MATH 18: way: both choose alike -/
theorem sub_eq {s R : Nat} (h : adn s R = 0) : s &&& R = s := tb_ext (fun i => by
  rw [Nat.testBit_and]
  have := adn_0.1 h i
  cases e : s.testBit i with
  | false => rfl
  | true => rw [this e]; rfl)
theorem sub_le {s R : Nat} (h : adn s R = 0) : s ≤ R := by rw [← sub_eq h]; exact Nat.and_le_right
theorem brd_tb (A : Nat → Nat) (c i : Nat) : (brd A c).testBit i = (decide (i < A 25) && ((A 21).testBit i && A (7 + i) == A (7 + c))) := by unfold brd; rw [bsm_tb]
theorem way_eq {A : Nat → Nat} {hs T c g : Nat} (hV : VA hs T A) (hc : c < A 25) (hb : (A 21).testBit c = true) (hg : A (7 + c) = g) :
    bst (okX A c g (adn (A 21) (2 ^ c))) (adn (A 21) (2 ^ c) + 1) = some (cbs (adn (brd A c) (2 ^ c)) (okX A c g (adn (brd A c) (2 ^ c))) 128) := by
  have h7 := hV.2.2.1
  have hl := hV.lt
  have hX : adn (A 21) (2 ^ c) < 2 ^ 7 := adn_lt (show A 21 < 2 ^ 7 by omega)
  have hbr : brd A c < 2 ^ 7 := Nat.lt_of_lt_of_le (bsm_lt _ _) (p2_le h7)
  have hR : adn (brd A c) (2 ^ c) < 2 ^ 7 := adn_lt hbr
  have hXb : ∀ i, (adn (A 21) (2 ^ c)).testBit i = ((A 21).testBit i && !decide (c = i)) := fun i => by rw [adn_tb, Nat.testBit_two_pow]
  have hRb : ∀ i, (adn (brd A c) (2 ^ c)).testBit i = ((decide (i < A 25) && ((A 21).testBit i && A (7 + i) == A (7 + c))) && !decide (c = i)) := fun i => by rw [adn_tb, Nat.testBit_two_pow, brd_tb]
  generalize adn (A 21) (2 ^ c) = X at *
  generalize adn (brd A c) (2 ^ c) = R at *
  have F1 : ∀ i, R.testBit i = true → X.testBit i = true := fun i h => by
    rw [hRb, Bool.and_eq_true, Bool.and_eq_true, Bool.and_eq_true] at h
    rw [hXb, h.1.2.1, h.2]; rfl
  have F2 : ∀ s, adn s X = 0 → good A c g s = good A c g (s &&& R) := fun s h => by
    unfold good hrA
    rw [hrS_congr (al2 := adn (A 21) (s &&& R)) (fun i hi hm => ?_)]
    rw [adn_tb, adn_tb, Nat.testBit_and]
    by_cases q : s.testBit i = true
    · have hx := adn_0.1 h i q
      rw [hXb, Bool.and_eq_true] at hx
      rw [q, hRb, hx.1, hx.2, decide_eq_true hi, show (A (7 + i) == A (7 + c)) = true by rw [hg]; exact beq_iff_eq.2 hm]; rfl
    · rw [(Bool.not_eq_true _).mp q]; rfl
  have F3 : good A c g R = true := by
    unfold good hrA
    refine decide_eq_true (hrS_one (hV.2.2.2.2.2.2.2 c hc).2.2.2 hc hg (fun i hi hm => ?_))
    rw [adn_tb, hRb, decide_eq_true hi, show (A (7 + i) == A (7 + c)) = true by rw [hg]; exact beq_iff_eq.2 hm]
    by_cases e : c = i
    · subst e; rw [hb, decide_eq_true rfl]; rfl
    · rw [decide_eq_false e, decide_eq_false (fun z => e z.symm)]; cases (A 21).testBit i <;> rfl
  have okR : okX A c g R R = true := by
    unfold okX
    rw [F3, decide_eq_true (adn_0.2 (fun i h => h))]; rfl
  have hsub : ∀ s, okX A c g R s = true → adn s R = 0 ∧ good A c g s = true := fun s h => by
    unfold okX at h
    rw [Bool.and_eq_true, decide_eq_true_iff] at h
    exact h
  have hsubX : ∀ s, okX A c g X s = true → adn s X = 0 ∧ good A c g s = true := fun s h => by
    unfold okX at h
    rw [Bool.and_eq_true, decide_eq_true_iff] at h
    exact h
  have hcb := cbs_ok okR (fun s h e => by
    have := hsub s h
    have hle := sub_le this.1
    exact pcn_sub s (by omega) R hR this.1 e) 128
  obtain ⟨a1, -, a3⟩ := hcb
  generalize cbs R (okX A c g R) 128 = a at *
  obtain ⟨a4, a5⟩ := hsub a a1
  have a6 : adn a X = 0 := adn_0.2 (fun i h => F1 i (adn_0.1 a4 i h))
  have a7 := sub_le a6
  have okXa : okX A c g X a = true := by unfold okX; rw [a5, decide_eq_true a6]; rfl
  obtain ⟨b1, b2⟩ := bst_ok (okX A c g X) (X + 1)
  cases e : bst (okX A c g X) (X + 1) with
  | none => have := b2 e a (by omega); rw [okXa] at this; exact absurd this (by decide)
  | some b =>
    obtain ⟨c1, c2, c3⟩ := b1 b e
    obtain ⟨c4, c5⟩ := hsubX b c2
    have d1 : adn (b &&& R) X = 0 := adn_0.2 (fun i h => by
      rw [Nat.testBit_and, Bool.and_eq_true] at h
      exact adn_0.1 c4 i h.1)
    have d2 : okX A c g X (b &&& R) = true := by unfold okX; rw [← F2 b c4, c5, decide_eq_true d1]; rfl
    have d3 : b &&& R ≤ b := Nat.and_le_left
    have d4 := c3 (b &&& R) (by omega) d2
    have d5 : b &&& R = b := by
      by_cases z : b &&& R = b
      · exact z
      · have := pcn_sub (b &&& R) (by omega) b (by omega) (adn_0.2 (fun i h => by rw [Nat.testBit_and, Bool.and_eq_true] at h; exact h.1)) z
        unfold lss at d4
        omega
    have d6 : adn b R = 0 := adn_0.2 (fun i h => by rw [← d5, Nat.testBit_and, Bool.and_eq_true] at h; exact h.2)
    have d7 : okX A c g R b = true := by unfold okX; rw [c5, decide_eq_true d6]; rfl
    have e1 := a3 b (by omega) d7
    have e2 := c3 a (by omega) okXa
    unfold lss at e1 e2
    have : b = a := by omega
    rw [this]
