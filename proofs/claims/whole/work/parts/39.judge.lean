/-! MATH 19: judge: what is told, one thing -/
theorem k_sub {a b : Nat} (h : b ≤ a) : nI a - nI b = nI (a - b) := by
  obtain ⟨d, rfl⟩ : ∃ d, a = d + b := ⟨a - b, by omega⟩
  rw [← nI_add, Int32.add_sub_cancel, Nat.add_sub_cancel]
theorem k_div {a b : Nat} (ha : a < 2 ^ 31) (h0 : 0 < b) (hb : b < 2 ^ 31) : nI a / nI b = nI (a / b) := pk_div ha h0 hb
theorem k_mod {a b : Nat} (ha : a < 2 ^ 31) (h0 : 0 < b) (hb : b < 2 ^ 31) : nI a - nI a / nI b * nI b = nI (a % b) := by
  rw [k_div ha h0 hb, k_mul, k_sub (Nat.div_mul_le_self a b)]
  congr 1
  have := Nat.div_add_mod a b
  rw [Nat.mul_comm] at this
  omega
/-- one told thing: both do it, or both don't -/
theorem does_1 {hs T : Nat} {wo A : Nat → Nat} {wr bi hm ki we P tr : Nat → Int32} {mw : Nat → Int32} {ye : Int32} (hV : VA hs T A) (hT : TR hs wo A (nI hs) (nI (A 25)) (nI (A 21)) (nI (A 22)) (nI (A 23)) ye wr bi hm ki we) (hP : P 25 = nI (A 25)) (htr : PG A tr) {e : Nat} (he : e < 10) (hnc : f_X6_noChild P (nI e) = some (nI (!inr (nI e) (A 25)).toNat)) :
    ∃ ok li' tr', f_X4_doTold (nI hs) (nI (A 25)) wr bi hm ki (nI (A 21)) (nI (A 22)) (nI (A 23)) ye we (nI 1) (nI e) = some (nI (Bool.toNat ok), li', nI (A 22), nI (A 23), ye, we) ∧ f_X6_does (nI hs) mw P tr (nI (10 + e)) = some (nI (Bool.toNat ok), tr') ∧ (ok = true → ∃ A', VA hs T A' ∧ A' 25 = A 25 ∧ TR hs wo A' (nI hs) (nI (A 25)) li' (nI (A 22)) (nI (A 23)) ye wr bi hm ki we ∧ PG A' tr') := by
  have h7 := hV.2.2.1
  have h3 := hV.1
  have hl := hV.lt
  unfold f_X4_doTold f_X6_does f_X6_does_53 f_X6_does_75
  have n10 : (nI 1 = nI 0) = False := propext ⟨fun h => absurd h (by decide), False.elim⟩
  simp only [kl0, kl1, kl2, kl3, kl4, kl5, kl6, kl7, kl8, kl9, kl10, kl12, kl13, kl14, kl20, kl21, kl22, kl23, kl24, kl25, kl26, kl30, kl31, kl33, kl48, kl49, kl57, kl65, kl66, kl67, kl72, kl89, kl100, kl128, kl255, if_true, n10, if_false]
  rw [if_neg (fun z => by have := (nI_eq (by omega) (by omega)).1 z; omega), k_mod (by omega) (by omega) (by omega), k_div (by omega) (by omega) (by omega), show (10 + e) / 10 = 1 by omega, show (10 + e) % 10 = e by omega, if_pos rfl, hnc, kb1_some, ki0, inr_nI (by omega)]
  by_cases c : e < A 25
  · rw [decide_eq_true c, if_neg (show ¬ ((!true) = true) by decide), isAlive_n h7 (by omega) c, kb1_some, ki0, htr 21 (by omega), has_n (by omega) (by omega), kb1_some, ki0]
    by_cases b : (A 21).testBit e = true
    · have hlt : adn (A 21) (2 ^ e) < 2 ^ A 25 := adn_lt hV.2.2.2.1
      have hP' : PG (au A 21 (adn (A 21) (2 ^ e))) (upd tr 21 (nI (adn (A 21) (2 ^ e)))) := htr.au _
      rw [if_pos b, if_pos b, kg_yes (kin_y (by omega) (by omega)), kg_yes kbo_1, k_sh1 (by omega), k_adn, nI_clamp (by omega)]
      unfold f_X4_flipLife
      rw [bit_n (by omega), kb1_some, kb1_some, k_xor, ← adn_x b]
      exact ⟨true, _, _, rfl, rfl, fun _ => ⟨_, VA_21 hV hlt, au_n _ _ (by omega), TR_21 hT h7 _, hP'⟩⟩
    · rw [if_neg b, if_neg b, kg_yes (kin_y (by omega) (by omega)), kg_yes kbo_0]
      exact ⟨false, _, _, rfl, rfl, fun z => absurd z (by decide)⟩
  · rw [decide_eq_false c, if_pos (show (!false) = true from rfl), isAlive_out h7 (by rw [inr_nI (by omega)]; exact decide_eq_false c), kb1_some, if_pos rfl, kg_yes (kin_y (by omega) (by omega)), kg_yes kbo_0]
    exact ⟨false, _, _, rfl, rfl, fun z => absurd z (by decide)⟩
