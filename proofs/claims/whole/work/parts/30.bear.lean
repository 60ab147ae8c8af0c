/-! MATH 10: bear -/
theorem in_k (x : Int32) {n : Nat} {u : Int64} (hu : u.toInt + 1 = n) : f_X6_in x.toInt64 0 u = some (nI (inr x n).toNat) := by
  rw [in_x, Int32.toInt_toInt64]
  unfold inr
  congr 3
  apply decide_eq_decide.mpr
  have : (0 : Int64).toInt = 0 := by decide
  omega
theorem rng {α : Type} (x : Int32) {n : Nat} (hn : n < 2 ^ 30) (a b : α) : (if x < nI 0 then a else (if x ≤ nI n then b else a)) = if inr x (n + 1) = true then b else a := by
  have e1 : (x < nI 0) = (x.toInt < 0) := k_neg x
  have e2 : (x ≤ nI n) = (x.toInt ≤ n) := propext (by rw [Int32.le_iff_toInt_le, nI_toInt (by omega)])
  simp only [e1, e2]
  by_cases h1 : x.toInt < 0
  · rw [if_pos h1, if_neg (by unfold inr; rw [decide_eq_true_iff]; omega)]
  · rw [if_neg h1]
    by_cases h2 : x.toInt ≤ n
    · rw [if_pos h2, if_pos (by unfold inr; rw [decide_eq_true_iff]; omega)]
    · rw [if_neg h2, if_neg (by unfold inr; rw [decide_eq_true_iff]; omega)]
def abr (A : Nat → Nat) (h k : Nat) : Nat → Nat := au (au (au (au (au (au A (0 + A 25) 0) (7 + A 25) h) (26 + A 25) k) (14 + A 25) 0) 21 (A 21 ||| 2 ^ A 25)) 25 (A 25 + 1)
theorem abr_n {A : Nat → Nat} {h k j : Nat} (h0 : j ≠ A 25) (h1 : j ≠ 7 + A 25) (h2 : j ≠ 26 + A 25) (h3 : j ≠ 14 + A 25) (h4 : j ≠ 21) (h5 : j ≠ 25) : abr A h k j = A j := by
  unfold abr
  rw [au_n _ _ h5, au_n _ _ h4, au_n _ _ h3, au_n _ _ h2, au_n _ _ h1, au_n _ _ (by omega)]
theorem abr_25 (A : Nat → Nat) (h k : Nat) : abr A h k 25 = A 25 + 1 := au_s _ _ _
theorem abr_21 (A : Nat → Nat) (h k : Nat) : abr A h k 21 = A 21 ||| 2 ^ A 25 := by unfold abr; rw [au_n _ _ (by omega), au_s]
theorem abr_14 (A : Nat → Nat) (h k : Nat) (hn : A 25 < 7) : abr A h k (14 + A 25) = 0 := by unfold abr; rw [au_n _ _ (by omega), au_n _ _ (by omega), au_s]
theorem abr_26 (A : Nat → Nat) (h k : Nat) (hn : A 25 < 7) : abr A h k (26 + A 25) = k := by unfold abr; rw [au_n _ _ (by omega), au_n _ _ (by omega), au_n _ _ (by omega), au_s]
theorem abr_7 (A : Nat → Nat) (h k : Nat) (hn : A 25 < 7) : abr A h k (7 + A 25) = h := by unfold abr; rw [au_n _ _ (by omega), au_n _ _ (by omega), au_n _ _ (by omega), au_n _ _ (by omega), au_s]
theorem abr_0 (A : Nat → Nat) (h k : Nat) (hn : A 25 < 7) : abr A h k (A 25) = 0 := by unfold abr; rw [au_n _ _ (by omega), au_n _ _ (by omega), au_n _ _ (by omega), au_n _ _ (by omega), au_n _ _ (by omega), show au A (0 + A 25) 0 (A 25) = au A (A 25) 0 (A 25) by rw [Nat.zero_add], au_s]
theorem VA_br {hs T : Nat} {A : Nat → Nat} (hV : VA hs T A) {h k : Nat} (hn : A 25 < 7) (hh : h < hs) (hk : k < 4) : VA hs T (abr A h k) := by
  obtain ⟨h1, h2, h3, h4, h5, h6, h7, h8⟩ := hV
  have e25 := abr_25 A h k
  refine ⟨h1, h2, by rw [e25]; omega, ?_, by rw [abr_n (by omega) (by omega) (by omega) (by omega) (by omega) (by omega)]; exact h5, by rw [abr_n (by omega) (by omega) (by omega) (by omega) (by omega) (by omega)]; exact h6, by rw [abr_n (by omega) (by omega) (by omega) (by omega) (by omega) (by omega)]; exact h7, fun i hi => ?_⟩
  · rw [e25, abr_21]
    exact Nat.or_lt_two_pow (Nat.lt_trans h4 (k_two (Nat.lt_succ_self _))) (k_two (Nat.lt_succ_self _))
  · rw [e25] at hi
    by_cases e : i = A 25
    · rw [e, abr_0 A h k hn, abr_7 A h k hn, abr_14 A h k hn, abr_26 A h k hn]
      exact ⟨by omega, hh, by omega, hk⟩
    · have := h8 i (by omega)
      rw [abr_n (by omega) (by omega) (by omega) (by omega) (by omega) (by omega), abr_n (by omega) (by omega) (by omega) (by omega) (by omega) (by omega), abr_n (by omega) (by omega) (by omega) (by omega) (by omega) (by omega), abr_n (by omega) (by omega) (by omega) (by omega) (by omega) (by omega)]
      exact this
theorem TR_br {hs : Nat} {wo A : Nat → Nat} {ho ch li si ih ye : Int32} {wr bi hm ki we : Nat → Int32} (hT : TR hs wo A ho ch li si ih ye wr bi hm ki we) (h k : Nat) (hn : A 25 < 7) :
    TR hs wo (abr A h k) ho (nI (A 25 + 1)) (nI (A 21 ||| 2 ^ A 25)) si ih ye wr (upd bi (A 25) (nI (A 24) - nI 0)) (upd hm (A 25) (nI h)) (upd ki (A 25) (nI k)) (upd we (A 25) (nI 0)) := by
  obtain ⟨q1, q2, q3, q4, q5, q6, q7, q8, q9⟩ := hT
  have e25 := abr_25 A h k
  have e24 : abr A h k 24 = A 24 := abr_n (by omega) (by omega) (by omega) (by omega) (by omega) (by omega)
  refine ⟨q1, by rw [e25], by rw [abr_21], ?_, ?_, ?_, q7, fun i hi => ?_, fun i hi => ?_⟩
  · rw [abr_n (by omega) (by omega) (by omega) (by omega) (by omega) (by omega)]; exact q4
  · rw [abr_n (by omega) (by omega) (by omega) (by omega) (by omega) (by omega)]; exact q5
  · rw [e24]; exact q6
  · rw [e25] at hi
    rw [e24]
    by_cases e : i = A 25
    · rw [e, upd_s, upd_s, upd_s, abr_0 A h k hn, abr_7 A h k hn, abr_26 A h k hn]
      exact ⟨rfl, rfl, rfl⟩
    · rw [upd_n e, upd_n e, upd_n e, abr_n (show 7 + i ≠ A 25 by omega) (by omega) (by omega) (by omega) (by omega) (by omega), abr_n (show 26 + i ≠ A 25 by omega) (by omega) (by omega) (by omega) (by omega) (by omega), abr_n (show i ≠ A 25 by omega) (by omega) (by omega) (by omega) (by omega) (by omega)]
      exact q8 i (by omega)
  · rw [e25] at hi
    by_cases e : i = A 25
    · rw [e, upd_s, abr_14 A h k hn]
    · rw [upd_n e, abr_n (show 14 + i ≠ A 25 by omega) (by omega) (by omega) (by omega) (by omega) (by omega)]
      exact q9 i (by omega)
theorem adn_or {a n : Nat} (h : a < 2 ^ n) : adn (a ||| 2 ^ n) (2 ^ n) = a := by
  refine tb_ext (fun i => ?_)
  rw [adn_tb, Nat.testBit_or, Nat.testBit_two_pow]
  by_cases e : n = i
  · subst e; rw [tb_big h (Nat.le_refl _), decide_eq_true rfl]; rfl
  · rw [decide_eq_false e]; simp
theorem DL_bear {hs T : Nat} {wo A : Nat → Nat} (hV : VA hs T A) {h k : Nat} (hn : A 25 < 7) (x y : Int32) : DL hs wo (nI 0) x y A (abr A h k) := by
  intro ho ch li si ih ye wr bi hm ki we wt wh bf n hT hn' e1 e2 e3
  obtain ⟨q1, q2, q3, q4, q5, q6, q7, q8, q9⟩ := hT
  have e25 := abr_25 A h k
  have e24 : abr A h k 24 = A 24 := abr_n (by omega) (by omega) (by omega) (by omega) (by omega) (by omega)
  rw [tlb hn', e1, if_pos rfl]
  unfold f_X4_dropLastChild
  simp only [kl0, kl1, kl2, kl3, kl4, kl5, kl6, kl7, kl8, kl9, kl10, kl12, kl13, kl14, kl20, kl21, kl22, kl23, kl24, kl25, kl26, kl30, kl31, kl33, kl48, kl49, kl57, kl65, kl66, kl67, kl72, kl89, kl100, kl128, kl255]
  rw [q2, e25, k_p1, bit_n (by omega), kb1_some, kb1_some, q3, abr_21, k_adn, adn_or hV.2.2.2.1]
  refine ⟨_, _, _, _, _, _, _, rfl, q1, rfl, rfl, ?_, ?_, ?_, q7, fun i hi => ?_, fun i hi => ?_⟩
  · rw [q4, abr_n (by omega) (by omega) (by omega) (by omega) (by omega) (by omega)]
  · rw [q5, abr_n (by omega) (by omega) (by omega) (by omega) (by omega) (by omega)]
  · rw [q6, e24]
  · have := q8 i (by omega)
    rw [e24, abr_n (show 7 + i ≠ A 25 by omega) (by omega) (by omega) (by omega) (by omega) (by omega), abr_n (show 26 + i ≠ A 25 by omega) (by omega) (by omega) (by omega) (by omega) (by omega), abr_n (show i ≠ A 25 by omega) (by omega) (by omega) (by omega) (by omega) (by omega)] at this
    exact this
  · have := q9 i (by omega)
    rw [abr_n (show 14 + i ≠ A 25 by omega) (by omega) (by omega) (by omega) (by omega) (by omega)] at this
    exact this
theorem cmd_bear {hs T na : Nat} {wo : Nat → Nat} {ho ch li si ih ye : Int32} {wr bi hm ki we wt wh bf P bk : Nat → Int32} (hS : ST hs T wo na ho ch li si ih ye wr bi hm ki we wt wh bf P bk) (hT : T < 600) (th x y : Int32) :
    ∃ r ch' li' bi' hm' ki' we' na' wt' wh' bf' th' P' bk', f_X5_bear ho ye ch li bi hm ki we (nI na) wt wh bf x y = some (r, ch', li', bi', hm', ki', we', nI na', wt', wh', bf') ∧ f_X6_bear (nI hs) th (nI na) P bk x y = some (r, th', nI na', P', bk') ∧ ST hs (T + 1) wo na' ho ch' li' si ih ye wr bi' hm' ki' we' wt' wh' bf' P' bk' := by
  have hS0 := hS.mono (Nat.le_succ T) (by omega)
  obtain ⟨A, hV, hTR, hP, hA⟩ := hS
  have h7 := hV.2.2.1
  have h3 := hV.1
  have hTR' := hTR
  obtain ⟨rfl, rfl, rfl, q4, q5, rfl, -⟩ := hTR'
  unfold f_X5_bear f_X6_bear
  rw [hasHouse_x x (by omega), noHouse_x x (by omega), in_k y (n := 4) (u := 3) (by decide)]
  simp only [kl0, kl1, kl2, kl3, kl4, kl5, kl6, kl7, kl8, kl9, kl10, kl12, kl13, kl14, kl20, kl21, kl22, kl23, kl24, kl25, kl26, kl30, kl31, kl33, kl48, kl49, kl57, kl65, kl66, kl67, kl72, kl89, kl100, kl128, kl255]
  rw [kb1_some, kb1_some, ki0, ki0, kb1_some, ki0, rng y (by omega)]
  rcases inr_cases x (n := hs) (by omega) with h | ⟨c, hc, rfl⟩
  · rw [h]
    exact ⟨_, _, _, _, _, _, _, na, _, _, _, _, P, bk, rfl, rfl, hS0⟩
  · rw [inr_y hc (by omega), if_pos rfl, if_neg (show ¬ ((!true) = true) by decide)]
    rcases inr_cases y (n := 4) (by omega) with h | ⟨g, hg, rfl⟩
    · rw [h]
      exact ⟨_, _, _, _, _, _, _, na, _, _, _, _, P, bk, rfl, rfl, hS0⟩
    · rw [inr_y hg (by omega), if_pos rfl, if_pos rfl, hP 25 (by omega)]
      by_cases b : A 25 = 7
      · rw [b, if_neg (nI_nlt (Nat.le_refl 7) (by omega)), if_pos rfl]
        refine ⟨_, _, _, _, _, _, _, na, _, _, _, _, P, bk, rfl, rfl, ?_⟩
        rw [b] at hS0
        exact hS0
      · have hn : A 25 < 7 := by omega
        obtain ⟨na', wt', wh', bf', bk', s1, s2, s3⟩ := acts_step hA hV hP (DL_bear (wo := wo) (h := c) (k := g) hV hn (nI (A 25)) (nI 0))
        have hP4 : PG (au (au (au (au A (0 + A 25) 0) (7 + A 25) c) (26 + A 25) g) (14 + A 25) 0) (upd (upd (upd (upd P (0 + A 25) (nI 0)) (7 + A 25) (nI c)) (26 + A 25) (nI g)) (14 + A 25) (nI 0)) := (((hP.au 0).au c).au g).au 0
        have e21 := hP4 21 (by omega)
        rw [au_n _ _ (by omega), au_n _ _ (by omega), au_n _ _ (by omega), au_n _ _ (by omega)] at e21
        have hP5 : PG (au (au (au (au (au A (0 + A 25) 0) (7 + A 25) c) (26 + A 25) g) (14 + A 25) 0) 21 (A 21 ||| 2 ^ A 25)) (upd (upd (upd (upd (upd P (0 + A 25) (nI 0)) (7 + A 25) (nI c)) (26 + A 25) (nI g)) (14 + A 25) (nI 0)) 21 (nI (A 21 ||| 2 ^ A 25))) := hP4.au _
        have e25 := hP5 25 (by omega)
        rw [au_n _ _ (by omega), au_n _ _ (by omega), au_n _ _ (by omega), au_n _ _ (by omega), au_n _ _ (by omega)] at e25
        have hP6 := hP5.au (k := 25) (A 25 + 1)
        rw [if_pos (nI_lt hn (by omega)), if_neg (fun q => b ((nI_eq (by omega) (by omega)).1 q)), s2, kb1_some, nI_add 0, nI_add 7, nI_add 26, nI_add 14, kg_yes (kin_y (by omega) (by omega)), kg_yes (kin_y (by omega) (by omega)), kg_yes (kin_y (by omega) (by omega)), kg_yes (kin_y (by omega) (by omega)), nI_clamp (show 0 + A 25 < 2 ^ 31 by omega), nI_clamp (show 7 + A 25 < 2 ^ 31 by omega), nI_clamp (show 26 + A 25 < 2 ^ 31 by omega), nI_clamp (show 14 + A 25 < 2 ^ 31 by omega), e21, k_sh1 (by omega), k_or, e25, k_s1]
        unfold f_X4_addChild
        rw [set_n (by decide) (by omega), kb1_some, set_n (by decide) (by omega), kb1_some, set_n (by decide) (by omega), kb1_some, set_n (by decide) (by omega), kb1_some, bit_n (by omega), kb1_some, kb1_some]
        dsimp only
        simp only [kl0, kl1, kl2, kl3, kl4, kl5, kl6, kl7, kl8, kl9, kl10, kl12, kl13, kl14, kl20, kl21, kl22, kl23, kl24, kl25, kl26, kl30, kl31, kl33, kl48, kl49, kl57, kl65, kl66, kl67, kl72, kl89, kl100, kl128, kl255]
        rw [s1, kb1_some, k_or, k_s1]
        exact ⟨_, _, _, _, _, _, _, na', _, _, _, _, _, _, rfl, rfl, _, (VA_br hV hn hc hg).mono (by omega) (by omega), TR_br hTR c g hn, hP6, s3.mono (by omega) (by omega)⟩
