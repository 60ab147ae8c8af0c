/-! MATH 8: the commands that act on the town -/
def ST (hs T : Nat) (wo : Nat → Nat) (na : Nat) (ho ch li si ih ye : Int32) (wr bi hm ki we wt wh bf P bk : Nat → Int32) : Prop :=
  ∃ A, VA hs T A ∧ TR hs wo A ho ch li si ih ye wr bi hm ki we ∧ PG A P ∧ AC hs T na wo A wt wh bf bk
theorem ST.mono {hs T S na : Nat} {wo : Nat → Nat} {ho ch li si ih ye : Int32} {wr bi hm ki we wt wh bf P bk : Nat → Int32} (h : ST hs T wo na ho ch li si ih ye wr bi hm ki we wt wh bf P bk) (hTS : T ≤ S) (hS : S ≤ 600) : ST hs S wo na ho ch li si ih ye wr bi hm ki we wt wh bf P bk := by
  obtain ⟨A, h1, h2, h3, h4⟩ := h
  exact ⟨A, h1.mono hTS hS, h2, h3, h4.mono hTS hS⟩
theorem and_bit {a c : Nat} (h : a.testBit c = true) : a &&& 2 ^ c = 2 ^ c := tb_ext (fun i => by
  rw [Nat.testBit_and, Nat.testBit_two_pow]
  by_cases e : c = i
  · subst e; rw [h]; rfl
  · rw [decide_eq_false e, Bool.and_false])
theorem adn_x {a c : Nat} (h : a.testBit c = true) : adn a (2 ^ c) = a ^^^ 2 ^ c := by unfold adn; rw [and_bit h]
theorem xx (a b : Nat) : a ^^^ b ^^^ b = a := by rw [Nat.xor_assoc, Nat.xor_self, Nat.xor_zero]
theorem tb_lt {a c n : Nat} (h : a < 2 ^ n) (hb : a.testBit c = true) : c < n := by
  by_cases q : c < n
  · exact q
  · rw [tb_big h (by omega)] at hb; exact absurd hb (by decide)
/-- the row's act, read -/
theorem tlb {wt wh bf wr hm we : Nat → Int32} {n : Nat} (hn : n < 14) (ch li si ih ye : Int32) : f_X0_takeLastBack wt wh bf wr (nI (n + 1)) ch li si ih ye hm we =
    if wt n = nI 0 then (kb1 (f_X4_dropLastChild ch li) (fun u6 => some (nI n, u6.1, u6.2, si, ih, ye, hm, we)))
    else if wt n = nI 1 then (kb1 (f_X4_flipLife li (wh n)) (fun u8 => some (nI n, ch, u8, si, ih, ye, hm, we)))
    else if wt n = nI 2 then (kb1 (f_X1_set 7 hm (wh n) (bf n)) (fun u10 => some (nI n, ch, li, si, ih, ye, u10, we)))
    else if wt n = nI 3 then (kb1 (f_X4_flipSide si (wh n)) (fun u12 => some (nI n, ch, li, u12, ih, ye, hm, we)))
    else if wt n = nI 4 then (kb1 (f_X4_takeBackFrom ch wr ih we (wh n) (bf n)) (fun u14 => some (nI n, ch, li, si, u14.1, ye, hm, u14.2)))
    else some (nI n, ch, li, si, ih, ye - nI 1, hm, we) := by
  unfold f_X0_takeLastBack
  rw [if_pos (show 0 < nI (n + 1) from nI_lt (a := 0) (by omega) (by omega))]
  simp only [kl0, kl1, kl2, kl3, kl4, kl5, kl6, kl7, kl8, kl9, kl10, kl12, kl13, kl14, kl20, kl21, kl22, kl23, kl24, kl25, kl26, kl30, kl31, kl33, kl48, kl49, kl57, kl65, kl66, kl67, kl72, kl89, kl100, kl128, kl255]
  rw [k_p1, get_n (by omega) hn, kb1_some, get_n (by omega) hn, kb1_some, get_n (by omega) hn, kb1_some]
theorem DL_die {hs T : Nat} {wo A : Nat → Nat} (hV : VA hs T A) {c : Nat} (hc : c < A 25) (hb : (A 21).testBit c = true) (y : Int32) : DL hs wo (nI 1) (nI c) y A (au A 21 (adn (A 21) (2 ^ c))) := by
  intro ho ch li si ih ye wr bi hm ki we wt wh bf n hT hn e1 e2 e3
  have h7 := hV.2.2.1
  obtain ⟨q1, q2, q3, q4, q5, q6, q7, q8, q9⟩ := hT
  rw [tlb hn, e1, e2]
  rw [if_neg (show ¬ nI 1 = nI 0 by decide), if_pos rfl]
  unfold f_X4_flipLife
  rw [bit_n (by omega), kb1_some, kb1_some, q3, au_s, k_xor, adn_x hb, xx]
  refine ⟨_, _, _, _, _, _, _, rfl, q1, ?_, rfl, ?_, ?_, ?_, q7, ?_, ?_⟩
  · rw [q2, au_n _ _ (by omega)]
  · rw [q4, au_n _ _ (by omega)]
  · rw [q5, au_n _ _ (by omega)]
  · rw [q6, au_n _ _ (by omega)]
  · intro i hi
    have := q8 i (by rw [au_n _ _ (by omega)]; exact hi)
    rw [au_n A _ (show 7 + i ≠ 21 by omega), au_n A _ (show 26 + i ≠ 21 by omega), au_n A _ (show 24 ≠ 21 by omega), au_n A _ (show i ≠ 21 by omega)] at this
    exact this
  · intro i hi
    have := q9 i (by rw [au_n _ _ (by omega)]; exact hi)
    rw [au_n A _ (show 14 + i ≠ 21 by omega)] at this
    exact this
theorem VA_21 {hs T : Nat} {A : Nat → Nat} (hV : VA hs T A) {v : Nat} (hv : v < 2 ^ A 25) : VA hs T (au A 21 v) := by
  obtain ⟨h1, h2, h3, h4, h5, h6, h7, h8⟩ := hV
  have e25 : au A 21 v 25 = A 25 := au_n A v (by omega)
  refine ⟨h1, h2, by rw [e25]; exact h3, by rw [e25, au_s]; exact hv, by rw [au_n A v (by omega)]; exact h5, by rw [au_n A v (by omega)]; exact h6, by rw [au_n A v (by omega)]; exact h7, fun c hc => ?_⟩
  rw [e25] at hc
  rw [au_n A v (show c ≠ 21 by omega), au_n A v (show 7 + c ≠ 21 by omega), au_n A v (show 14 + c ≠ 21 by omega), au_n A v (show 26 + c ≠ 21 by omega)]
  exact h8 c hc
theorem VA_22 {hs T : Nat} {A : Nat → Nat} (hV : VA hs T A) {v : Nat} (hv : v < 2 ^ hs) : VA hs T (au A 22 v) := by
  obtain ⟨h1, h2, h3, h4, h5, h6, h7, h8⟩ := hV
  have e25 : au A 22 v 25 = A 25 := au_n A v (by omega)
  refine ⟨h1, h2, by rw [e25]; exact h3, by rw [e25, au_n A v (by omega)]; exact h4, by rw [au_s]; exact hv, by rw [au_n A v (by omega)]; exact h6, by rw [au_n A v (by omega)]; exact h7, fun c hc => ?_⟩
  rw [e25] at hc
  rw [au_n A v (show c ≠ 22 by omega), au_n A v (show 7 + c ≠ 22 by omega), au_n A v (show 14 + c ≠ 22 by omega), au_n A v (show 26 + c ≠ 22 by omega)]
  exact h8 c hc
theorem TR_21 {hs : Nat} {wo A : Nat → Nat} {ho ch li si ih ye : Int32} {wr bi hm ki we : Nat → Int32} (h : TR hs wo A ho ch li si ih ye wr bi hm ki we) (h7 : A 25 ≤ 7) (v : Nat) : TR hs wo (au A 21 v) ho ch (nI v) si ih ye wr bi hm ki we := by
  obtain ⟨q1, q2, q3, q4, q5, q6, q7, q8, q9⟩ := h
  exact ⟨q1, by rw [au_n A v (by omega)]; exact q2, by rw [au_s], by rw [au_n A v (by omega)]; exact q4, by rw [au_n A v (by omega)]; exact q5, by rw [au_n A v (by omega)]; exact q6, q7, CT_au q8 h7 v (by omega), WE_au q9 h7 v (by omega)⟩
theorem TR_22 {hs : Nat} {wo A : Nat → Nat} {ho ch li si ih ye : Int32} {wr bi hm ki we : Nat → Int32} (h : TR hs wo A ho ch li si ih ye wr bi hm ki we) (h7 : A 25 ≤ 7) (v : Nat) : TR hs wo (au A 22 v) ho ch li (nI v) ih ye wr bi hm ki we := by
  obtain ⟨q1, q2, q3, q4, q5, q6, q7, q8, q9⟩ := h
  exact ⟨q1, by rw [au_n A v (by omega)]; exact q2, by rw [au_n A v (by omega)]; exact q3, by rw [au_s], by rw [au_n A v (by omega)]; exact q5, by rw [au_n A v (by omega)]; exact q6, q7, CT_au q8 h7 v (by omega), WE_au q9 h7 v (by omega)⟩
theorem cmd_die {hs T na : Nat} {wo : Nat → Nat} {ho ch li si ih ye : Int32} {wr bi hm ki we wt wh bf P bk : Nat → Int32} (hS : ST hs T wo na ho ch li si ih ye wr bi hm ki we wt wh bf P bk) (hT : T < 600) (th x : Int32) :
    ∃ r li' na' wt' wh' bf' th' P' bk', f_X5_die ch li (nI na) wt wh bf x = some (r, li', nI na', wt', wh', bf') ∧ f_X6_die th (nI na) P bk x = some (r, th', nI na', P', bk') ∧ ST hs (T + 1) wo na' ho ch li' si ih ye wr bi hm ki we wt' wh' bf' P' bk' := by
  have hS0 := hS.mono (Nat.le_succ T) (by omega)
  obtain ⟨A, hV, hTR, hP, hA⟩ := hS
  have h7 := hV.2.2.1
  have hl := hV.lt
  have hTR' := hTR
  obtain ⟨q1, rfl, rfl, q4, q5, q6, -⟩ := hTR'
  unfold f_X5_die f_X6_die
  rw [hasChild_x x (by omega), noChild_x hP x (by omega)]
  simp only [kl0, kl1, kl2, kl3, kl4, kl5, kl6, kl7, kl8, kl9, kl10, kl12, kl13, kl14, kl20, kl21, kl22, kl23, kl24, kl25, kl26, kl30, kl31, kl33, kl48, kl49, kl57, kl65, kl66, kl67, kl72, kl89, kl100, kl128, kl255]
  rw [kb1_some, kb1_some, ki0, ki0]
  rcases inr_cases x (n := A 25) (by omega) with h | ⟨c, hc, rfl⟩
  · rw [h]
    exact ⟨_, _, na, _, _, _, _, P, bk, rfl, rfl, hS0⟩
  · rw [inr_y hc (by omega), if_pos rfl, if_neg (show ¬ ((!true) = true) by decide), isAlive_n h7 (by omega) hc, kb1_some, hP 21 (by omega), has_n (by omega) (by omega), kb1_some, ki0, ki0]
    by_cases b : (A 21).testBit c = true
    · obtain ⟨na', wt', wh', bf', bk', s1, s2, s3⟩ := acts_step hA hV hP (DL_die (wo := wo) hV hc b (nI 0))
      have hlt : adn (A 21) (2 ^ c) < 2 ^ A 25 := adn_lt hV.2.2.2.1
      have hlt2 : adn (A 21) (2 ^ c) < 128 := Nat.lt_of_lt_of_le hlt (p2_le h7)
      have hP' : PG (au A 21 (adn (A 21) (2 ^ c))) (upd P 21 (nI (adn (A 21) (2 ^ c)))) := hP.au _
      rw [if_pos b, if_pos b, s2, kb1_some, k_sh1 (by omega), k_adn, hP' 21 (by omega), au_s, many_all _ hlt2, kb1_some]
      unfold f_X4_flipLife
      rw [bit_n (by omega), kb1_some, kb1_some, s1, kb1_some, k_xor, ← adn_x b, bc_all _ hlt2, kb1_some]
      exact ⟨_, _, na', _, _, _, _, _, _, rfl, rfl, _, (VA_21 hV hlt).mono (by omega) (by omega), TR_21 hTR h7 _, hP', s3.mono (by omega) (by omega)⟩
    · rw [if_neg b, if_neg b]
      exact ⟨_, _, na, _, _, _, _, P, bk, rfl, rfl, hS0⟩
theorem DL_roll {hs T : Nat} {wo A : Nat → Nat} (hV : VA hs T A) {h : Nat} (hh : h < hs) (y : Int32) : DL hs wo (nI 3) (nI h) y A (au A 22 (A 22 ^^^ 2 ^ h)) := by
  intro ho ch li si ih ye wr bi hm ki we wt wh bf n hT hn e1 e2 e3
  have h7 := hV.2.2.1
  have h3 := hV.1
  have hT' := TR_22 hT (by rw [au_n _ _ (by omega)]; exact h7) (A 22)
  have e : au (au A 22 (A 22 ^^^ 2 ^ h)) 22 (A 22) = A := by
    funext j
    by_cases q : j = 22
    · rw [q, au_s]
    · rw [au_n _ _ q, au_n _ _ q]
  rw [e] at hT'
  rw [tlb hn, e1, e2]
  rw [if_neg (show ¬ nI 3 = nI 0 by decide), if_neg (show ¬ nI 3 = nI 1 by decide), if_neg (show ¬ nI 3 = nI 2 by decide), if_pos rfl]
  unfold f_X4_flipSide
  obtain ⟨q1, q2, q3, q4, q5, q6, q7, q8, q9⟩ := hT
  rw [bit_n (by omega), kb1_some, kb1_some, q4, au_s, k_xor, xx]
  exact ⟨_, _, _, _, _, _, _, rfl, hT'⟩
theorem cmd_roll {hs T na : Nat} {wo : Nat → Nat} {ho ch li si ih ye : Int32} {wr bi hm ki we wt wh bf P bk : Nat → Int32} (hS : ST hs T wo na ho ch li si ih ye wr bi hm ki we wt wh bf P bk) (hT : T < 600) (th x : Int32) :
    ∃ r si' na' wt' wh' bf' th' P' bk', f_X5_roll ho si (nI na) wt wh bf x = some (r, si', nI na', wt', wh', bf') ∧ f_X6_roll (nI hs) th (nI na) P bk x = some (r, th', nI na', P', bk') ∧ ST hs (T + 1) wo na' ho ch li si' ih ye wr bi hm ki we wt' wh' bf' P' bk' := by
  have hS0 := hS.mono (Nat.le_succ T) (by omega)
  obtain ⟨A, hV, hTR, hP, hA⟩ := hS
  have h7 := hV.2.2.1
  have h3 := hV.1
  have hl := hV.lt
  have hTR' := hTR
  obtain ⟨rfl, q2, q3, rfl, q5, q6, -⟩ := hTR'
  unfold f_X5_roll f_X6_roll
  rw [hasHouse_x x (by omega), noHouse_x x (by omega)]
  simp only [kl0, kl1, kl2, kl3, kl4, kl5, kl6, kl7, kl8, kl9, kl10, kl12, kl13, kl14, kl20, kl21, kl22, kl23, kl24, kl25, kl26, kl30, kl31, kl33, kl48, kl49, kl57, kl65, kl66, kl67, kl72, kl89, kl100, kl128, kl255]
  rw [kb1_some, kb1_some, ki0, ki0]
  rcases inr_cases x (n := hs) (by omega) with h | ⟨c, hc, rfl⟩
  · rw [h]
    exact ⟨_, _, na, _, _, _, _, P, bk, rfl, rfl, hS0⟩
  · obtain ⟨na', wt', wh', bf', bk', s1, s2, s3⟩ := acts_step hA hV hP (DL_roll (wo := wo) hV hc (nI 0))
    have hlt : A 22 ^^^ 2 ^ c < 2 ^ hs := Nat.xor_lt_two_pow hV.2.2.2.2.1 (k_two hc)
    have hlt2 : A 22 ^^^ 2 ^ c < 8 := Nat.lt_of_lt_of_le hlt (p2_le3 h3)
    have hP' : PG (au A 22 (A 22 ^^^ 2 ^ c)) (upd P 22 (nI (A 22 ^^^ 2 ^ c))) := hP.au _
    rw [inr_y hc (by omega), if_pos rfl, if_neg (show ¬ ((!true) = true) by decide), s2, kb1_some, k_sh1 (by omega), hP 22 (by omega), k_xor, hP' 22 (by omega), au_s, k_shr (by omega) (by omega), k_and, k_bit]
    unfold f_X4_flipSide
    rw [bit_n (by omega), kb1_some, kb1_some, s1, kb1_some, k_xor, sideOf_n (by omega) (by omega), kb1_some]
    exact ⟨_, _, na', _, _, _, _, _, _, rfl, rfl, _, (VA_22 hV hlt).mono (by omega) (by omega), TR_22 hTR h7 _, hP', s3.mono (by omega) (by omega)⟩
