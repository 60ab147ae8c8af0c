/-! MATH 9: move, year, bear -/
theorem VA_mv {hs T : Nat} {A : Nat → Nat} (hV : VA hs T A) {c v : Nat} (hc : c < A 25) (hv : v < hs) : VA hs T (au A (7 + c) v) := by
  obtain ⟨h1, h2, h3, h4, h5, h6, h7, h8⟩ := hV
  have e25 : au A (7 + c) v 25 = A 25 := au_n A v (by omega)
  refine ⟨h1, h2, by rw [e25]; exact h3, by rw [e25, au_n A v (by omega)]; exact h4, by rw [au_n A v (by omega)]; exact h5, by rw [au_n A v (by omega)]; exact h6, by rw [au_n A v (by omega)]; exact h7, fun i hi => ?_⟩
  rw [e25] at hi
  have := h8 i hi
  rw [au_n A v (show i ≠ 7 + c by omega), au_n A v (show 14 + i ≠ 7 + c by omega), au_n A v (show 26 + i ≠ 7 + c by omega)]
  refine ⟨this.1, ?_, this.2.2⟩
  by_cases e : 7 + i = 7 + c
  · rw [e, au_s]; exact hv
  · rw [au_n A v e]; exact this.2.1
theorem TR_mv {hs : Nat} {wo A : Nat → Nat} {ho ch li si ih ye : Int32} {wr bi hm ki we : Nat → Int32} (h : TR hs wo A ho ch li si ih ye wr bi hm ki we) (h7 : A 25 ≤ 7) {c : Nat} (hc : c < A 25) (v : Nat) : TR hs wo (au A (7 + c) v) ho ch li si ih ye wr bi (upd hm c (nI v)) ki we := by
  obtain ⟨q1, q2, q3, q4, q5, q6, q7, q8, q9⟩ := h
  exact ⟨q1, by rw [au_n A v (by omega)]; exact q2, by rw [au_n A v (by omega)]; exact q3, by rw [au_n A v (by omega)]; exact q4, by rw [au_n A v (by omega)]; exact q5, by rw [au_n A v (by omega)]; exact q6, q7, CT_mv h7 (fun i hi => ⟨fun _ => (q8 i hi).1, (q8 i hi).2⟩) hc v, WE_mv q9 h7 v hc⟩
theorem au_au (A : Nat → Nat) (k v w : Nat) : au (au A k v) k w = au A k w := by
  funext j
  by_cases q : j = k
  · rw [q, au_s, au_s]
  · rw [au_n _ _ q, au_n _ _ q, au_n _ _ q]
theorem au_id (A : Nat → Nat) (k : Nat) : au A k (A k) = A := by
  funext j
  by_cases q : j = k
  · rw [q, au_s]
  · rw [au_n _ _ q]
theorem DL_move {hs T : Nat} {wo A : Nat → Nat} (hV : VA hs T A) {c v : Nat} (hc : c < A 25) : DL hs wo (nI 2) (nI c) (nI (A (7 + c))) A (au A (7 + c) v) := by
  intro ho ch li si ih ye wr bi hm ki we wt wh bf n hT hn e1 e2 e3
  have h7 := hV.2.2.1
  have e25 : au A (7 + c) v 25 = A 25 := au_n A v (by omega)
  have hT' := TR_mv hT (by rw [e25]; exact h7) (c := c) (by rw [e25]; exact hc) (A (7 + c))
  rw [au_au, au_id] at hT'
  rw [tlb hn, e1, e2, e3]
  rw [if_neg (show ¬ nI 2 = nI 0 by decide), if_neg (show ¬ nI 2 = nI 1 by decide), if_pos rfl, set_n (by decide) (by omega), kb1_some]
  exact ⟨_, _, _, _, _, _, _, rfl, hT'⟩
theorem cmd_move {hs T na : Nat} {wo : Nat → Nat} {ho ch li si ih ye : Int32} {wr bi hm ki we wt wh bf P bk : Nat → Int32} (hS : ST hs T wo na ho ch li si ih ye wr bi hm ki we wt wh bf P bk) (hT : T < 600) (th x y : Int32) :
    ∃ r hm' na' wt' wh' bf' th' P' bk', f_X5_move ho ch hm (nI na) wt wh bf x y = some (r, hm', nI na', wt', wh', bf') ∧ f_X6_move (nI hs) th (nI na) P bk x y = some (r, th', nI na', P', bk') ∧ ST hs (T + 1) wo na' ho ch li si ih ye wr bi hm' ki we wt' wh' bf' P' bk' := by
  have hS0 := hS.mono (Nat.le_succ T) (by omega)
  obtain ⟨A, hV, hTR, hP, hA⟩ := hS
  have h7 := hV.2.2.1
  have h3 := hV.1
  have hTR' := hTR
  obtain ⟨rfl, rfl, q3, q4, q5, q6, -, q8, -⟩ := hTR'
  unfold f_X5_move f_X6_move
  rw [hasChild_x x (by omega), noChild_x hP x (by omega)]
  simp only [kl0, kl1, kl2, kl3, kl4, kl5, kl6, kl7, kl8, kl9, kl10, kl12, kl13, kl14, kl20, kl21, kl22, kl23, kl24, kl25, kl26, kl30, kl31, kl33, kl48, kl49, kl57, kl65, kl66, kl67, kl72, kl89, kl100, kl128, kl255]
  rw [kb1_some, kb1_some, ki0, ki0]
  rcases inr_cases x (n := A 25) (by omega) with h | ⟨c, hc, rfl⟩
  · rw [h]
    exact ⟨_, _, na, _, _, _, _, P, bk, rfl, rfl, hS0⟩
  · rw [inr_y hc (by omega), if_pos rfl, if_neg (show ¬ ((!true) = true) by decide), hasHouse_x y (by omega), noHouse_x y (by omega), kb1_some, kb1_some, ki0, ki0]
    rcases inr_cases y (n := hs) (by omega) with h | ⟨g, hg, rfl⟩
    · rw [h]
      exact ⟨_, _, na, _, _, _, _, P, bk, rfl, rfl, hS0⟩
    · have hd := (hV.2.2.2.2.2.2.2 c hc).2.1
      rw [inr_y hg (by omega), if_pos rfl, if_neg (show ¬ ((!true) = true) by decide), get_n (by decide) (by omega), kb1_some, (q8 c hc).1, nI_add, kg_yes (kin_y (by omega) (by omega)), nI_clamp (by omega), hP (7 + c) (by omega)]
      by_cases b : A (7 + c) = g
      · rw [if_pos (congrArg nI b), if_pos (congrArg nI b)]
        exact ⟨_, _, na, _, _, _, _, P, bk, rfl, rfl, hS0⟩
      · have b' : ¬ nI (A (7 + c)) = nI g := fun q => b ((nI_eq (by omega) (by omega)).1 q)
        obtain ⟨na', wt', wh', bf', bk', s1, s2, s3⟩ := acts_step hA hV hP (DL_move (wo := wo) (v := g) hV hc)
        rw [if_neg b', if_neg b', set_n (by decide) (by omega), kb1_some, s1, kb1_some, s2, kb1_some, kg_yes (kin_y (by omega) (by omega))]
        exact ⟨_, _, na', _, _, _, _, _, _, rfl, rfl, _, (VA_mv hV hc hg).mono (by omega) (by omega), TR_mv hTR h7 hc g, hP.au _, s3.mono (by omega) (by omega)⟩
/-- a year on -/
def ayr (A : Nat → Nat) : Nat → Nat := fun k => if k < A 25 then A k + 1 else if k = 24 then A 24 + 1 else A k
theorem ayr_lo {A : Nat → Nat} {k : Nat} (h : k < A 25) : ayr A k = A k + 1 := if_pos h
theorem ayr_24 {A : Nat → Nat} (h : A 25 ≤ 7) : ayr A 24 = A 24 + 1 := by unfold ayr; rw [if_neg (by omega), if_pos rfl]
theorem ayr_n {A : Nat → Nat} {k : Nat} (h : A 25 ≤ k) (h2 : k ≠ 24) : ayr A k = A k := by unfold ayr; rw [if_neg (by omega), if_neg h2]
theorem VA_yr {hs T : Nat} {A : Nat → Nat} (hV : VA hs T A) (hT : T < 600) : VA hs (T + 1) (ayr A) := by
  obtain ⟨h1, h2, h3, h4, h5, h6, h7, h8⟩ := hV
  have e25 : ayr A 25 = A 25 := ayr_n (by omega) (by omega)
  refine ⟨h1, by omega, by rw [e25]; exact h3, by rw [e25, ayr_n (by omega) (by omega)]; exact h4, by rw [ayr_n (by omega) (by omega)]; exact h5, by rw [ayr_n (by omega) (by omega)]; exact h6, by rw [ayr_24 h3]; omega, fun i hi => ?_⟩
  rw [e25] at hi
  have := h8 i hi
  rw [ayr_lo hi, ayr_n (by omega) (by omega), ayr_n (by omega) (by omega), ayr_n (by omega) (by omega)]
  exact ⟨by omega, this.2.1, by omega, this.2.2.2⟩
theorem sub11 (a b : Nat) : nI (a + 1) - nI (b + 1) = nI a - nI b := by
  rw [← nI_add a 1, ← nI_add b 1]
  apply Int32.toBitVec_inj.mp
  rw [Int32.toBitVec_sub, Int32.toBitVec_add, Int32.toBitVec_add, Int32.toBitVec_sub]
  generalize (nI a).toBitVec = p
  generalize (nI b).toBitVec = q
  generalize (nI 1).toBitVec = r
  rw [BitVec.add_comm q r, BitVec.sub_eq_iff_eq_add, BitVec.add_comm r q, ← BitVec.add_assoc, BitVec.sub_add_cancel]
theorem TR_yr {hs : Nat} {wo A : Nat → Nat} {ho ch li si ih : Int32} {wr bi hm ki we : Nat → Int32} (h7 : A 25 ≤ 7) : TR hs wo A ho ch li si ih (nI (A 24)) wr bi hm ki we ↔ TR hs wo (ayr A) ho ch li si ih (nI (A 24 + 1)) wr bi hm ki we := by
  have e25 : ayr A 25 = A 25 := ayr_n (by omega) (by omega)
  have e24 := ayr_24 h7
  have e21 : ayr A 21 = A 21 := ayr_n (by omega) (by omega)
  have e22 : ayr A 22 = A 22 := ayr_n (by omega) (by omega)
  have e23 : ayr A 23 = A 23 := ayr_n (by omega) (by omega)
  have hCT : CT A bi hm ki ↔ CT (ayr A) bi hm ki := by
    refine forall_congr' (fun c => ?_)
    rw [e25]
    refine ⟨fun h hc => ?_, fun h hc => ?_⟩
    · rw [ayr_n (show A 25 ≤ 7 + c by omega) (by omega), ayr_n (show A 25 ≤ 26 + c by omega) (by omega), e24, ayr_lo hc, sub11]
      exact h hc
    · have := h hc
      rw [ayr_n (show A 25 ≤ 7 + c by omega) (by omega), ayr_n (show A 25 ≤ 26 + c by omega) (by omega), e24, ayr_lo hc, sub11] at this
      exact this
  have hWE : (∀ c, c < A 25 → we c = nI (A (14 + c))) ↔ (∀ c, c < ayr A 25 → we c = nI (ayr A (14 + c))) := by
    refine forall_congr' (fun c => ?_)
    rw [e25]
    refine forall_congr' (fun hc => ?_)
    rw [ayr_n (show A 25 ≤ 14 + c by omega) (by omega)]
  unfold TR
  rw [e21, e22, e23, e24, e25, hCT]
  rw [e25] at hWE
  rw [hWE]
  exact ⟨fun ⟨q1, q2, q3, q4, q5, _, q⟩ => ⟨q1, q2, q3, q4, q5, rfl, q⟩, fun ⟨q1, q2, q3, q4, q5, _, q⟩ => ⟨q1, q2, q3, q4, q5, rfl, q⟩⟩
theorem DL_year {hs T : Nat} {wo A : Nat → Nat} (hV : VA hs T A) (x y : Int32) : DL hs wo (nI 5) x y A (ayr A) := by
  intro ho ch li si ih ye wr bi hm ki we wt wh bf n hT hn e1 e2 e3
  have h7 := hV.2.2.1
  have e := hT.2.2.2.2.2.1
  rw [ayr_24 h7] at e
  subst e
  have hT' := (TR_yr h7).2 hT
  rw [tlb hn, e1]
  rw [if_neg (show ¬ nI 5 = nI 0 by decide), if_neg (show ¬ nI 5 = nI 1 by decide), if_neg (show ¬ nI 5 = nI 2 by decide), if_neg (show ¬ nI 5 = nI 3 by decide), if_neg (show ¬ nI 5 = nI 4 by decide), k_p1]
  exact ⟨_, _, _, _, _, _, _, rfl, hT'⟩
theorem goYear_l {A : Nat → Nat} (h7 : A 25 ≤ 7) : ∀ (m c fuel : Nat) (f : Nat → Int32), c + m = A 25 → m < fuel → (∀ k, k < 33 → f k = nI (if k < c then A k + 1 else A k)) → ∃ f', f_X6_goYear_2 fuel f (nI c) = some f' ∧ PG (ayr A) f' := by
  intro m
  induction m with
  | zero =>
    intro c fuel f hc hf h1
    obtain ⟨k, rfl⟩ : ∃ k, fuel = k + 1 := ⟨fuel - 1, by omega⟩
    have e : c = A 25 := by omega
    subst e
    simp only [f_X6_goYear_2, f_X6_goYear_2_b, kl0, kl1, kl2, kl3, kl4, kl5, kl6, kl7, kl8, kl9, kl10, kl12, kl13, kl14, kl20, kl21, kl22, kl23, kl24, kl25, kl26, kl30, kl31, kl33, kl48, kl49, kl57, kl65, kl66, kl67, kl72, kl89, kl100, kl128, kl255]
    rw [h1 25 (by omega), if_neg (show ¬ 25 < A 25 by omega), if_pos (nI_le (Nat.le_refl _) (by omega)), h1 24 (by omega), if_neg (show ¬ 24 < A 25 by omega), k_s1]
    refine ⟨_, rfl, fun k hk => ?_⟩
    by_cases e : k = 24
    · subst e; rw [upd_s, ayr_24 h7]
    · rw [upd_n e, h1 k hk]
      unfold ayr
      rw [if_neg e]
  | succ m ih =>
    intro c fuel f hc hf h1
    obtain ⟨k, rfl⟩ : ∃ k, fuel = k + 1 := ⟨fuel - 1, by omega⟩
    simp only [f_X6_goYear_2, f_X6_goYear_2_b, kl0, kl1, kl2, kl3, kl4, kl5, kl6, kl7, kl8, kl9, kl10, kl12, kl13, kl14, kl20, kl21, kl22, kl23, kl24, kl25, kl26, kl30, kl31, kl33, kl48, kl49, kl57, kl65, kl66, kl67, kl72, kl89, kl100, kl128, kl255]
    rw [h1 25 (by omega), if_neg (show ¬ 25 < c by omega), if_neg (nI_ge (by omega) (by omega)), nI_add, Nat.zero_add, kg_yes (kin_y (by omega) (by omega)), kg_yes (kin_y (by omega) (by omega)), nI_clamp (by omega), h1 c (by omega), if_neg (show ¬ c < c by omega), k_s1, k_s1]
    refine ih (c + 1) k _ (by omega) (by omega) (fun i hi => ?_)
    by_cases e : i = c
    · subst e; rw [upd_s, if_pos (by omega)]
    · rw [upd_n e, h1 i hi]
      by_cases q : i < c
      · rw [if_pos q, if_pos (by omega)]
      · rw [if_neg q, if_neg (by omega)]
theorem cmd_year {hs T na : Nat} {wo : Nat → Nat} {ho ch li si ih ye : Int32} {wr bi hm ki we wt wh bf P bk : Nat → Int32} (hS : ST hs T wo na ho ch li si ih ye wr bi hm ki we wt wh bf P bk) (hT : T < 600) (th : Int32) :
    ∃ r ye' na' wt' wh' bf' th' P' bk', f_X5_year ye (nI na) wt wh bf = some (r, ye', nI na', wt', wh', bf') ∧ f_X6_year th (nI na) P bk = some (r, th', nI na', P', bk') ∧ ST hs (T + 1) wo na' ho ch li si ih ye' wr bi hm ki we wt' wh' bf' P' bk' := by
  obtain ⟨A, hV, hTR, hP, hA⟩ := hS
  have h7 := hV.2.2.1
  have e := hTR.2.2.2.2.2.1
  subst e
  obtain ⟨na', wt', wh', bf', bk', s1, s2, s3⟩ := acts_step hA hV hP (DL_year (wo := wo) hV (nI 0) (nI 0))
  obtain ⟨f', g1, g2⟩ := goYear_l h7 (A 25) 0 1000 P (by omega) (by omega) (fun k hk => by rw [if_neg (by omega)]; exact hP k hk)
  unfold f_X5_year f_X6_year f_X6_goYear
  simp only [kl0, kl1, kl2, kl3, kl4, kl5, kl6, kl7, kl8, kl9, kl10, kl12, kl13, kl14, kl20, kl21, kl22, kl23, kl24, kl25, kl26, kl30, kl31, kl33, kl48, kl49, kl57, kl65, kl66, kl67, kl72, kl89, kl100, kl128, kl255]
  rw [s1, s2, kb1_some, kb1_some, g1, kb1_some, k_s1, g2 24 (by omega), ayr_24 h7]
  exact ⟨_, _, na', _, _, _, _, _, _, rfl, rfl, _, VA_yr hV hT, (TR_yr h7).1 hTR, g2, s3.mono (by omega) (by omega)⟩
