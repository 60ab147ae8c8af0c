/-! MATH 12: write, wipe, about, child, heirs, keep, again -/
def TX (n : Nat) (tb mt : Nat → Int32) : Prop := n ≤ 48 ∧ ∀ i, i < n → tb i = mt i ∧ ∃ v, v < 256 ∧ mt i = nI v
theorem cmd_write {n : Nat} {tb mt : Nat → Int32} (h : TX n tb mt) (th x : Int32) : ∃ r n' tb' th' mt', f_X5_write (nI n) tb x = some (r, nI n', tb') ∧ f_X6_write th (nI n) mt x = some (r, th', nI n', mt') ∧ TX n' tb' mt' := by
  obtain ⟨h1, h2⟩ := h
  unfold f_X5_write f_X6_write
  rw [in_k x (n := 256) (u := 255) (by decide)]
  simp only [kl0, kl1, kl2, kl3, kl4, kl5, kl6, kl7, kl8, kl9, kl10, kl12, kl13, kl14, kl20, kl21, kl22, kl23, kl24, kl25, kl26, kl30, kl31, kl33, kl48, kl49, kl57, kl65, kl66, kl67, kl72, kl89, kl100, kl128, kl255]
  rw [kb1_some, ki0, rng x (by omega)]
  rcases inr_cases x (n := 256) (by omega) with h | ⟨c, hc, rfl⟩
  · rw [h]
    exact ⟨_, n, tb, _, mt, rfl, rfl, h1, h2⟩
  · rw [inr_y hc (by omega), if_pos rfl, if_pos rfl]
    by_cases e : n = 48
    · subst e
      rw [if_neg (nI_nlt (Nat.le_refl 48) (by omega)), if_pos rfl]
      exact ⟨_, 48, tb, _, mt, rfl, rfl, h1, h2⟩
    · rw [if_pos (nI_lt (by omega) (by omega)), if_neg (fun q => e ((nI_eq (by omega) (by omega)).1 q)), kg_yes (kin_y (by omega) (by omega)), nI_clamp (by omega), k_s1]
      unfold f_X3_append
      simp only [kl0, kl1, kl2, kl3, kl4, kl5, kl6, kl7, kl8, kl9, kl10, kl12, kl13, kl14, kl20, kl21, kl22, kl23, kl24, kl25, kl26, kl30, kl31, kl33, kl48, kl49, kl57, kl65, kl66, kl67, kl72, kl89, kl100, kl128, kl255]
      rw [set_n (by decide) (by omega), kb1_some, kb1_some, k_s1]
      refine ⟨_, n + 1, _, _, _, rfl, rfl, by omega, fun i hi => ?_⟩
      dsimp only
      by_cases q : i = n
      · rw [q, upd_s, upd_s]; exact ⟨rfl, c, hc, rfl⟩
      · rw [upd_n q, upd_n q]; exact h2 i (by omega)
theorem cmd_wipe {n : Nat} {tb mt : Nat → Int32} (th : Int32) : ∃ th', f_X5_wipe (nI n) = some (nI n, nI 0) ∧ f_X6_wipe th (nI n) = some (nI n, th', nI 0) ∧ TX 0 tb mt := by
  unfold f_X5_wipe f_X6_wipe
  rw [kl0]
  exact ⟨_, rfl, rfl, by omega, fun i hi => by omega⟩
theorem cmd_about {hs T na : Nat} {wo : Nat → Nat} {ho ch li si ih ye : Int32} {wr bi hm ki we wt wh bf P bk : Nat → Int32} (hS : ST hs T wo na ho ch li si ih ye wr bi hm ki we wt wh bf P bk) (tn an sn th x : Int32) :
    ∃ r th', f_X5_about tn ho ch li si ih ye an sn x = some r ∧ f_X6_about tn (nI hs) an sn P th x = some (r, th') := by
  obtain ⟨A, hV, hTR, hP, hA⟩ := hS
  obtain ⟨rfl, rfl, rfl, rfl, rfl, rfl, -, -, -⟩ := hTR
  unfold f_X5_about f_X6_about
  rw [hP 25 (by omega), hP 21 (by omega), hP 22 (by omega), hP 23 (by omega), hP 24 (by omega)]
  repeat' (first | exact ⟨_, _, rfl, rfl⟩ | (split))
theorem bi_age (a b : Nat) : nI a - (nI a - nI b) = nI b := by
  apply Int32.toBitVec_inj.mp
  rw [Int32.toBitVec_sub, Int32.toBitVec_sub]
  generalize (nI a).toBitVec = p
  generalize (nI b).toBitVec = q
  rw [BitVec.sub_eq_iff_eq_add, BitVec.add_comm, BitVec.sub_add_cancel]
theorem cmd_child {hs T na : Nat} {wo : Nat → Nat} {ho ch li si ih ye : Int32} {wr bi hm ki we wt wh bf P bk : Nat → Int32} (hS : ST hs T wo na ho ch li si ih ye wr bi hm ki we wt wh bf P bk) (th x y : Int32) :
    ∃ r th', f_X5_child ch li ye bi hm ki we x y = some r ∧ f_X6_child P th x y = some (r, th') := by
  obtain ⟨A, hV, hTR, hP, hA⟩ := hS
  have h7 := hV.2.2.1
  have hl := hV.lt
  obtain ⟨rfl, rfl, rfl, rfl, rfl, rfl, -, q8, q9⟩ := hTR
  unfold f_X5_child f_X6_child f_X4_ageOf
  rw [hasChild_x x (by omega), noChild_x hP x (by omega)]
  simp only [kl0, kl1, kl2, kl3, kl4, kl5, kl6, kl7, kl8, kl9, kl10, kl12, kl13, kl14, kl20, kl21, kl22, kl23, kl24, kl25, kl26, kl30, kl31, kl33, kl48, kl49, kl57, kl65, kl66, kl67, kl72, kl89, kl100, kl128, kl255]
  rw [kb1_some, kb1_some, ki0, ki0]
  rcases inr_cases x (n := A 25) (by omega) with h | ⟨c, hc, rfl⟩
  · rw [h]
    exact ⟨_, _, rfl, rfl⟩
  · have q := q8 c hc
    rw [inr_y hc (by omega), if_pos rfl, if_neg (show ¬ ((!true) = true) by decide), get_n (by decide) (by omega), kb1_some, kb1_some, get_n (by decide) (by omega), kb1_some, get_n (by decide) (by omega), kb1_some, get_n (by decide) (by omega), kb1_some, isAlive_n h7 (by omega) hc, kb1_some, ki0, nI_add 0, nI_add 7, nI_add 26, nI_add 14, kg_yes (kin_y (by omega) (by omega)), kg_yes (kin_y (by omega) (by omega)), kg_yes (kin_y (by omega) (by omega)), kg_yes (kin_y (by omega) (by omega)), nI_clamp (show 0 + c < 2 ^ 31 by omega), nI_clamp (show 7 + c < 2 ^ 31 by omega), nI_clamp (show 26 + c < 2 ^ 31 by omega), nI_clamp (show 14 + c < 2 ^ 31 by omega), hP (0 + c) (by omega), hP (7 + c) (by omega), hP (26 + c) (by omega), hP (14 + c) (by omega), hP 21 (by omega), k_shr (by omega) (by omega), k_and, k_bit, q.1, q.2.1, q.2.2, q9 c hc, bi_age, Nat.zero_add]
    by_cases y0 : y = nI 0
    · rw [if_pos y0, if_pos y0]; exact ⟨_, _, rfl, rfl⟩
    rw [if_neg y0, if_neg y0]
    by_cases y1 : y = nI 1
    · rw [if_pos y1, if_pos y1]; exact ⟨_, _, rfl, rfl⟩
    rw [if_neg y1, if_neg y1]
    by_cases y2 : y = nI 2
    · rw [if_pos y2, if_pos y2]; exact ⟨_, _, rfl, rfl⟩
    rw [if_neg y2, if_neg y2]
    by_cases y3 : y = nI 3
    · rw [if_pos y3, if_pos y3]; exact ⟨_, _, rfl, rfl⟩
    rw [if_neg y3, if_neg y3]
    by_cases y4 : y = nI 4
    · rw [if_pos y4, if_pos y4]
      cases (A 21).testBit c <;> exact ⟨_, _, rfl, rfl⟩
    rw [if_neg y4, if_neg y4]
    exact ⟨_, _, rfl, rfl⟩
theorem cmd_heirs {hs T na : Nat} {wo : Nat → Nat} {ho ch li si ih ye : Int32} {wr bi hm ki we wt wh bf P bk : Nat → Int32} (hS : ST hs T wo na ho ch li si ih ye wr bi hm ki we wt wh bf P bk) (th x y : Int32) :
    ∃ r th', f_X5_heirs ho ch li si bi hm ki x y = some r ∧ f_X6_heirs (nI hs) P th x y = some (r, th') := by
  obtain ⟨A, hV, hTR, hP, hA⟩ := hS
  have h7 := hV.2.2.1
  have h3 := hV.1
  have hl := hV.lt
  obtain ⟨rfl, rfl, rfl, rfl, rfl, rfl, -, q8, q9⟩ := hTR
  unfold f_X5_heirs f_X6_heirs f_X5_heirs_47
  rw [hasHouse_x x (by omega), noHouse_x x (by omega), in_k y (n := 3) (u := 2) (by decide)]
  simp only [kl0, kl1, kl2, kl3, kl4, kl5, kl6, kl7, kl8, kl9, kl10, kl12, kl13, kl14, kl20, kl21, kl22, kl23, kl24, kl25, kl26, kl30, kl31, kl33, kl48, kl49, kl57, kl65, kl66, kl67, kl72, kl89, kl100, kl128, kl255]
  rw [kb1_some, kb1_some, ki0, ki0, kb1_some, ki0, rng y (by omega)]
  rcases inr_cases x (n := hs) (by omega) with h | ⟨c, hc, rfl⟩
  · rw [h]
    exact ⟨_, _, rfl, rfl⟩
  · rw [inr_y hc (by omega), if_pos rfl, if_neg (show ¬ ((!true) = true) by decide)]
    rcases inr_cases y (n := 3) (by omega) with h | ⟨g, hg, rfl⟩
    · rw [h]
      exact ⟨_, _, rfl, rfl⟩
    · rw [inr_y hg (by omega), if_pos rfl, if_pos rfl]
      by_cases e : g = 2
      · subst e
        rw [if_pos rfl, if_pos rfl, sideOf_n (by omega) (by omega), kb1_some, heirs_c hV.bd q8 (by omega) (by omega) _, kb1_some, heirsNow_r hV.bd hP (by omega) (by omega) (by omega), kb1_some]
        exact ⟨_, _, rfl, rfl⟩
      · rw [if_neg (fun q => e ((nI_eq (by omega) (by omega)).1 q)), if_neg (fun q => e ((nI_eq (by omega) (by omega)).1 q)), hP 21 (by omega)]
        have : g = 0 ∨ g = 1 := by omega
        rcases this with rfl | rfl
        · have a := heirs_c hV.bd q8 (h := c) (al := A 21) (by omega) (by omega) false
          have b := heirs_r hV.bd hP (h := c) (al := A 21) (by omega) (by omega) false
          rw [show nI false.toNat = nI 0 from rfl] at a b
          rw [a, b]
          exact ⟨_, _, rfl, rfl⟩
        · have a := heirs_c hV.bd q8 (h := c) (al := A 21) (by omega) (by omega) true
          have b := heirs_r hV.bd hP (h := c) (al := A 21) (by omega) (by omega) true
          rw [show nI true.toNat = nI 1 from rfl] at a b
          rw [a, b]
          exact ⟨_, _, rfl, rfl⟩
theorem rng2 {α : Type} (x : Int32) {n : Nat} (hn : n < 2 ^ 30) (a b : α) : (if x < nI 0 then a else (if x < nI n then b else a)) = if inr x n = true then b else a := by
  have e1 : (x < nI 0) = (x.toInt < 0) := k_neg x
  have e2 : (x < nI n) = (x.toInt < n) := propext (by rw [Int32.lt_iff_toInt_lt, nI_toInt (by omega)])
  simp only [e1, e2]
  by_cases h1 : x.toInt < 0
  · rw [if_pos h1, if_neg (by unfold inr; rw [decide_eq_true_iff]; omega)]
  · rw [if_neg h1]
    by_cases h2 : x.toInt < n
    · rw [if_pos h2, if_pos (by unfold inr; rw [decide_eq_true_iff]; omega)]
    · rw [if_neg h2, if_neg (by unfold inr; rw [decide_eq_true_iff]; omega)]
/-- a slot of the class's and the reference's -/
def SK (hs T : Nat) (wo : Nat → Nat) (b : Bool) (s : Nat) (kept : Nat → Int32) (ho ch li si ih ye : Int32) (wr bi hm ki we : Nat → Int32) : Prop :=
  b = true → ∃ A, VA hs T A ∧ TR hs wo A ho ch li si ih ye wr bi hm ki we ∧ ∀ k, k < 33 → kept (33 * s + k) = nI (A k)
def SL (hs T : Nat) (wo : Nat → Nat) (ks : Int32) (a1 a2 a3 a4 a5 a6 : Int32) (p1 p2 p3 p4 p5 : Nat → Int32) (b1 b2 b3 b4 b5 b6 : Int32) (r1 r2 r3 r4 r5 kept isK : Nat → Int32) : Prop :=
  ∃ K : Nat, K < 4 ∧ ks = nI K ∧ isK 0 = nI (K.testBit 0).toNat ∧ isK 1 = nI (K.testBit 1).toNat ∧ SK hs T wo (K.testBit 0) 0 kept a1 a2 a3 a4 a5 a6 p1 p2 p3 p4 p5 ∧ SK hs T wo (K.testBit 1) 1 kept b1 b2 b3 b4 b5 b6 r1 r2 r3 r4 r5
theorem SK.mono {hs T S : Nat} {wo : Nat → Nat} {b : Bool} {s : Nat} {kept : Nat → Int32} {ho ch li si ih ye : Int32} {wr bi hm ki we : Nat → Int32} (h : SK hs T wo b s kept ho ch li si ih ye wr bi hm ki we) (hTS : T ≤ S) (hS : S ≤ 600) : SK hs S wo b s kept ho ch li si ih ye wr bi hm ki we := fun q => by
  obtain ⟨A, h1, h2, h3⟩ := h q
  exact ⟨A, h1.mono hTS hS, h2, h3⟩
theorem SL.mono {hs T S : Nat} {wo : Nat → Nat} {ks a1 a2 a3 a4 a5 a6 : Int32} {p1 p2 p3 p4 p5 : Nat → Int32} {b1 b2 b3 b4 b5 b6 : Int32} {r1 r2 r3 r4 r5 kept isK : Nat → Int32} (h : SL hs T wo ks a1 a2 a3 a4 a5 a6 p1 p2 p3 p4 p5 b1 b2 b3 b4 b5 b6 r1 r2 r3 r4 r5 kept isK) (hTS : T ≤ S) (hS : S ≤ 600) : SL hs S wo ks a1 a2 a3 a4 a5 a6 p1 p2 p3 p4 p5 b1 b2 b3 b4 b5 b6 r1 r2 r3 r4 r5 kept isK := by
  obtain ⟨K, h1, h2, h3, h4, h5, h6⟩ := h
  exact ⟨K, h1, h2, h3, h4, h5.mono hTS hS, h6.mono hTS hS⟩
theorem keep_l {P b isK : Nat → Int32} {th : Int32} {s : Nat} (hs2 : s < 2) : ∀ (m c fuel : Nat) (f : Nat → Int32), c + m = 33 → m < fuel → (∀ k, k < c → f (33 * s + k) = P k) → (∀ i, (i < 33 * s ∨ 33 * s + 33 ≤ i) → f i = b i) → ∃ f', f_X6_keep_26 P (nI s) fuel th f isK (nI c) = some (P 24, th, f', isK) ∧ (∀ k, k < 33 → f' (33 * s + k) = P k) ∧ (∀ i, (i < 33 * s ∨ 33 * s + 33 ≤ i) → f' i = b i) := by
  intro m
  induction m with
  | zero =>
    intro c fuel f hc hf h1 h2
    obtain ⟨k, rfl⟩ : ∃ k, fuel = k + 1 := ⟨fuel - 1, by omega⟩
    refine ⟨f, ?_, fun i hi => h1 i (by omega), h2⟩
    simp only [f_X6_keep_26, f_X6_keep_26_b, kl33, kl1]
    rw [if_pos (nI_le (by omega) (by omega))]
  | succ m ih =>
    intro c fuel f hc hf h1 h2
    obtain ⟨k, rfl⟩ : ∃ k, fuel = k + 1 := ⟨fuel - 1, by omega⟩
    simp only [f_X6_keep_26, f_X6_keep_26_b, kl33, kl1]
    rw [if_neg (nI_ge (by omega) (by omega)), kg_yes (kin_y (by omega) (by omega)), k_mul, nI_add, kg_yes (kin_y (by omega) (by omega)), nI_clamp (by omega), nI_clamp (by omega), k_s1]
    refine ih (c + 1) k _ (by omega) (by omega) (fun i hi => ?_) (fun i hi => ?_)
    · by_cases e : i = c
      · subst e; rw [upd_s]
      · rw [upd_n (by omega)]; exact h1 i (by omega)
    · rw [upd_n (by omega)]; exact h2 i hi
theorem bit_or {K c i : Nat} : (K ||| 2 ^ c).testBit i = (K.testBit i || decide (c = i)) := by rw [Nat.testBit_or, Nat.testBit_two_pow]
theorem cmd_keep {hs T na : Nat} {wo : Nat → Nat} {ho ch li si ih ye : Int32} {wr bi hm ki we wt wh bf P bk : Nat → Int32} (hS : ST hs T wo na ho ch li si ih ye wr bi hm ki we wt wh bf P bk)
    {ks a1 a2 a3 a4 a5 a6 : Int32} {p1 p2 p3 p4 p5 : Nat → Int32} {b1 b2 b3 b4 b5 b6 : Int32} {r1 r2 r3 r4 r5 kept isK : Nat → Int32} (hL : SL hs T wo ks a1 a2 a3 a4 a5 a6 p1 p2 p3 p4 p5 b1 b2 b3 b4 b5 b6 r1 r2 r3 r4 r5 kept isK) (th x : Int32) :
    ∃ r th' ks' a1' a2' a3' a4' a5' a6' p1' p2' p3' p4' p5' b1' b2' b3' b4' b5' b6' r1' r2' r3' r4' r5' kept' isK', f_X5_keep ho ch li si ih ye wr bi hm ki we ks a1 a2 a3 a4 a5 a6 p1 p2 p3 p4 p5 b1 b2 b3 b4 b5 b6 r1 r2 r3 r4 r5 x = some (r, ks', a1', a2', a3', a4', a5', a6', p1', p2', p3', p4', p5', b1', b2', b3', b4', b5', b6', r1', r2', r3', r4', r5') ∧ f_X6_keep P th kept isK x = some (r, th', kept', isK') ∧
      SL hs T wo ks' a1' a2' a3' a4' a5' a6' p1' p2' p3' p4' p5' b1' b2' b3' b4' b5' b6' r1' r2' r3' r4' r5' kept' isK' := by
  have hL0 := hL
  obtain ⟨A, hV, hTR, hP, hA⟩ := hS
  obtain ⟨K, k1, k2, k3, k4, k5, k6⟩ := hL
  have h7 := hV.2.2.1
  have h3 := hV.1
  have e24 : ye = P 24 := by rw [hP 24 (by omega)]; exact hTR.2.2.2.2.2.1
  unfold f_X5_keep f_X6_keep
  rw [in_k x (n := 2) (u := 1) (by decide)]
  simp only [kl0, kl1, kl2, kl3, kl4, kl5, kl6, kl7, kl8, kl9, kl10, kl12, kl13, kl14, kl20, kl21, kl22, kl23, kl24, kl25, kl26, kl30, kl31, kl33, kl48, kl49, kl57, kl65, kl66, kl67, kl72, kl89, kl100, kl128, kl255]
  rw [kb1_some, ki0, rng2 x (by omega)]
  rcases inr_cases x (n := 2) (by omega) with h | ⟨c, hc, rfl⟩
  · rw [h]
    exact ⟨_, _, _, _, _, _, _, _, _, _, _, _, _, _, _, _, _, _, _, _, _, _, _, _, _, _, _, rfl, rfl, hL0⟩
  · obtain ⟨f', g1, g2, g3⟩ := keep_l (P := P) (b := kept) (isK := upd isK c (nI 1)) (th := nI 0) hc 33 0 1000 kept (by omega) (by omega) (fun k hk => by omega) (fun i _ => rfl)
    rw [inr_y hc (by omega), if_pos rfl, if_pos rfl, kg_yes (kin_y (by omega) (by omega)), nI_clamp (by omega), g1, ← e24]
    have hlt : K ||| 2 ^ c < 4 := Nat.or_lt_two_pow (n := 2) (by omega) (k_two hc)
    have : c = 0 ∨ c = 1 := by omega
    rcases this with rfl | rfl
    · obtain ⟨w', b', m', k', v', t1, t2⟩ := take_TR h3 h7 hTR a1 a2 a3 a4 a5 a6 p1 p2 p3 p4 p5
      rw [if_pos rfl, t1, kb1_some, bit_n (by omega), kb1_some, k2, k_or]
      refine ⟨_, _, _, _, _, _, _, _, _, _, _, _, _, _, _, _, _, _, _, _, _, _, _, _, _, _, _, rfl, rfl, K ||| 2 ^ 0, hlt, rfl, ?_, ?_, ?_, ?_⟩
      · rw [upd_s, bit_or, decide_eq_true rfl, Bool.or_true]; rfl
      · rw [upd_n (by omega), bit_or, decide_eq_false (by omega), Bool.or_false]; exact k4
      · exact fun _ => ⟨A, hV, t2, fun k hk => by rw [g2 k hk]; exact hP k hk⟩
      · rw [bit_or, decide_eq_false (by omega), Bool.or_false]
        intro q
        obtain ⟨B, B1, B2, B3⟩ := k6 q
        exact ⟨B, B1, B2, fun k hk => by rw [g3 _ (Or.inr (by omega))]; exact B3 k hk⟩
    · obtain ⟨w', b', m', k', v', t1, t2⟩ := take_TR h3 h7 hTR b1 b2 b3 b4 b5 b6 r1 r2 r3 r4 r5
      rw [if_neg (show ¬ nI 1 = nI 0 by decide), t1, kb1_some, bit_n (by omega), kb1_some, k2, k_or]
      refine ⟨_, _, _, _, _, _, _, _, _, _, _, _, _, _, _, _, _, _, _, _, _, _, _, _, _, _, _, rfl, rfl, K ||| 2 ^ 1, hlt, rfl, ?_, ?_, ?_, ?_⟩
      · rw [upd_n (by omega), bit_or, decide_eq_false (by omega), Bool.or_false]; exact k3
      · rw [upd_s, bit_or, decide_eq_true rfl, Bool.or_true]; rfl
      · rw [bit_or, decide_eq_false (by omega), Bool.or_false]
        intro q
        obtain ⟨B, B1, B2, B3⟩ := k5 q
        exact ⟨B, B1, B2, fun k hk => by rw [g3 _ (Or.inl (by omega))]; exact B3 k hk⟩
      · exact fun _ => ⟨A, hV, t2, fun k hk => by rw [g2 k hk]; exact hP k hk⟩
theorem again_l {kept isK : Nat → Int32} {th ac : Int32} {s : Nat} (hs2 : s < 2) : ∀ (m c fuel : Nat) (f : Nat → Int32), c + m = 33 → m < fuel → (∀ k, k < c → f k = kept (33 * s + k)) → ∃ f', f_X6_again_31 kept isK (nI s) fuel th ac f (nI c) = some (f' 24, th, nI 0, f') ∧ (∀ k, k < 33 → f' k = kept (33 * s + k)) := by
  intro m
  induction m with
  | zero =>
    intro c fuel f hc hf h1
    obtain ⟨k, rfl⟩ : ∃ k, fuel = k + 1 := ⟨fuel - 1, by omega⟩
    refine ⟨f, ?_, fun i hi => h1 i (by omega)⟩
    simp only [f_X6_again_31, f_X6_again_31_b, kl33, kl1, kl0]
    rw [if_pos (nI_le (by omega) (by omega))]
  | succ m ih =>
    intro c fuel f hc hf h1
    obtain ⟨k, rfl⟩ : ∃ k, fuel = k + 1 := ⟨fuel - 1, by omega⟩
    simp only [f_X6_again_31, f_X6_again_31_b, kl33, kl1]
    rw [if_neg (nI_ge (by omega) (by omega)), k_mul, nI_add, kg_yes (kin_y (by omega) (by omega)), kg_yes (kin_y (by omega) (by omega)), nI_clamp (by omega), nI_clamp (by omega), k_s1]
    refine ih (c + 1) k _ (by omega) (by omega) (fun i hi => ?_)
    by_cases e : i = c
    · subst e; rw [upd_s]
    · rw [upd_n e]; exact h1 i (by omega)
theorem AC_0 (hs T : Nat) (wo A : Nat → Nat) (wt wh bf bk : Nat → Int32) : AC hs T 0 wo A wt wh bf bk := ⟨by omega, fun _ => A, fun i hi => by omega, fun i hi => by omega, rfl⟩
theorem cmd_again {hs T na : Nat} {wo : Nat → Nat} {ho ch li si ih ye : Int32} {wr bi hm ki we wt wh bf P bk : Nat → Int32} (hS : ST hs T wo na ho ch li si ih ye wr bi hm ki we wt wh bf P bk)
    {ks a1 a2 a3 a4 a5 a6 : Int32} {p1 p2 p3 p4 p5 : Nat → Int32} {b1 b2 b3 b4 b5 b6 : Int32} {r1 r2 r3 r4 r5 kept isK : Nat → Int32} (hL : SL hs T wo ks a1 a2 a3 a4 a5 a6 p1 p2 p3 p4 p5 b1 b2 b3 b4 b5 b6 r1 r2 r3 r4 r5 kept isK) (th x : Int32) :
    ∃ r th' na' ho' ch' li' si' ih' ye' wr' bi' hm' ki' we' P', f_X5_again ks a1 a2 a3 a4 a5 a6 p1 p2 p3 p4 p5 b1 b2 b3 b4 b5 b6 r1 r2 r3 r4 r5 ho ch li si ih ye wr bi hm ki we (nI na) x = some (r, ho', ch', li', si', ih', ye', wr', bi', hm', ki', we', nI na') ∧ f_X6_again kept isK th (nI na) P x = some (r, th', nI na', P') ∧
      ST hs T wo na' ho' ch' li' si' ih' ye' wr' bi' hm' ki' we' wt wh bf P' bk := by
  have hS0 := hS
  obtain ⟨A, hV, hTR, hP, hA⟩ := hS
  obtain ⟨K, k1, k2, k3, k4, k5, k6⟩ := hL
  have h7 := hV.2.2.1
  have h3 := hV.1
  unfold f_X5_again f_X6_again
  rw [in_k x (n := 2) (u := 1) (by decide)]
  simp only [kl0, kl1, kl2, kl3, kl4, kl5, kl6, kl7, kl8, kl9, kl10, kl12, kl13, kl14, kl20, kl21, kl22, kl23, kl24, kl25, kl26, kl30, kl31, kl33, kl48, kl49, kl57, kl65, kl66, kl67, kl72, kl89, kl100, kl128, kl255]
  rw [kb1_some, ki0, rng2 x (by omega)]
  rcases inr_cases x (n := 2) (by omega) with h | ⟨c, hc, rfl⟩
  · rw [h]
    exact ⟨_, _, na, _, _, _, _, _, _, _, _, _, _, _, P, rfl, rfl, hS0⟩
  · obtain ⟨f', g1, g2⟩ := again_l (kept := kept) (isK := isK) (th := nI 0) (ac := nI na) hc 33 0 1000 P (by omega) (by omega) (fun k hk => by omega)
    rw [inr_y hc (by omega), if_pos rfl, if_pos rfl, kg_yes (kin_y (by omega) (by omega)), nI_clamp (by omega), g1, k2, isIn_n (by omega) (by omega), kb1_some, ki0]
    have : c = 0 ∨ c = 1 := by omega
    rcases this with rfl | rfl
    · rw [k3, ki0]
      by_cases q : K.testBit 0 = true
      · obtain ⟨B, B1, B2, B3⟩ := k5 q
        obtain ⟨w', b', m', k', v', t1, t2⟩ := take_TR B1.1 B1.2.2.1 B2 ho ch li si ih ye wr bi hm ki we
        have e : a6 = f' 24 := by rw [g2 24 (by omega), B3 24 (by omega)]; exact B2.2.2.2.2.2.1
        rw [if_pos q, if_pos q, if_pos rfl, t1, kb1_some, ← e]
        exact ⟨_, _, 0, _, _, _, _, _, _, _, _, _, _, _, _, rfl, rfl, B, B1, t2, fun k hk => by rw [g2 k hk]; exact B3 k hk, AC_0 _ _ _ _ _ _ _ _⟩
      · rw [if_neg q, if_neg q]
        exact ⟨_, _, na, _, _, _, _, _, _, _, _, _, _, _, P, rfl, rfl, hS0⟩
    · rw [k4, ki0]
      by_cases q : K.testBit 1 = true
      · obtain ⟨B, B1, B2, B3⟩ := k6 q
        obtain ⟨w', b', m', k', v', t1, t2⟩ := take_TR B1.1 B1.2.2.1 B2 ho ch li si ih ye wr bi hm ki we
        have e : b6 = f' 24 := by rw [g2 24 (by omega), B3 24 (by omega)]; exact B2.2.2.2.2.2.1
        rw [if_pos q, if_pos q, if_neg (show ¬ nI 1 = nI 0 by decide), t1, kb1_some, ← e]
        exact ⟨_, _, 0, _, _, _, _, _, _, _, _, _, _, _, _, rfl, rfl, B, B1, t2, fun k hk => by rw [g2 k hk]; exact B3 k hk, AC_0 _ _ _ _ _ _ _ _⟩
      · rw [if_neg q, if_neg q]
        exact ⟨_, _, na, _, _, _, _, _, _, _, _, _, _, _, P, rfl, rfl, hS0⟩
