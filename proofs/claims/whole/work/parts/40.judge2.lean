/-! MATH 20: judge: each told thing, and the two loops -/
theorem noChild_25 {P : Nat → Int32} {n : Nat} (hP : P 25 = nI n) (x : Int32) (hn : n < 2 ^ 30) : f_X6_noChild P x = some (nI (!inr x n).toNat) := by
  unfold f_X6_noChild
  simp only [kl0, kl1, kl2, kl3, kl4, kl5, kl6, kl7, kl8, kl9, kl10, kl12, kl13, kl14, kl20, kl21, kl22, kl23, kl24, kl25, kl26, kl30, kl31, kl33, kl48, kl49, kl57, kl65, kl66, kl67, kl72, kl89, kl100, kl128, kl255]
  rw [hP, in_n x hn, kb1_some, ki0]
  cases inr x n <;> rfl
theorem does_0 {hs T : Nat} {wo A : Nat → Nat} {wr bi hm ki we P tr mw : Nat → Int32} {li si ih ye : Int32} (hV : VA hs T A) (hT6 : T < 600) (hT : TR hs wo A (nI hs) (nI (A 25)) li si ih ye wr bi hm ki we) (htr : PG A tr) {e : Nat} (he : e < 10) :
    ∃ ok ye' tr', f_X4_doTold (nI hs) (nI (A 25)) wr bi hm ki li si ih ye we (nI 0) (nI e) = some (nI (Bool.toNat ok), li, si, ih, ye', we) ∧ f_X6_does (nI hs) mw P tr (nI e) = some (nI (Bool.toNat ok), tr') ∧ (ok = true → ∃ A', VA hs (T + 1) A' ∧ A' 25 = A 25 ∧ TR hs wo A' (nI hs) (nI (A 25)) li si ih ye' wr bi hm ki we ∧ PG A' tr') := by
  have h7 := hV.2.2.1
  have ey := hT.2.2.2.2.2.1
  subst ey
  unfold f_X4_doTold f_X6_does
  simp only [kl0, kl1, kl2, kl3, kl4, kl5, kl6, kl7, kl8, kl9, kl10, kl12, kl13, kl14, kl20, kl21, kl22, kl23, kl24, kl25, kl26, kl30, kl31, kl33, kl48, kl49, kl57, kl65, kl66, kl67, kl72, kl89, kl100, kl128, kl255, if_true]
  by_cases c : e = 0
  · subst c
    obtain ⟨f', g1, g2⟩ := goYear_l h7 (A 25) 0 1000 tr (by omega) (by omega) (fun k hk => by rw [if_neg (by omega)]; exact htr k hk)
    unfold f_X6_goYear
    simp only [kl0, kl1, kl2, kl3, kl4, kl5, kl6, kl7, kl8, kl9, kl10, kl12, kl13, kl14, kl20, kl21, kl22, kl23, kl24, kl25, kl26, kl30, kl31, kl33, kl48, kl49, kl57, kl65, kl66, kl67, kl72, kl89, kl100, kl128, kl255, if_true]
    rw [g1, kb1_some, k_s1]
    exact ⟨true, _, f', rfl, rfl, fun _ => ⟨_, VA_yr hV hT6, ayr_n (by omega) (by omega), (TR_yr h7).1 hT, g2⟩⟩
  · have n0 : ¬ nI e = nI 0 := fun z => c ((nI_eq (by omega) (by omega)).1 z)
    have e0 : e / 10 = 0 := by omega
    rw [if_neg n0, if_neg n0, k_div (by omega) (by omega) (by omega), e0, if_neg (show ¬ nI 0 = nI 1 by decide), if_neg (show ¬ nI 0 = nI 2 by decide), if_neg (show ¬ nI 0 = nI 3 by decide)]
    exact ⟨false, _, tr, rfl, rfl, fun z => absurd z (by decide)⟩
theorem does_2 {hs T : Nat} {wo A : Nat → Nat} {wr bi hm ki we P tr mw : Nat → Int32} {li ih ye : Int32} (hV : VA hs T A) (hT : TR hs wo A (nI hs) (nI (A 25)) li (nI (A 22)) ih ye wr bi hm ki we) (htr : PG A tr) {e : Nat} (he : e < 10) :
    ∃ ok si' tr', f_X4_doTold (nI hs) (nI (A 25)) wr bi hm ki li (nI (A 22)) ih ye we (nI 2) (nI e) = some (nI (Bool.toNat ok), li, si', ih, ye, we) ∧ f_X6_does (nI hs) mw P tr (nI (20 + e)) = some (nI (Bool.toNat ok), tr') ∧ (ok = true → ∃ A', VA hs T A' ∧ A' 25 = A 25 ∧ TR hs wo A' (nI hs) (nI (A 25)) li si' ih ye wr bi hm ki we ∧ PG A' tr') := by
  have h7 := hV.2.2.1
  have h3 := hV.1
  have hl := hV.lt
  unfold f_X4_doTold f_X6_does
  have n20 : (nI 2 = nI 0) = False := propext ⟨fun h => absurd h (by decide), False.elim⟩
  have n21 : (nI 2 = nI 1) = False := propext ⟨fun h => absurd h (by decide), False.elim⟩
  simp only [kl0, kl1, kl2, kl3, kl4, kl5, kl6, kl7, kl8, kl9, kl10, kl12, kl13, kl14, kl20, kl21, kl22, kl23, kl24, kl25, kl26, kl30, kl31, kl33, kl48, kl49, kl57, kl65, kl66, kl67, kl72, kl89, kl100, kl128, kl255, if_true, n20, n21, if_false]
  rw [if_neg (fun z => by have := (nI_eq (by omega) (by omega)).1 z; omega), k_mod (by omega) (by omega) (by omega), k_div (by omega) (by omega) (by omega), show (20 + e) / 10 = 2 by omega, show (20 + e) % 10 = e by omega, if_neg (show ¬ nI 2 = nI 1 by decide), if_pos rfl, hasHouse_x _ (by omega), noHouse_x _ (by omega), kb1_some, kb1_some, ki0, ki0, inr_nI (by omega)]
  simp only [f_X6_does_110, f_X4_flipSide, kl0, kl1, kl2, kl3, kl4, kl5, kl6, kl7, kl8, kl9, kl10, kl12, kl13, kl14, kl20, kl21, kl22, kl23, kl24, kl25, kl26, kl30, kl31, kl33, kl48, kl49, kl57, kl65, kl66, kl67, kl72, kl89, kl100, kl128, kl255]
  rw [noHouse_x _ (by omega), inr_nI (by omega), bit_n (by omega), kb1_some, k_sh1 (by omega), htr 22 (by omega), k_xor, nI_clamp (by omega), k_xor]
  by_cases c : e < hs
  · have hlt : A 22 ^^^ 2 ^ e < 2 ^ hs := Nat.xor_lt_two_pow hV.2.2.2.2.1 (k_two c)
    have hP' : PG (au A 22 (A 22 ^^^ 2 ^ e)) (upd tr 22 (nI (A 22 ^^^ 2 ^ e))) := htr.au _
    rw [decide_eq_true c, if_pos rfl, if_neg (show ¬ ((!true) = true) by decide), kg_yes (kin_y (by omega) (by omega)), kb1_some, kb1_some, ki0, if_neg (show ¬ ((!true) = true) by decide)]
    exact ⟨true, _, _, rfl, rfl, fun _ => ⟨_, VA_22 hV hlt, au_n _ _ (by omega), TR_22 hT h7 _, hP'⟩⟩
  · rw [decide_eq_false c, if_neg Bool.false_ne_true, if_pos (show (!false) = true from rfl), kg_yes (kin_y (by omega) (by omega)), kb1_some, ki0, if_pos (show (!false) = true from rfl)]
    exact ⟨false, _, _, rfl, rfl, fun z => absurd z (by decide)⟩
theorem canPass_out {hs : Nat} {x ch li ih : Int32} {bi hm ki : Nat → Int32} (h3 : hs ≤ 3) (h : inr x hs = false) : f_X4_canPass (nI hs) ch li ih bi hm ki x = some (nI 0) := by
  unfold f_X4_canPass
  rw [hasHouse_x x (by omega), h, kb1_some]
  rfl
theorem does_3 {hs T : Nat} {wo A : Nat → Nat} {wr bi hm ki we P tr mw : Nat → Int32} {ye : Int32} (hV : VA hs T A) (hT6 : T < 600) (hwo : WO hs wo) (hmw : WM hs wo mw) (hT : TR hs wo A (nI hs) (nI (A 25)) (nI (A 21)) (nI (A 22)) (nI (A 23)) ye wr bi hm ki we) (htr : PG A tr) {e : Nat} (he : e < 10) :
    ∃ ok ih' we' tr', f_X4_doTold (nI hs) (nI (A 25)) wr bi hm ki (nI (A 21)) (nI (A 22)) (nI (A 23)) ye we (nI 3) (nI e) = some (nI (Bool.toNat ok), nI (A 21), nI (A 22), ih', ye, we') ∧ f_X6_does (nI hs) mw P tr (nI (30 + e)) = some (nI (Bool.toNat ok), tr') ∧ (ok = true → ∃ A', VA hs (T + 1) A' ∧ A' 25 = A 25 ∧ TR hs wo A' (nI hs) (nI (A 25)) (nI (A 21)) (nI (A 22)) ih' ye wr bi hm ki we' ∧ PG A' tr') := by
  have h7 := hV.2.2.1
  have h3 := hV.1
  have hl := hV.lt
  have q8 := hT.2.2.2.2.2.2.2.1
  unfold f_X4_doTold f_X6_does
  have n30 : (nI 3 = nI 0) = False := propext ⟨fun h => absurd h (by decide), False.elim⟩
  have n31 : (nI 3 = nI 1) = False := propext ⟨fun h => absurd h (by decide), False.elim⟩
  have n32 : (nI 3 = nI 2) = False := propext ⟨fun h => absurd h (by decide), False.elim⟩
  simp only [kl0, kl1, kl2, kl3, kl4, kl5, kl6, kl7, kl8, kl9, kl10, kl12, kl13, kl14, kl20, kl21, kl22, kl23, kl24, kl25, kl26, kl30, kl31, kl33, kl48, kl49, kl57, kl65, kl66, kl67, kl72, kl89, kl100, kl128, kl255, if_true, n30, n31, n32, if_false]
  rw [if_neg (fun z => by have := (nI_eq (by omega) (by omega)).1 z; omega), k_mod (by omega) (by omega) (by omega), k_div (by omega) (by omega) (by omega), show (30 + e) / 10 = 3 by omega, show (30 + e) % 10 = e by omega, if_neg (show ¬ nI 3 = nI 1 by decide), if_neg (show ¬ nI 3 = nI 2 by decide), if_pos rfl, noHouse_x _ (by omega), kb1_some, ki0, inr_nI (by omega)]
  by_cases c : e < hs
  · have hb := hrA_lt A h7 e ((A 22).testBit e) (A 21)
    rw [decide_eq_true c, if_neg (show ¬ ((!true) = true) by decide), canPass_n (wo := wo) hV q8 c, kb1_some, ki0, htr 23 (by omega), has_n (by omega) (by omega), kb1_some, ki0, heirsNow_r hV.bd htr (by omega) (by omega) (by omega), kb1_some]
    unfold cps hrN
    by_cases q : (A 23).testBit e = true
    · rw [if_pos q, if_neg (by rw [q]; exact Bool.false_ne_true)]
      exact ⟨false, _, _, _, rfl, rfl, fun z => absurd z (by decide)⟩
    · rw [if_neg q]
      by_cases w : hrA A e ((A 22).testBit e) (A 21) = 0
      · rw [if_pos (congrArg nI w), if_neg (by rw [decide_eq_false (fun z => z w), Bool.and_false]; exact Bool.false_ne_true)]
        exact ⟨false, _, _, _, rfl, rfl, fun z => absurd z (by decide)⟩
      · have qf := (Bool.not_eq_true _).mp q
        obtain ⟨we', p1, p2⟩ := passTo_n hT h3 h7 hwo c hb
        obtain ⟨P', g1, g2⟩ := goInh_n h3 hmw hwo htr c hb
        rw [if_neg (fun z => w ((nI_eq (by omega) (by decide)).1 z)), if_pos (by rw [qf, decide_eq_true w]; rfl), heirsOf_c hV.bd q8 (by omega) (by omega) (by omega), kb1_some, kb1_some, g1, kb1_some]
        unfold hrN
        rw [p1, kb1_some]
        exact ⟨true, _, _, _, rfl, rfl, fun _ => ⟨_, VA_in hV hwo hT6 c _, ain_n _ _ _ _ (by omega) (by omega), p2, g2⟩⟩
  · rw [decide_eq_false c, if_pos (show (!false) = true from rfl), canPass_out h3 (by rw [inr_nI (by omega)]; exact decide_eq_false c), kb1_some, if_pos rfl]
    exact ⟨false, _, _, _, rfl, rfl, fun z => absurd z (by decide)⟩
theorem does_9 {hs : Nat} {wr bi hm ki we P tr mw : Nat → Int32} {ch li si ih ye : Int32} {d e : Nat} (hd : 4 ≤ d) (hd2 : d < 10) (he : e < 10) :
    f_X4_doTold (nI hs) ch wr bi hm ki li si ih ye we (nI d) (nI e) = some (nI 0, li, si, ih, ye, we) ∧ f_X6_does (nI hs) mw P tr (nI (10 * d + e)) = some (nI 0, tr) := by
  have nd : ∀ k, k < 4 → ¬ nI d = nI k := fun k hk z => by have := (nI_eq (by omega) (by omega)).1 z; omega
  unfold f_X4_doTold f_X6_does
  simp only [kl0, kl1, kl2, kl3, kl4, kl5, kl6, kl7, kl8, kl9, kl10, kl12, kl13, kl14, kl20, kl21, kl22, kl23, kl24, kl25, kl26, kl30, kl31, kl33, kl48, kl49, kl57, kl65, kl66, kl67, kl72, kl89, kl100, kl128, kl255]
  rw [if_neg (nd 0 (by omega)), if_neg (nd 1 (by omega)), if_neg (nd 2 (by omega)), if_neg (nd 3 (by omega))]
  rw [if_neg (fun z => by have := (nI_eq (by omega) (by omega)).1 z; omega), k_div (by omega) (by omega) (by omega), show (10 * d + e) / 10 = d by omega, if_neg (nd 1 (by omega)), if_neg (nd 2 (by omega)), if_neg (nd 3 (by omega))]
  exact ⟨rfl, rfl⟩
theorem does_n {hs T : Nat} {wo A : Nat → Nat} {wr bi hm ki we P tr mw : Nat → Int32} {li si ih ye : Int32} (hV : VA hs T A) (hT6 : T < 600) (hwo : WO hs wo) (hmw : WM hs wo mw) (hT : TR hs wo A (nI hs) (nI (A 25)) li si ih ye wr bi hm ki we) (hP : P 25 = nI (A 25)) (htr : PG A tr) {t : Nat} (ht : t < 100) :
    ∃ ok li' si' ih' ye' we' tr', f_X4_doTold (nI hs) (nI (A 25)) wr bi hm ki li si ih ye we (nI (t / 10)) (nI (t % 10)) = some (nI (Bool.toNat ok), li', si', ih', ye', we') ∧ f_X6_does (nI hs) mw P tr (nI t) = some (nI (Bool.toNat ok), tr') ∧ (ok = true → ∃ A', VA hs (T + 1) A' ∧ A' 25 = A 25 ∧ TR hs wo A' (nI hs) (nI (A 25)) li' si' ih' ye' wr bi hm ki we' ∧ PG A' tr') := by
  have hT0 := hT
  obtain ⟨-, -, rfl, rfl, rfl, rfl, -⟩ := hT
  have h7 := hV.2.2.1
  obtain ⟨e, he, hte⟩ : ∃ e, e < 10 ∧ t % 10 = e := ⟨t % 10, by omega, rfl⟩
  rw [hte]
  by_cases c0 : t / 10 = 0
  · have : t = e := by omega
    subst this
    obtain ⟨ok, ye', tr', a, b, c⟩ := does_0 (P := P) (mw := mw) hV hT6 hT0 htr he
    rw [c0]
    exact ⟨ok, _, _, _, _, _, _, a, b, c⟩
  by_cases c1 : t / 10 = 1
  · have : t = 10 + e := by omega
    subst this
    obtain ⟨ok, li', tr', a, b, c⟩ := does_1 (mw := mw) hV hT0 hP htr he (noChild_25 hP _ (by omega))
    rw [c1]
    exact ⟨ok, _, _, _, _, _, _, a, b, fun w => by obtain ⟨A', z1, z2, z3, z4⟩ := c w; exact ⟨A', z1.mono (by omega) (by omega), z2, z3, z4⟩⟩
  by_cases c2 : t / 10 = 2
  · have : t = 20 + e := by omega
    subst this
    obtain ⟨ok, li', tr', a, b, c⟩ := does_2 (P := P) (mw := mw) hV hT0 htr he
    rw [c2]
    exact ⟨ok, _, _, _, _, _, _, a, b, fun w => by obtain ⟨A', z1, z2, z3, z4⟩ := c w; exact ⟨A', z1.mono (by omega) (by omega), z2, z3, z4⟩⟩
  by_cases c3 : t / 10 = 3
  · have : t = 30 + e := by omega
    subst this
    obtain ⟨ok, li', we', tr', a, b, c⟩ := does_3 (P := P) (mw := mw) hV hT6 hwo hmw hT0 htr he
    rw [c3]
    exact ⟨ok, _, _, _, _, _, _, a, b, c⟩
  have e4 : t = 10 * (t / 10) + e := by omega
  obtain ⟨a, b⟩ := does_9 (hs := hs) (wr := wr) (bi := bi) (hm := hm) (ki := ki) (we := we) (P := P) (tr := tr) (mw := mw) (ch := nI (A 25)) (li := nI (A 21)) (si := nI (A 22)) (ih := nI (A 23)) (ye := nI (A 24)) (d := t / 10) (by omega) (by omega) he
  rw [← e4] at b
  exact ⟨false, _, _, _, _, _, _, a, b, fun z => absurd z (by decide)⟩
theorem pw5_l (b N : Nat) (hN : N < 100) : ∀ (m c fuel : Nat), c + m = N → m < fuel → f_X5_power_4 (nI b) (nI N) fuel (nI (b ^ c)) (nI c) = some (nI (b ^ N)) := by
  intro m
  induction m with
  | zero =>
    intro c fuel hc hf
    obtain ⟨k, rfl⟩ : ∃ k, fuel = k + 1 := ⟨fuel - 1, by omega⟩
    have e : c = N := by omega
    subst e
    simp only [f_X5_power_4, f_X5_power_4_b]
    rw [if_pos (nI_le (Nat.le_refl _) (by omega))]
  | succ m ih =>
    intro c fuel hc hf
    obtain ⟨k, rfl⟩ : ∃ k, fuel = k + 1 := ⟨fuel - 1, by omega⟩
    simp only [f_X5_power_4, f_X5_power_4_b, kl1]
    rw [if_neg (nI_ge (by omega) (by omega)), k_mul, k_s1, ← Nat.pow_succ]
    exact ih (c + 1) k (by omega) (by omega)
theorem pw5_n (b : Nat) {N : Nat} (hN : N < 100) : f_X5_power (nI b) (nI N) = some (nI (b ^ N)) := by
  unfold f_X5_power
  simp only [kl0, kl1]
  exact pw5_l b N hN N 0 1000 (by omega) (by omega)
theorem pw6_l (b N : Nat) (hN : N < 100) : ∀ (m c fuel : Nat), c + m = N → m < fuel → f_X6_power_4 (nI b) (nI N) fuel (nI (b ^ c)) (nI c) = some (nI (b ^ N)) := by
  intro m
  induction m with
  | zero =>
    intro c fuel hc hf
    obtain ⟨k, rfl⟩ : ∃ k, fuel = k + 1 := ⟨fuel - 1, by omega⟩
    have e : c = N := by omega
    subst e
    simp only [f_X6_power_4, f_X6_power_4_b]
    rw [if_pos (nI_le (Nat.le_refl _) (by omega))]
  | succ m ih =>
    intro c fuel hc hf
    obtain ⟨k, rfl⟩ : ∃ k, fuel = k + 1 := ⟨fuel - 1, by omega⟩
    simp only [f_X6_power_4, f_X6_power_4_b, kl1]
    rw [if_neg (nI_ge (by omega) (by omega)), k_mul, k_s1, ← Nat.pow_succ]
    exact ih (c + 1) k (by omega) (by omega)
theorem pw6_n (b : Nat) {N : Nat} (hN : N < 100) : f_X6_power (nI b) (nI N) = some (nI (b ^ N)) := by
  unfold f_X6_power
  simp only [kl0, kl1]
  exact pw6_l b N hN N 0 1000 (by omega) (by omega)
theorem p100 : ∀ n, n < 5 → 0 < 100 ^ n ∧ 100 ^ n < 2 ^ 30 := by decide +kernel
theorem judge_l {hs S n row : Nat} {wo : Nat → Nat} {P mw : Nat → Int32} {nho nch nli nsi nih nye : Int32} {nwr nbi nhm nki nwe wr bi hm ki : Nat → Int32} {cn : Nat} (hn : n ≤ 4) (hrow : row < 2 ^ 31) (hwo : WO hs wo) (hmw : WM hs wo mw) (hS : S + 5 ≤ 600) (hP : P 25 = nI cn) :
    ∀ (m k fuel : Nat) (A : Nat → Nat) (li si ih ye x3 : Int32) (we tr : Nat → Int32), k + m = n → m < fuel → VA hs (S + k) A → A 25 = cn → TR hs wo A (nI hs) (nI cn) li si ih ye wr bi hm ki we → PG A tr → (k < n → x3 = nI (100 ^ (n - 1 - k))) →
    ∃ u v, f_X5_judge_64 nho nch nli nsi nih nye nwr nbi nhm nki nwe (nI n) (nI row) fuel (nI hs) (nI cn) li si ih ye wr bi hm ki we x3 (nI k) = some u ∧ f_X6_judge_44 (nI hs) mw P (nI n) (nI row) fuel (nI 0) tr (nI k) = some v ∧ u.1 = v.1 := by
  intro m
  induction m with
  | zero =>
    intro k fuel A li si ih ye x3 we tr hk hf hV hA hT htr hx3
    obtain ⟨d, rfl⟩ : ∃ d, fuel = d + 1 := ⟨fuel - 1, by omega⟩
    have e : k = n := by omega
    subst e
    simp only [f_X5_judge_64, f_X5_judge_64_b, f_X6_judge_44, f_X6_judge_44_b]
    rw [if_pos (nI_le (Nat.le_refl _) (by omega)), if_pos (nI_le (Nat.le_refl _) (by omega))]
    exact ⟨_, _, rfl, rfl, rfl⟩
  | succ m ih =>
    intro k fuel A li si ih' ye x3 we tr hk hf hV hA hT htr hx3
    obtain ⟨d, rfl⟩ : ∃ d, fuel = d + 1 := ⟨fuel - 1, by omega⟩
    have hx3 := hx3 (by omega)
    subst hx3
    subst hA
    have hp := p100 (n - 1 - k) (by omega)
    generalize hU : 100 ^ (n - 1 - k) = U at *
    have hq : row / U < 2 ^ 31 := Nat.lt_of_le_of_lt (Nat.div_le_self _ _) hrow
    have ht : row / U % 100 < 100 := Nat.mod_lt _ (by omega)
    obtain ⟨ok, li', si', ih2, ye', we', tr', a, b, c⟩ := does_n (P := P) hV (by omega) hwo hmw hT hP htr ht
    simp only [f_X5_judge_64, f_X5_judge_64_b, f_X6_judge_44, f_X6_judge_44_b, kl0, kl1, kl2, kl3, kl4, kl5, kl6, kl7, kl8, kl9, kl10, kl12, kl13, kl14, kl20, kl21, kl22, kl23, kl24, kl25, kl26, kl30, kl31, kl33, kl48, kl49, kl57, kl65, kl66, kl67, kl72, kl89, kl100, kl128, kl255]
    rw [if_neg (nI_ge (by omega) (by omega)), if_neg (nI_ge (by omega) (by omega)), if_neg (nI_ge (by omega) (by omega)), kg_yes (knz_y (by omega) hp.1), k_sub (show 1 ≤ n by omega), k_sub (show k ≤ n - 1 by omega), pw6_n 100 (by omega), kb1_some, hU, kg_yes (knz_y (by omega) hp.1), k_div hrow hp.1 (by omega), k_mod hq (by omega) (by omega), k_mod (show row / U % 100 < 2 ^ 31 by omega) (show 0 < 10 by omega) (by omega), k_div (show row / U % 100 < 2 ^ 31 by omega) (show 0 < 10 by omega) (by omega), a, b, kb1_some, kb1_some]
    dsimp only
    rw [ki0, ki0]
    cases ok with
    | false =>
      rw [if_neg Bool.false_ne_true, if_neg Bool.false_ne_true]
      exact ⟨_, _, rfl, rfl, rfl⟩
    | true =>
      obtain ⟨A', z1, z2, z3, z4⟩ := c rfl
      rw [if_pos rfl, if_pos rfl, k_s1, k_div (show U < 2 ^ 31 by omega) (show 0 < 100 by omega) (by omega)]
      refine ih (k + 1) d A' li' si' ih2 ye' _ we' tr' (by omega) (by omega) z1 z2 z3 z4 (fun hk => ?_)
      rw [← hU, show n - 1 - k = (n - 1 - (k + 1)) + 1 by omega, Nat.pow_succ, Nat.mul_div_cancel _ (by omega)]
theorem unit_l {n row : Nat} {nho nch nli nsi nih nye d1 d2 d3 d4 d5 d6 : Int32} {nwr nbi nhm nki nwe e1 e2 e3 e4 e5 : Nat → Int32} (hn : n ≤ 4) : ∀ (m i fuel : Nat), i + m = n → m < fuel → 1 ≤ i →
    f_X5_judge_22 nho nch nli nsi nih nye nwr nbi nhm nki nwe (nI n) (nI row) (fuel + 1) d1 d2 d3 d4 d5 d6 e1 e2 e3 e4 e5 (nI (100 ^ (i - 1))) (nI i) = f_X5_judge_22 nho nch nli nsi nih nye nwr nbi nhm nki nwe (nI n) (nI row) (fuel - m + 1) d1 d2 d3 d4 d5 d6 e1 e2 e3 e4 e5 (nI (100 ^ (n - 1))) (nI n) := by
  intro m
  induction m with
  | zero =>
    intro i fuel hi hf h1
    have e : i = n := by omega
    subst e
    rfl
  | succ m ih =>
    intro i fuel hi hf h1
    obtain ⟨d, rfl⟩ : ∃ d, fuel = d + 1 := ⟨fuel - 1, by omega⟩
    have ih := ih (i + 1) d (by omega) (by omega) (by omega)
    rw [show d + 1 - (m + 1) = d - m by omega, ← ih]
    show f_X5_judge_22_b _ _ _ _ _ _ _ _ _ _ _ _ _ _ _ _ _ _ _ _ _ _ _ _ _ _ _ = _
    unfold f_X5_judge_22_b
    simp only [kl0, kl1, kl2, kl3, kl4, kl5, kl6, kl7, kl8, kl9, kl10, kl12, kl13, kl14, kl20, kl21, kl22, kl23, kl24, kl25, kl26, kl30, kl31, kl33, kl48, kl49, kl57, kl65, kl66, kl67, kl72, kl89, kl100, kl128, kl255]
    rw [if_neg (nI_ge (by omega) (by omega)), k_mul, k_s1, ← Nat.pow_succ, show i + 1 - 1 = i - 1 + 1 by omega]
theorem in_14 (x : Int32) : f_X6_in x.toInt64 1 4 = some (nI (decide (1 ≤ x.toInt ∧ x.toInt ≤ 4)).toNat) := by
  rw [in_x, Int32.toInt_toInt64]
  rfl
theorem nn_of {x : Int32} (h : 0 ≤ x.toInt) : ∃ n, n < 2 ^ 31 ∧ x = nI n := by
  have hx := x.toInt_lt
  refine ⟨x.toInt.toNat, by omega, ?_⟩
  apply Int32.toInt_inj.mp
  rw [nI_toInt (by omega)]
  omega
theorem cmd_judge {A : Nat → Nat} {P mw : Nat → Int32} {hs T : Nat} {wo : Nat → Nat} {ho ch li si ih ye : Int32} {wr bi hm ki we : Nat → Int32} (hV : VA hs T A) (hT6 : T + 5 ≤ 600) (hwo : WO hs wo) (hT : TR hs wo A ho ch li si ih ye wr bi hm ki we) (hP : PG A P) (hmw : WM hs wo mw) (d1 d2 d3 d4 d5 d6 : Int32) (e1 e2 e3 e4 e5 : Nat → Int32) (th : Int32) (tr : Nat → Int32) (x y : Int32) :
    ∃ u v, f_X5_judge ho ch li si ih ye wr bi hm ki we d1 d2 d3 d4 d5 d6 e1 e2 e3 e4 e5 x y = some u ∧ f_X6_judge (nI hs) mw P th tr x y = some v ∧ u.1 = v.1 := by
  have h7 := hV.2.2.1
  have h3 := hV.1
  unfold f_X5_judge f_X6_judge
  rw [in_14 x]
  simp only [kl0, kl1, kl2, kl3, kl4, kl5, kl6, kl7, kl8, kl9, kl10, kl12, kl13, kl14, kl20, kl21, kl22, kl23, kl24, kl25, kl26, kl30, kl31, kl33, kl48, kl49, kl57, kl65, kl66, kl67, kl72, kl89, kl100, kl128, kl255]
  rw [kb1_some, ki0]
  have c1 : (x < nI 1) = (x.toInt < 1) := propext (by rw [Int32.lt_iff_toInt_lt]; rfl)
  have c2 : (nI 4 < x) = (4 < x.toInt) := propext (by rw [Int32.lt_iff_toInt_lt]; rfl)
  simp only [c1, c2]
  by_cases hx : 1 ≤ x.toInt ∧ x.toInt ≤ 4
  · rw [decide_eq_true hx, if_neg (show ¬ x.toInt < 1 by omega), if_neg (show ¬ 4 < x.toInt by omega), if_pos rfl]
    obtain ⟨n, hn, rfl⟩ := nn_of (x := x) (by omega)
    rw [nI_toInt hn] at hx
    have hp := p100 n (by omega)
    rw [pw6_n 100 (by omega), kb1_some, in_n y hp.2, kb1_some, ki0]
    have c3 : (nI 0 ≤ y) = (0 ≤ y.toInt) := propext (by rw [Int32.le_iff_toInt_le]; rfl)
    by_cases hy : 0 ≤ y.toInt
    · obtain ⟨row, hr, rfl⟩ := nn_of hy
      rw [if_pos (k_nn hr)]
      have hu := unit_l (row := row) (nho := ho) (nch := ch) (nli := li) (nsi := si) (nih := ih) (nye := ye) (nwr := wr) (nbi := bi) (nhm := hm) (nki := ki) (nwe := we) (d1 := d1) (d2 := d2) (d3 := d3) (d4 := d4) (d5 := d5) (d6 := d6) (e1 := e1) (e2 := e2) (e3 := e3) (e4 := e4) (e5 := e5) (n := n) (by omega) (n - 1) 1 999 (by omega) (by omega) (by omega)
      rw [show 100 ^ (1 - 1) = 1 from rfl, show 999 + 1 = 1000 from rfl] at hu
      rw [hu, inr_nI hr]
      have hp1 := p100 (n - 1) (by omega)
      have e100 : 100 ^ n = 100 ^ (n - 1) * 100 := by rw [← Nat.pow_succ, show (n - 1).succ = n by omega]
      rw [e100]
      generalize hU : 100 ^ (n - 1) = U at *
      obtain ⟨w', b', m', k', v', t1, t2⟩ := take_TR h3 h7 hT d1 d2 d3 d4 d5 d6 e1 e2 e3 e4 e5
      obtain ⟨tr', g1, g2⟩ := begin_n hP tr
      show ∃ u v, f_X5_judge_22_b _ _ _ _ _ _ _ _ _ _ _ _ _ (f_X5_judge_22 _ _ _ _ _ _ _ _ _ _ _ _ _ _) _ _ _ _ _ _ _ _ _ _ _ _ _ = some u ∧ _
      unfold f_X5_judge_22_b
      simp only [kl0, kl1, kl2, kl3, kl4, kl5, kl6, kl7, kl8, kl9, kl10, kl12, kl13, kl14, kl20, kl21, kl22, kl23, kl24, kl25, kl26, kl30, kl31, kl33, kl48, kl49, kl57, kl65, kl66, kl67, kl72, kl89, kl100, kl128, kl255]
      rw [if_pos (nI_le (Nat.le_refl _) (by omega)), k_div hr (by omega) (by omega)]
      by_cases w : row < U * 100
      · have w2 : row / 100 < U := by omega
        rw [if_pos (nI_lt w2 (by omega)), decide_eq_true w, if_pos rfl, t1, kb1_some, g1, kb1_some]
        obtain ⟨rfl, rfl, -⟩ := hT
        dsimp only
        exact judge_l (S := T) (by omega) hr hwo hmw hT6 (hP 25 (by omega)) n 0 1000 A li si ih ye _ v' tr' (by omega) (by omega) hV rfl t2 g2 (fun _ => by rw [Nat.sub_zero, hU])
      · rw [if_neg (nI_nlt (by omega) (by have : row / 100 ≤ row := Nat.div_le_self _ _; omega)), decide_eq_false w, if_neg Bool.false_ne_true]
        exact ⟨_, _, rfl, rfl, rfl⟩
    · rw [if_neg (fun z => hy (by rw [Int32.le_iff_toInt_le] at z; exact z)), show inr y (100 ^ n) = false from decide_eq_false (fun z => hy z.1), if_neg Bool.false_ne_true]
      exact ⟨_, _, rfl, rfl, rfl⟩
  · rw [decide_eq_false hx, if_neg Bool.false_ne_true]
    by_cases h1 : x.toInt < 1
    · rw [if_pos h1]
      exact ⟨_, _, rfl, rfl, rfl⟩
    · rw [if_neg h1, if_pos (by omega)]
      exact ⟨_, _, rfl, rfl, rfl⟩
