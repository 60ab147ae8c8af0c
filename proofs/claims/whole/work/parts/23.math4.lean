/-! MATH 4: the relation's words; what one gets -/
def VA (hs T : Nat) (A : Nat → Nat) : Prop := hs ≤ 3 ∧ T ≤ 600 ∧ A 25 ≤ 7 ∧ A 21 < 2 ^ A 25 ∧ A 22 < 2 ^ hs ∧ A 23 < 2 ^ hs ∧ A 24 ≤ T ∧ ∀ c, c < A 25 → A c ≤ 9 + T ∧ A (7 + c) < hs ∧ A (14 + c) ≤ 9 * T ∧ A (26 + c) < 4
def TR (hs : Nat) (wo : Nat → Nat) (A : Nat → Nat) (ho ch li si ih ye : Int32) (wr bi hm ki we : Nat → Int32) : Prop :=
  ho = nI hs ∧ ch = nI (A 25) ∧ li = nI (A 21) ∧ si = nI (A 22) ∧ ih = nI (A 23) ∧ ye = nI (A 24) ∧ (∀ h, h < hs → wr h = nI (wo h)) ∧ CT A bi hm ki ∧ ∀ c, c < A 25 → we c = nI (A (14 + c))
def WO (hs : Nat) (wo : Nat → Nat) : Prop := ∀ h, h < hs → 1 ≤ wo h ∧ wo h ≤ 9
def WM (hs : Nat) (wo : Nat → Nat) (wr : Nat → Int32) : Prop := ∀ h, h < hs → wr h = nI (wo h)
def WE (A : Nat → Nat) (we : Nat → Int32) : Prop := ∀ c, c < A 25 → we c = nI (A (14 + c))
theorem p2_le {n : Nat} (h : n ≤ 7) : 2 ^ n ≤ 128 := Nat.pow_le_pow_right (n := 2) (by decide) h
theorem p2_le3 {n : Nat} (h : n ≤ 3) : 2 ^ n ≤ 8 := Nat.pow_le_pow_right (n := 2) (by decide) h
theorem VA.lt {hs T : Nat} {A : Nat → Nat} (h : VA hs T A) : A 21 < 128 ∧ A 22 < 8 ∧ A 23 < 8 := ⟨Nat.lt_of_lt_of_le h.2.2.2.1 (p2_le h.2.2.1), Nat.lt_of_lt_of_le h.2.2.2.2.1 (p2_le3 h.1), Nat.lt_of_lt_of_le h.2.2.2.2.2.1 (p2_le3 h.1)⟩
theorem VA.bd {hs T : Nat} {A : Nat → Nat} (h : VA hs T A) : BD A := by
  obtain ⟨h1, h2, h3, h4, h5, h6, h7, h8⟩ := h
  refine ⟨h3, by omega, fun c hc => ?_⟩
  have := h8 c hc
  omega
/-- a number of the page put anew -/
def au (A : Nat → Nat) (k v : Nat) : Nat → Nat := fun j => if j = k then v else A j
theorem au_s (A : Nat → Nat) (k v : Nat) : au A k v k = v := if_pos rfl
theorem au_n (A : Nat → Nat) {k j : Nat} (v : Nat) (h : j ≠ k) : au A k v j = A j := if_neg h
theorem PG.au {A : Nat → Nat} {P : Nat → Int32} (h : PG A P) {k : Nat} (v : Nat) : PG (au A k v) (upd P k (nI v)) := by
  intro j hj
  by_cases e : j = k
  · subst e; rw [upd_s, au_s]
  · rw [upd_n e, au_n _ _ e]; exact h j hj
theorem take_l {n : Nat} (hn : n < 500) (g f0 : Nat → Int32) : ∀ (m c fuel : Nat) (f : Nat → Int32), c + m = n → m < fuel → (∀ i, i < c → f i = g i) → ∃ f', f_X1_take_2 n n g fuel f (nI c) = some f' ∧ ∀ i, i < n → f' i = g i := by
  intro m
  induction m with
  | zero =>
    intro c fuel f hc hf h1
    obtain ⟨k, rfl⟩ : ∃ k, fuel = k + 1 := ⟨fuel - 1, by omega⟩
    refine ⟨f, ?_, fun i hi => h1 i (by omega)⟩
    simp only [f_X1_take_2, f_X1_take_2_b]
    rw [if_pos (show Int32.ofNat n ≤ nI c from nI_le (by omega) (by omega))]
  | succ m ih =>
    intro c fuel f hc hf h1
    obtain ⟨k, rfl⟩ : ∃ k, fuel = k + 1 := ⟨fuel - 1, by omega⟩
    simp only [f_X1_take_2, f_X1_take_2_b]
    rw [if_neg (show ¬ Int32.ofNat n ≤ nI c from nI_ge (by omega) (by omega)), get_n (by omega) (by omega), kb1_some, kg_yes (kin_y (by omega) (by omega)), nI_clamp (by omega), nI_1]
    refine ih (c + 1) k _ (by omega) (by omega) (fun i hi => ?_)
    by_cases hic : i = c
    · subst hic; rw [upd_s]
    · rw [upd_n hic]; exact h1 i (by omega)
theorem take_n {n : Nat} (hn : n < 500) (g f0 : Nat → Int32) : ∃ f', f_X1_take n n g f0 = some f' ∧ ∀ i, i < n → f' i = g i := take_l hn g f0 n 0 1000 f0 (by omega) (by omega) (fun i hi => absurd hi (Nat.not_lt_zero i))
theorem take_TR {hs : Nat} {wo A : Nat → Nat} {ho ch li si ih ye : Int32} {wr bi hm ki we : Nat → Int32} (h3 : hs ≤ 3) (h7 : A 25 ≤ 7) (hT : TR hs wo A ho ch li si ih ye wr bi hm ki we) (d1 d2 d3 d4 d5 d6 : Int32) (e1 e2 e3 e4 e5 : Nat → Int32) :
    ∃ wr' bi' hm' ki' we', f_X4_take ho ch li si ih ye wr bi hm ki we d1 d2 d3 d4 d5 d6 e1 e2 e3 e4 e5 = some (ho, ch, li, si, ih, ye, wr', bi', hm', ki', we') ∧ TR hs wo A ho ch li si ih ye wr' bi' hm' ki' we' := by
  obtain ⟨w, a1, b1⟩ := take_n (n := 3) (by decide) wr e1
  obtain ⟨b, a2, b2⟩ := take_n (n := 7) (by decide) bi e2
  obtain ⟨h, a3, b3⟩ := take_n (n := 7) (by decide) hm e3
  obtain ⟨k, a4, b4⟩ := take_n (n := 7) (by decide) ki e4
  obtain ⟨v, a5, b5⟩ := take_n (n := 7) (by decide) we e5
  refine ⟨w, b, h, k, v, ?_, ?_⟩
  · unfold f_X4_take
    rw [a1, kb1_some, a2, kb1_some, a3, kb1_some, a4, kb1_some, a5, kb1_some]
  · obtain ⟨q1, q2, q3, q4, q5, q6, q7, q8, q9⟩ := hT
    refine ⟨q1, q2, q3, q4, q5, q6, fun i hi => by rw [b1 i (by omega)]; exact q7 i hi, fun i hi => ?_, fun i hi => by rw [b5 i (by omega)]; exact q9 i hi⟩
    rw [b3 i (by omega), b4 i (by omega), b2 i (by omega)]
    exact q8 i hi
theorem begin_l {g : Nat → Int32} : ∀ (m c fuel : Nat) (f : Nat → Int32), c + m = 33 → m < fuel → (∀ i, i < c → f i = g i) → ∃ f', f_X6_begin_2 g fuel f (nI c) = some f' ∧ ∀ i, i < 33 → f' i = g i := by
  intro m
  induction m with
  | zero =>
    intro c fuel f hc hf h1
    obtain ⟨k, rfl⟩ : ∃ k, fuel = k + 1 := ⟨fuel - 1, by omega⟩
    refine ⟨f, ?_, fun i hi => h1 i (by omega)⟩
    simp only [f_X6_begin_2, f_X6_begin_2_b, kl0, kl1, kl2, kl3, kl4, kl5, kl6, kl7, kl8, kl9, kl10, kl12, kl13, kl14, kl20, kl21, kl22, kl23, kl24, kl25, kl26, kl30, kl31, kl33, kl48, kl49, kl57, kl65, kl66, kl67, kl72, kl89, kl100, kl128, kl255]
    rw [if_pos (nI_le (by omega) (by omega))]
  | succ m ih =>
    intro c fuel f hc hf h1
    obtain ⟨k, rfl⟩ : ∃ k, fuel = k + 1 := ⟨fuel - 1, by omega⟩
    simp only [f_X6_begin_2, f_X6_begin_2_b, kl0, kl1, kl2, kl3, kl4, kl5, kl6, kl7, kl8, kl9, kl10, kl12, kl13, kl14, kl20, kl21, kl22, kl23, kl24, kl25, kl26, kl30, kl31, kl33, kl48, kl49, kl57, kl65, kl66, kl67, kl72, kl89, kl100, kl128, kl255]
    rw [if_neg (nI_ge (by omega) (by omega)), kg_yes (kin_y (by omega) (by omega)), kg_yes (kin_y (by omega) (by omega)), nI_clamp (by omega), show nI c + nI 1 = nI (c + 1) from nI_1 c]
    refine ih (c + 1) k _ (by omega) (by omega) (fun i hi => ?_)
    by_cases hic : i = c
    · subst hic; rw [upd_s]
    · rw [upd_n hic]; exact h1 i (by omega)
theorem begin_n {A : Nat → Nat} {g : Nat → Int32} (hP : PG A g) (f : Nat → Int32) : ∃ f', f_X6_begin g f = some f' ∧ PG A f' := by
  obtain ⟨f', h1, h2⟩ := begin_l (g := g) 33 0 1000 f (by omega) (by omega) (fun i hi => absurd hi (Nat.not_lt_zero i))
  exact ⟨f', h1, fun k hk => by rw [h2 k hk]; exact hP k hk⟩
/-- what one would get more -/
def ctr (A wo : Nat → Nat) (c : Nat) : Nat := if (A 23).testBit (A (7 + c)) = true then 0 else if (hrN A (A (7 + c))).testBit c = true then wo (A (7 + c)) / pcn (hrN A (A (7 + c))) else 0
def gtS (A wo : Nat → Nat) (c : Nat) : Nat := A (14 + c) + ctr A wo c
theorem tb_ne0 {s i : Nat} (h : s.testBit i = true) : 0 < s := by
  rcases Nat.eq_zero_or_pos s with q | q
  · rw [q, Nat.zero_testBit] at h; cases h
  · exact q
theorem getsOf_rl {A : Nat → Nat} {P mw : Nat → Int32} {hs : Nat} {wo : Nat → Nat} (hB : BD A) (hP : PG A P) (h3 : hs ≤ 3) (hw : WM hs wo mw) (hwo : WO hs wo) (h21 : A 21 < 2 ^ 31) (h22 : A 22 < 2 ^ 31) (h23 : A 23 < 2 ^ 31) {c : Nat} (hc : c < A 25) (hh : A (7 + c) < hs) :
    ∀ (m h fuel : Nat), h + m = hs → m < fuel → f_X6_getsOf_10 (nI hs) mw P (nI c) fuel (nI (A (14 + c) + if A (7 + c) < h then ctr A wo c else 0)) (nI h) = some (nI (gtS A wo c)) := by
  have h7 := hB.1
  intro m
  induction m with
  | zero =>
    intro h fuel hc2 hf
    obtain ⟨k, rfl⟩ : ∃ k, fuel = k + 1 := ⟨fuel - 1, by omega⟩
    simp only [f_X6_getsOf_10, f_X6_getsOf_10_b, kl0, kl1, kl2, kl3, kl4, kl5, kl6, kl7, kl8, kl9, kl10, kl12, kl13, kl14, kl20, kl21, kl22, kl23, kl24, kl25, kl26, kl30, kl31, kl33, kl48, kl49, kl57, kl65, kl66, kl67, kl72, kl89, kl100, kl128, kl255]
    rw [if_pos (nI_le (by omega) (by omega)), if_pos (by omega)]
    rfl
  | succ m ih =>
    intro h fuel hc2 hf
    obtain ⟨k, rfl⟩ : ∃ k, fuel = k + 1 := ⟨fuel - 1, by omega⟩
    have ih := ih (h + 1) k (by omega) (by omega)
    have hl : hrN A h < 128 := hrA_lt A h7 _ _ _
    simp only [f_X6_getsOf_10, f_X6_getsOf_10_b, f_X6_getsOf_41, kl0, kl1, kl2, kl3, kl4, kl5, kl6, kl7, kl8, kl9, kl10, kl12, kl13, kl14, kl20, kl21, kl22, kl23, kl24, kl25, kl26, kl30, kl31, kl33, kl48, kl49, kl57, kl65, kl66, kl67, kl72, kl89, kl100, kl128, kl255]
    rw [if_neg (nI_ge (by omega) (by omega)), hP 23 (by omega), has_n h23 (by omega), kb1_some, ki0, heirsNow_r hB hP (by omega) h22 h21, kb1_some, show nI h + nI 1 = nI (h + 1) from nI_1 h, nI_add, Nat.add_zero]
    cases ht : (A 23).testBit h with
    | true =>
      rw [if_pos rfl, has_n (a := 0) (by decide) (by omega), kb1_some, ki0, Nat.zero_testBit, if_neg (by decide)]
      have e : (if A (7 + c) < h + 1 then ctr A wo c else 0) = (if A (7 + c) < h then ctr A wo c else 0) := by
        by_cases q : A (7 + c) = h
        · have : ctr A wo c = 0 := by unfold ctr; rw [q, ht, if_pos rfl]
          rw [this]; simp
        · by_cases q2 : A (7 + c) < h
          · rw [if_pos (by omega), if_pos q2]
          · rw [if_neg (by omega), if_neg q2]
      rw [e] at ih
      exact ih
    | false =>
      rw [if_neg (by decide), show hrA A h ((A 22).testBit h) (A 21) = hrN A h from rfl, has_n (by omega) (by omega), kb1_some, ki0]
      cases hb : (hrN A h).testBit c with
      | false =>
        rw [if_neg (by decide)]
        have e : (if A (7 + c) < h + 1 then ctr A wo c else 0) = (if A (7 + c) < h then ctr A wo c else 0) := by
          by_cases q : A (7 + c) = h
          · have : ctr A wo c = 0 := by unfold ctr; rw [q, ht, hb]; rfl
            rw [this]; simp
          · by_cases q2 : A (7 + c) < h
            · rw [if_pos (by omega), if_pos q2]
            · rw [if_neg (by omega), if_neg q2]
        rw [e] at ih
        exact ih
      | true =>
        have q : A (7 + c) = h := (hrS_in hb).2.2
        have hp := pcn_pos _ hl (tb_ne0 hb)
        have hpl := pcn_le (hrN A h)
        have hwb := hwo h (by omega)
        rw [if_pos rfl, kg_yes (kin_y (by omega) (by omega)), many_all _ hl, kb1_some, kg_yes (knz_y (by omega) hp), nI_clamp (by omega), hw h (by omega), pk_div (by omega) hp (by omega), nI_add]
        have e : ctr A wo c = wo h / pcn (hrN A h) := by unfold ctr; rw [q, ht, hb]; rfl
        rw [if_pos (by omega), e] at ih
        rw [if_neg (by omega), Nat.add_zero]
        exact ih
theorem getsOf_r {A : Nat → Nat} {P mw : Nat → Int32} {hs : Nat} {wo : Nat → Nat} (hB : BD A) (hP : PG A P) (h3 : hs ≤ 3) (hw : WM hs wo mw) (hwo : WO hs wo) (h21 : A 21 < 2 ^ 31) (h22 : A 22 < 2 ^ 31) (h23 : A 23 < 2 ^ 31) {c : Nat} (hc : c < A 25) (hh : A (7 + c) < hs) :
    f_X6_getsOf (nI hs) mw P (nI c) = some (nI (gtS A wo c)) := by
  have h7 := hB.1
  unfold f_X6_getsOf
  simp only [kl0, kl1, kl2, kl3, kl4, kl5, kl6, kl7, kl8, kl9, kl10, kl12, kl13, kl14, kl20, kl21, kl22, kl23, kl24, kl25, kl26, kl30, kl31, kl33, kl48, kl49, kl57, kl65, kl66, kl67, kl72, kl89, kl100, kl128, kl255]
  rw [nI_add, kg_yes (kin_y (by omega) (by omega)), nI_clamp (by omega), hP (14 + c) (by omega)]
  have := getsOf_rl hB hP h3 hw hwo h21 h22 h23 hc hh hs 0 1000 (by omega) (by omega)
  rw [if_neg (by omega), Nat.add_zero] at this
  exact this
theorem wealth_n {A : Nat → Nat} {wr bi hm ki we : Nat → Int32} {hs : Nat} {wo : Nat → Nat} (hB : BD A) (hT : CT A bi hm ki) (hE : WE A we) (h3 : hs ≤ 3) (hw : WM hs wo wr) (hwo : WO hs wo) (h21 : A 21 < 2 ^ 31) (h22 : A 22 < 2 ^ 31) (h23 : A 23 < 2 ^ 31) {c : Nat} (hc : c < A 25) (hh : A (7 + c) < hs) :
    f_X4_wealthInAll (nI (A 25)) (nI (A 21)) (nI (A 22)) (nI (A 23)) wr bi hm ki we (nI c) = some (nI (gtS A wo c)) := by
  have h7 := hB.1
  have hl : hrN A (A (7 + c)) < 128 := hrA_lt A h7 _ _ _
  unfold f_X4_wealthInAll f_X4_wealthInAll_29
  simp only [kl0, kl1, kl2, kl3, kl4, kl5, kl6, kl7, kl8, kl9, kl10, kl12, kl13, kl14, kl20, kl21, kl22, kl23, kl24, kl25, kl26, kl30, kl31, kl33, kl48, kl49, kl57, kl65, kl66, kl67, kl72, kl89, kl100, kl128, kl255]
  rw [get_n (by decide) (by omega), kb1_some, (hT c hc).1, isIn_n h23 (by omega), kb1_some, ki0]
  unfold gtS ctr
  cases ht : (A 23).testBit (A (7 + c)) with
  | true =>
    rw [if_pos rfl, if_pos rfl, get_n (by decide) (by omega), kb1_some, hE c hc, isIn_n (a := 0) (by decide) (by omega), kb1_some, ki0, Nat.zero_testBit, if_neg (by decide), nI_add]
  | false =>
    have z : ¬ (false = true) := by decide
    rw [if_neg z, if_neg z, heirsOf_c hB hT (by omega) h21 h22, kb1_some, get_n (by decide) (by omega), kb1_some, hE c hc, isIn_n (by omega) (by omega), kb1_some, ki0]
    cases hb : (hrN A (A (7 + c))).testBit c with
    | false => rw [if_neg z, if_neg z, nI_add]
    | true =>
      have hwb := hwo _ hh
      have h0 := tb_ne0 hb
      rw [if_pos rfl, if_pos rfl, partOf_n (by omega) (hw _ hh) (by omega) hl, kb1_some, if_neg (by omega), nI_add]
theorem cmd_gets {A : Nat → Nat} {P mw wr bi hm ki we : Nat → Int32} {hs T : Nat} {wo : Nat → Nat} (hV : VA hs T A) (hwo : WO hs wo) (hT : CT A bi hm ki) (hE : WE A we) (hw : WM hs wo wr) (hP : PG A P) (hmw : WM hs wo mw) (th x : Int32) :
    ∃ r, f_X5_gets (nI (A 25)) (nI (A 21)) (nI (A 22)) (nI (A 23)) wr bi hm ki we x = some r ∧ f_X6_gets (nI hs) mw P th x = some (r, 0) := by
  have h7 := hV.2.2.1
  have hb := hV.lt
  unfold f_X5_gets f_X6_gets
  rw [hasChild_x x (by omega), noChild_x hP x (by omega)]
  simp only [kl0, kl1, kl2, kl3, kl4, kl5, kl6, kl7, kl8, kl9, kl10, kl12, kl13, kl14, kl20, kl21, kl22, kl23, kl24, kl25, kl26, kl30, kl31, kl33, kl48, kl49, kl57, kl65, kl66, kl67, kl72, kl89, kl100, kl128, kl255, kb1_some]
  rw [ki0, ki0]
  rcases inr_cases x (n := A 25) (by omega) with h | ⟨c, hc, rfl⟩
  · rw [h]
    exact ⟨_, rfl, rfl⟩
  · rw [inr_y hc (by omega)]
    have hd := hV.2.2.2.2.2.2.2 c hc
    rw [wealth_n hV.bd hT hE hV.1 hw hwo (by omega) (by omega) (by omega) hc hd.2.1, getsOf_r hV.bd hP hV.1 hmw hwo (by omega) (by omega) (by omega) hc hd.2.1]
    exact ⟨_, rfl, rfl⟩
