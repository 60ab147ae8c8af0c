/-! MATH 23: rests -/
def rst (A wo : Nat → Nat) (c L : Nat) : Nat := if L.testBit c = true then 3 else if (hrA A (A (7 + c)) ((A 22).testBit (A (7 + c))) (adn (A 21) L)).testBit c = true then wo (A (7 + c)) / pcn (hrA A (A (7 + c)) ((A 22).testBit (A (7 + c))) (adn (A 21) L)) else 0
theorem rst_le {A wo : Nat → Nat} {hs c : Nat} (hwo : WO hs wo) (hh : A (7 + c) < hs) (L : Nat) : rst A wo c L ≤ 9 := by
  unfold rst
  split
  · omega
  · split
    · exact Nat.le_trans (Nat.div_le_self _ _) (hwo _ hh).2
    · omega
theorem restOf_n {A : Nat → Nat} {hs T : Nat} {wo : Nat → Nat} {wr bi hm ki : Nat → Int32} (hV : VA hs T A) (hwo : WO hs wo) (hw : WM hs wo wr) (hT : CT A bi hm ki) {c L : Nat} (hc : c < A 25) (hL : L < 128) :
    f_X4_restOf (nI (A 25)) (nI (A 21)) (nI (A 22)) wr bi hm ki (nI c) (nI L) = some (nI (rst A wo c L)) := by
  have h7 := hV.2.2.1
  have h3 := hV.1
  have hl := hV.lt
  have hd := (hV.2.2.2.2.2.2.2 c hc).2.1
  have ha : adn (A 21) L < 2 ^ 7 := adn_lt (show A 21 < 2 ^ 7 by omega)
  have hb := hrA_lt A h7 (A (7 + c)) ((A 22).testBit (A (7 + c))) (adn (A 21) L)
  have hwb := hwo _ hd
  unfold f_X4_restOf rst
  simp only [kl0, kl1, kl2, kl3, kl4, kl5, kl6, kl7, kl8, kl9, kl10, kl12, kl13, kl14, kl20, kl21, kl22, kl23, kl24, kl25, kl26, kl30, kl31, kl33, kl48, kl49, kl57, kl65, kl66, kl67, kl72, kl89, kl100, kl128, kl255]
  rw [isIn_n (by omega) (by omega), kb1_some, ki0, get_n (by decide) (by omega), kb1_some, (hT c hc).1, sideOf_n (by omega) (by omega), kb1_some, k_adn, heirs_c hV.bd hT (by omega) (by omega) _, kb1_some, isIn_n (by omega) (by omega), kb1_some, ki0, partOf_n (by omega) (hw _ hd) (by omega) hb, kb1_some]
  by_cases q : L.testBit c = true
  · rw [if_pos q, if_pos q]
  · rw [if_neg q, if_neg q]
    by_cases w : (hrA A (A (7 + c)) ((A 22).testBit (A (7 + c))) (adn (A 21) L)).testBit c = true
    · have := tb_ne0 w
      rw [if_pos w, if_pos w, if_neg (by omega)]
    · rw [if_neg w, if_neg w]
theorem content_n {A : Nat → Nat} {hs T : Nat} {wo : Nat → Nat} {wr bi hm ki : Nat → Int32} (hV : VA hs T A) (hwo : WO hs wo) (hw : WM hs wo wr) (hT : CT A bi hm ki) {c L : Nat} (hc : c < A 25) (hL : L < 128) :
    f_X4_isContent (nI (A 25)) (nI (A 21)) (nI (A 22)) wr bi hm ki (nI c) (nI L) = some (nI (decide (rst A wo c (L ^^^ 2 ^ c) ≤ rst A wo c L)).toNat) := by
  have h7 := hV.2.2.1
  have hd := (hV.2.2.2.2.2.2.2 c hc).2.1
  have hcc : 2 ^ c < 2 ^ 7 := k_two (by omega)
  have hx : L ^^^ 2 ^ c < 2 ^ 7 := Nat.xor_lt_two_pow (by omega) hcc
  have b1 := rst_le hwo hd L
  have b2 := rst_le hwo hd (L ^^^ 2 ^ c)
  unfold f_X4_isContent
  rw [restOf_n hV hwo hw hT hc hL, kb1_some, bit_n (by omega), kb1_some, k_xor, restOf_n hV hwo hw hT hc hx, kb1_some]
  simp only [kl0, kl1, kl2, kl3, kl4, kl5, kl6, kl7, kl8, kl9, kl10, kl12, kl13, kl14, kl20, kl21, kl22, kl23, kl24, kl25, kl26, kl30, kl31, kl33, kl48, kl49, kl57, kl65, kl66, kl67, kl72, kl89, kl100, kl128, kl255]
  by_cases q : rst A wo c (L ^^^ 2 ^ c) ≤ rst A wo c L
  · rw [if_neg (nI_nlt q (by omega)), decide_eq_true q]; rfl
  · rw [if_pos (nI_lt (by omega) (by omega)), decide_eq_false q]; rfl
/-- who leaves -/
def LV (c o k : Nat) : Nat := (if k / 2 = 0 then 2 ^ c else 0) ||| (if k % 2 = 0 then 2 ^ o else 0)
theorem LV_lt {c o : Nat} (hc : c < 7) (ho : o < 7) (k : Nat) : LV c o k < 128 := by
  have h1 : 2 ^ c < 2 ^ 7 := k_two hc
  have h2 : 2 ^ o < 2 ^ 7 := k_two ho
  unfold LV
  refine Nat.or_lt_two_pow (n := 7) ?_ ?_
  · split <;> omega
  · split <;> omega
theorem tb0 {c i : Nat} (p : Prop) [Decidable p] : (if p then 2 ^ c else 0).testBit i = (decide p && decide (c = i)) := by
  by_cases h : p
  · rw [if_pos h, decide_eq_true h, Nat.testBit_two_pow]; rfl
  · rw [if_neg h, decide_eq_false h, Nat.zero_testBit]; rfl
theorem LV_tb (c o k i : Nat) : (LV c o k).testBit i = ((decide (k / 2 = 0) && decide (c = i)) || (decide (k % 2 = 0) && decide (o = i))) := by
  unfold LV
  rw [Nat.testBit_or, tb0, tb0]
theorem LV_2a : ∀ k, k < 4 → ∀ c, c < 7 → ∀ o, o < 7 → (LV c o (k ^^^ 2) = LV c o k ^^^ 2 ^ c ∧ LV c o (k ^^^ 1) = LV c o k ^^^ 2 ^ o) ∨ c = o := by decide +kernel
theorem LV_2b : ∀ k, k < 4 → ∀ c, c < 7 → ∀ o, o < 7 → ((LV c o k).testBit c = decide (k / 2 = 0) ∧ (LV c o k).testBit o = decide (k % 2 = 0)) ∨ c = o := by decide +kernel
theorem LV_2c : ∀ k, k < 4 → k ^^^ 2 < 4 ∧ k ^^^ 1 < 4 := by decide +kernel
theorem LV_2 (c : Nat) (hc : c < 7) (o : Nat) (ho : o < 7) (hne : c ≠ o) (k : Nat) (hk : k < 4) : LV c o (k ^^^ 2) = LV c o k ^^^ 2 ^ c ∧ LV c o (k ^^^ 1) = LV c o k ^^^ 2 ^ o ∧ (LV c o k).testBit c = decide (k / 2 = 0) ∧ (LV c o k).testBit o = decide (k % 2 = 0) ∧ k ^^^ 2 < 4 ∧ k ^^^ 1 < 4 := by
  have a := (LV_2a k hk c hc o ho).resolve_right hne
  have b := (LV_2b k hk c hc o ho).resolve_right hne
  exact ⟨a.1, a.2, b.1, b.2, LV_2c k hk⟩
theorem adn_adn (t a b : Nat) : adn (adn t a) b = adn t (a ||| b) := tb_ext (fun i => by
  rw [adn_tb, adn_tb, adn_tb, Nat.testBit_or]
  cases t.testBit i <;> cases a.testBit i <;> cases b.testBit i <;> rfl)
def rq (ok : Nat → Bool) : Nat → Nat × Int32
  | 0 => (0, -nI 9)
  | k + 1 => if ok k = true then ((rq ok k).1 + 1, if (rq ok k).1 = 0 then nI (10 * (k / 2) + k % 2) else (rq ok k).2) else rq ok k
theorem rq_s (ok : Nat → Bool) (k : Nat) : rq ok (k + 1) = if ok k = true then ((rq ok k).1 + 1, if (rq ok k).1 = 0 then nI (10 * (k / 2) + k % 2) else (rq ok k).2) else rq ok k := rfl
theorem rq_le (ok : Nat → Bool) : ∀ k, (rq ok k).1 ≤ k
  | 0 => Nat.le_refl _
  | k + 1 => by
    have := rq_le ok k
    rw [rq_s]
    split
    · show (rq ok k).1 + 1 ≤ k + 1; omega
    · omega
def okR (A wo : Nat → Nat) (c o k : Nat) : Bool := decide (rst A wo c (LV c o (k ^^^ 2)) ≤ rst A wo c (LV c o k)) && decide (rst A wo o (LV c o (k ^^^ 1)) ≤ rst A wo o (LV c o k))
theorem k22 {k : Nat} (hk : k < 4) : (k / 2 = 0 ∨ k / 2 = 1) ∧ (k % 2 = 0 ∨ k % 2 = 1) := by omega
theorem rests_cl {A : Nat → Nat} {hs T : Nat} {wo : Nat → Nat} {wr bi hm ki : Nat → Int32} {x3 : Int32} (hV : VA hs T A) (hwo : WO hs wo) (hw : WM hs wo wr) (hT : CT A bi hm ki) {c o : Nat} (hc : c < A 25) (ho : o < A 25) (hne : c ≠ o) :
    ∀ (m k fuel : Nat), k + m = 4 → m < fuel → f_X5_rests_104 (nI (A 25)) (nI (A 21)) (nI (A 22)) wr bi hm ki (nI c) (nI o) x3 fuel (nI (rq (okR A wo c o) k).1) (rq (okR A wo c o) k).2 (nI k) = if x3 = nI 0 then some (nI (rq (okR A wo c o) 4).1) else some (rq (okR A wo c o) 4).2 := by
  have h7 := hV.2.2.1
  intro m
  induction m with
  | zero =>
    intro k fuel hk hf
    obtain ⟨d, rfl⟩ : ∃ d, fuel = d + 1 := ⟨fuel - 1, by omega⟩
    have e : k = 4 := by omega
    subst e
    simp only [f_X5_rests_104, f_X5_rests_104_b, kl0, kl1, kl2, kl3, kl4, kl5, kl6, kl7, kl8, kl9, kl10, kl12, kl13, kl14, kl20, kl21, kl22, kl23, kl24, kl25, kl26, kl30, kl31, kl33, kl48, kl49, kl57, kl65, kl66, kl67, kl72, kl89, kl100, kl128, kl255]
    rw [if_pos (nI_le (Nat.le_refl _) (by omega))]
  | succ m ih =>
    intro k fuel hk hf
    obtain ⟨d, rfl⟩ : ∃ d, fuel = d + 1 := ⟨fuel - 1, by omega⟩
    have ih := ih (k + 1) d (by omega) (by omega)
    obtain ⟨l1, l2, -, -, -, -⟩ := LV_2 c (by omega) o (by omega) hne k (by omega)
    have hL := LV_lt (c := c) (o := o) (by omega) (by omega) k
    have hq := rq_le (okR A wo c o) k
    have step : f_X5_rests_104 (nI (A 25)) (nI (A 21)) (nI (A 22)) wr bi hm ki (nI c) (nI o) x3 (d + 1) (nI (rq (okR A wo c o) k).1) (rq (okR A wo c o) k).2 (nI k) = f_X5_rests_148 (nI (A 25)) (nI (A 21)) (nI (A 22)) wr bi hm ki (nI c) (nI o) x3 (f_X5_rests_104 (nI (A 25)) (nI (A 21)) (nI (A 22)) wr bi hm ki (nI c) (nI o) x3 d) (nI (rq (okR A wo c o) k).1) (rq (okR A wo c o) k).2 (nI k) (nI (k / 2)) (nI (k % 2)) (nI (if k / 2 = 0 then 2 ^ c else 0)) (nI (if k % 2 = 0 then 2 ^ o else 0)) := by
      show f_X5_rests_104_b _ _ _ _ _ _ _ _ _ _ _ _ _ _ = _
      simp only [f_X5_rests_104_b, f_X5_rests_135, kl0, kl1, kl2, kl3, kl4, kl5, kl6, kl7, kl8, kl9, kl10, kl12, kl13, kl14, kl20, kl21, kl22, kl23, kl24, kl25, kl26, kl30, kl31, kl33, kl48, kl49, kl57, kl65, kl66, kl67, kl72, kl89, kl100, kl128, kl255]
      rw [if_neg (nI_ge (by omega) (by omega)), k_mod (by omega) (by omega) (by omega), k_div (by omega) (by omega) (by omega), bit_n (by omega), kb1_some, bit_n (by omega), kb1_some]
      obtain ⟨a | a, b | b⟩ := k22 (k := k) (by omega)
      · rw [a, b]; rfl
      · rw [a, b]; rfl
      · rw [a, b]; rfl
      · rw [a, b]; rfl
    rw [step]
    unfold f_X5_rests_148
    simp only [kl0, kl1, kl2, kl3, kl4, kl5, kl6, kl7, kl8, kl9, kl10, kl12, kl13, kl14, kl20, kl21, kl22, kl23, kl24, kl25, kl26, kl30, kl31, kl33, kl48, kl49, kl57, kl65, kl66, kl67, kl72, kl89, kl100, kl128, kl255]
    rw [k_or, show (if k / 2 = 0 then 2 ^ c else 0) ||| (if k % 2 = 0 then 2 ^ o else 0) = LV c o k from rfl, content_n hV hwo hw hT hc hL, content_n hV hwo hw hT ho hL, kb1_some, ki0, kb1_some, ki0, ← l1, ← l2, k_s1, k_s1, k_mul, nI_add]
    rw [rq_s] at ih
    by_cases q1 : rst A wo c (LV c o (k ^^^ 2)) ≤ rst A wo c (LV c o k)
    · rw [decide_eq_true q1, if_pos rfl]
      by_cases q2 : rst A wo o (LV c o (k ^^^ 1)) ≤ rst A wo o (LV c o k)
      · have ok : okR A wo c o k = true := by unfold okR; rw [decide_eq_true q1, decide_eq_true q2]; rfl
        rw [decide_eq_true q2, if_pos rfl]
        rw [if_pos ok] at ih
        dsimp only at ih
        by_cases z : (rq (okR A wo c o) k).1 = 0
        · rw [if_pos z] at ih
          rw [if_pos (congrArg nI z)]
          exact ih
        · rw [if_neg z] at ih
          rw [if_neg (fun y => z ((nI_eq (by omega) (by omega)).1 y))]
          exact ih
      · have ok : ¬ okR A wo c o k = true := by unfold okR; rw [decide_eq_false q2, Bool.and_false]; exact Bool.false_ne_true
        rw [decide_eq_false q2, if_neg Bool.false_ne_true]
        rw [if_neg ok] at ih
        exact ih
    · have ok : ¬ okR A wo c o k = true := by unfold okR; rw [decide_eq_false q1, Bool.false_and]; exact Bool.false_ne_true
      rw [decide_eq_false q1, if_neg Bool.false_ne_true]
      rw [if_neg ok] at ih
      exact ih
theorem gain_n {A : Nat → Nat} {hs T : Nat} {wo : Nat → Nat} {P mw : Nat → Int32} (hV : VA hs T A) (hwo : WO hs wo) (hmw : WM hs wo mw) (hP : PG A P) {c L : Nat} (hc : c < A 25) (hL : L < 128) {b : Nat} (hb : b < 2) (hbL : L.testBit c = decide (b = 0)) :
    f_X6_gainOf mw P (nI c) (nI (A (7 + c))) (nI (adn (A 21) L)) (nI b) = some (nI (rst A wo c L)) := by
  have h7 := hV.2.2.1
  have h3 := hV.1
  have hl := hV.lt
  have hd := (hV.2.2.2.2.2.2.2 c hc).2.1
  have ha : adn (A 21) L < 2 ^ 7 := adn_lt (show A 21 < 2 ^ 7 by omega)
  have hb2 := hrA_lt A h7 (A (7 + c)) ((A 22).testBit (A (7 + c))) (adn (A 21) L)
  have hwb := hwo _ hd
  unfold f_X6_gainOf rst
  simp only [kl0, kl1, kl2, kl3, kl4, kl5, kl6, kl7, kl8, kl9, kl10, kl12, kl13, kl14, kl20, kl21, kl22, kl23, kl24, kl25, kl26, kl30, kl31, kl33, kl48, kl49, kl57, kl65, kl66, kl67, kl72, kl89, kl100, kl128, kl255]
  rw [hP 22 (by omega), k_shr (by omega) (by omega), k_and, k_bit, heirs_r hV.bd hP (by omega) (by omega) _, kb1_some, has_n (by omega) (by omega), kb1_some, ki0, hbL]
  by_cases q : b = 0
  · rw [if_pos (congrArg nI q), decide_eq_true q, if_pos rfl]
  · rw [if_neg (fun z => q ((nI_eq (by omega) (by omega)).1 z)), decide_eq_false q, if_neg Bool.false_ne_true]
    by_cases w : (hrA A (A (7 + c)) ((A 22).testBit (A (7 + c))) (adn (A 21) L)).testBit c = true
    · have hp := pcn_pos _ hb2 (tb_ne0 w)
      have hpl := pcn_le (hrA A (A (7 + c)) ((A 22).testBit (A (7 + c))) (adn (A 21) L))
      rw [if_pos w, if_pos w, kg_yes (kin_y (by omega) (by omega)), many_all _ hb2, kb1_some, kg_yes (knz_y (by omega) hp), nI_clamp (by omega), hmw _ hd, pk_div (by omega) hp (by omega)]
    · rw [if_neg w, if_neg w]
theorem find13_l {A : Nat → Nat} {hs T : Nat} {wo : Nat → Nat} {P mw : Nat → Int32} {rm rf : Int32} (hV : VA hs T A) (hwo : WO hs wo) (hmw : WM hs wo mw) (hP : PG A P) {c o : Nat} (hc : c < A 25) (ho : o < A 25) (hne : c ≠ o) (hh : A (7 + o) = A (7 + c)) :
    ∀ (m k fuel : Nat) (g : Nat → Int32), k + m = 4 → m < fuel → (∀ j, j < k → g (2 * j) = nI (rst A wo c (LV c o j)) ∧ g (2 * j + 1) = nI (rst A wo o (LV c o j))) →
    ∃ g', f_X6_findRests_13 mw P (nI c) (nI o) fuel rm rf g (nI (A (7 + c))) (nI k) = f_X6_findRests_144 mw P (nI c) (nI o) 1000 (nI 0) (-nI 9) g' (nI 0) ∧ ∀ j, j < 4 → g' (2 * j) = nI (rst A wo c (LV c o j)) ∧ g' (2 * j + 1) = nI (rst A wo o (LV c o j)) := by
  have h7 := hV.2.2.1
  have hl := hV.lt
  intro m
  induction m with
  | zero =>
    intro k fuel g hk hf h1
    obtain ⟨d, rfl⟩ : ∃ d, fuel = d + 1 := ⟨fuel - 1, by omega⟩
    have e : k = 4 := by omega
    subst e
    refine ⟨g, ?_, h1⟩
    show f_X6_findRests_13_b _ _ _ _ _ _ _ _ _ _ = _
    unfold f_X6_findRests_13_b
    simp only [kl0, kl1, kl2, kl3, kl4, kl5, kl6, kl7, kl8, kl9, kl10, kl12, kl13, kl14, kl20, kl21, kl22, kl23, kl24, kl25, kl26, kl30, kl31, kl33, kl48, kl49, kl57, kl65, kl66, kl67, kl72, kl89, kl100, kl128, kl255]
    rw [if_pos (nI_le (Nat.le_refl _) (by omega))]
  | succ m ih =>
    intro k fuel g hk hf h1
    obtain ⟨d, rfl⟩ : ∃ d, fuel = d + 1 := ⟨fuel - 1, by omega⟩
    obtain ⟨-, -, l3, l4, -, -⟩ := LV_2 c (by omega) o (by omega) hne k (by omega)
    have hL := LV_lt (c := c) (o := o) (by omega) (by omega) k
    have hk2 := k22 (k := k) (by omega)
    have g1 := gain_n (P := P) (mw := mw) hV hwo hmw hP hc hL (b := k / 2) (by omega) l3
    have g2 := gain_n (P := P) (mw := mw) hV hwo hmw hP ho hL (b := k % 2) (by omega) l4
    rw [hh] at g2
    obtain ⟨g', e1, e2⟩ := ih (k + 1) d (upd (upd g (2 * k) (nI (rst A wo c (LV c o k)))) (2 * k + 1) (nI (rst A wo o (LV c o k)))) (by omega) (by omega) (fun j hj => by
      by_cases q : j = k
      · subst q; rw [upd_n (by omega), upd_s, upd_s]; exact ⟨rfl, rfl⟩
      · rw [upd_n (by omega), upd_n (by omega), upd_n (by omega), upd_n (by omega)]; exact h1 j (by omega))
    refine ⟨g', ?_, e2⟩
    rw [← e1]
    have eL : adn (adn (A 21) (if k / 2 = 0 then 2 ^ c else 0)) (if k % 2 = 0 then 2 ^ o else 0) = adn (A 21) (LV c o k) := adn_adn _ _ _
    have step : f_X6_findRests_13 mw P (nI c) (nI o) (d + 1) rm rf g (nI (A (7 + c))) (nI k) = f_X6_findRests_88 mw P (nI c) (nI o) (f_X6_findRests_13 mw P (nI c) (nI o) d) rm rf g (nI (A (7 + c))) (nI k) (nI (adn (A 21) (LV c o k))) (nI (2 * k)) (nI c) (nI (A (7 + c))) (nI (adn (A 21) (LV c o k))) (nI (k / 2)) := by
      show f_X6_findRests_13_b _ _ _ _ _ _ _ _ _ _ = _
      simp only [f_X6_findRests_13_b, f_X6_findRests_40, f_X6_findRests_57, kl0, kl1, kl2, kl3, kl4, kl5, kl6, kl7, kl8, kl9, kl10, kl12, kl13, kl14, kl20, kl21, kl22, kl23, kl24, kl25, kl26, kl30, kl31, kl33, kl48, kl49, kl57, kl65, kl66, kl67, kl72, kl89, kl100, kl128, kl255]
      rw [if_neg (nI_ge (by omega) (by omega)), k_mod (by omega) (by omega) (by omega), k_div (by omega) (by omega) (by omega), hP 21 (by omega), k_sh1 (by omega), k_sh1 (by omega), k_mul, k_adn, k_adn, k_adn, k_adn, k_adn, k_adn, ← eL]
      obtain ⟨a | a, b | b⟩ := hk2
      · rw [a, b]; rfl
      · rw [a, b]; rfl
      · rw [a, b]; rfl
      · rw [a, b]; rfl
    rw [step]
    simp only [f_X6_findRests_88, f_X6_findRests_120, kl0, kl1, kl2, kl3, kl4, kl5, kl6, kl7, kl8, kl9, kl10, kl12, kl13, kl14, kl20, kl21, kl22, kl23, kl24, kl25, kl26, kl30, kl31, kl33, kl48, kl49, kl57, kl65, kl66, kl67, kl72, kl89, kl100, kl128, kl255]
    rw [g1, kb1_some, kg_yes (kin_y (by omega) (by omega)), k_mod (by omega) (by omega) (by omega), nI_clamp (by omega), k_mul, nI_add, k_s1]
    have fin : kb1 (f_X6_gainOf mw P (nI o) (nI (A (7 + c))) (nI (adn (A 21) (LV c o k))) (nI (k % 2))) (fun u11 => kg (kin (nI (2 * k + 1)) 8) (f_X6_findRests_13 mw P (nI c) (nI o) d rm rf (upd (upd g (2 * k) (nI (rst A wo c (LV c o k)))) ((nI (2 * k + 1)).toNatClampNeg) u11) (nI (A (7 + c))) (nI (k + 1)))) = f_X6_findRests_13 mw P (nI c) (nI o) d rm rf (upd (upd g (2 * k) (nI (rst A wo c (LV c o k)))) (2 * k + 1) (nI (rst A wo o (LV c o k)))) (nI (A (7 + c))) (nI (k + 1)) := by
      rw [g2, kb1_some, kg_yes (kin_y (by omega) (by omega)), nI_clamp (by omega)]
    rw [← fin]
    obtain ⟨-, b | b⟩ := hk2
    · rw [b]; rfl
    · rw [b]; rfl
theorem find144_l {A : Nat → Nat} {hs T : Nat} {wo : Nat → Nat} {P mw g : Nat → Int32} (hV : VA hs T A) (hwo : WO hs wo) {c o : Nat} (hc : c < A 25) (ho : o < A 25) (hne : c ≠ o) (hg : ∀ j, j < 4 → g (2 * j) = nI (rst A wo c (LV c o j)) ∧ g (2 * j + 1) = nI (rst A wo o (LV c o j))) :
    ∀ (m k fuel : Nat), k + m = 4 → m < fuel → f_X6_findRests_144 mw P (nI c) (nI o) fuel (nI (rq (okR A wo c o) k).1) (rq (okR A wo c o) k).2 g (nI k) = some (nI (rq (okR A wo c o) 4).1, (rq (okR A wo c o) 4).2, g) := by
  have h7 := hV.2.2.1
  intro m
  induction m with
  | zero =>
    intro k fuel hk hf
    obtain ⟨d, rfl⟩ : ∃ d, fuel = d + 1 := ⟨fuel - 1, by omega⟩
    have e : k = 4 := by omega
    subst e
    simp only [f_X6_findRests_144, f_X6_findRests_144_b, kl0, kl1, kl2, kl3, kl4, kl5, kl6, kl7, kl8, kl9, kl10, kl12, kl13, kl14, kl20, kl21, kl22, kl23, kl24, kl25, kl26, kl30, kl31, kl33, kl48, kl49, kl57, kl65, kl66, kl67, kl72, kl89, kl100, kl128, kl255]
    rw [if_pos (nI_le (Nat.le_refl _) (by omega))]
  | succ m ih =>
    intro k fuel hk hf
    obtain ⟨d, rfl⟩ : ∃ d, fuel = d + 1 := ⟨fuel - 1, by omega⟩
    have ih := ih (k + 1) d (by omega) (by omega)
    obtain ⟨-, -, -, -, l5, l6⟩ := LV_2 c (by omega) o (by omega) hne k (by omega)
    have hq := rq_le (okR A wo c o) k
    have b1 := fun L => rst_le hwo (hV.2.2.2.2.2.2.2 c hc).2.1 L
    have b2 := fun L => rst_le hwo (hV.2.2.2.2.2.2.2 o ho).2.1 L
    have c1 := b1 (LV c o k)
    have c2 := b1 (LV c o (k ^^^ 2))
    have c3 := b2 (LV c o k)
    have c4 := b2 (LV c o (k ^^^ 1))
    have n10 : (nI 1 = nI 0) = False := propext ⟨fun h => absurd h (by decide), False.elim⟩
    rw [rq_s] at ih
    show f_X6_findRests_144_b _ _ _ _ _ _ _ _ _ = _
    simp only [f_X6_findRests_144_b, f_X6_findRests_205, f_X6_findRests_235, f_X6_findRests_239, f_X6_findRests_257, kl0, kl1, kl2, kl3, kl4, kl5, kl6, kl7, kl8, kl9, kl10, kl12, kl13, kl14, kl20, kl21, kl22, kl23, kl24, kl25, kl26, kl30, kl31, kl33, kl48, kl49, kl57, kl65, kl66, kl67, kl72, kl89, kl100, kl128, kl255, if_true, n10, if_false]
    rw [if_neg (nI_ge (by omega) (by omega)), k_mod (by omega) (by omega) (by omega), k_div (by omega) (by omega) (by omega), k_xor, k_xor, k_mul, k_mul, k_mul, k_mul, k_s1, k_s1, k_s1, k_s1, nI_add, nI_add, Nat.add_zero, kg_yes (kin_y (by omega) (by omega)), kg_yes (kin_y (by omega) (by omega)), kg_yes (kin_y (by omega) (by omega)), kg_yes (kin_y (by omega) (by omega)), nI_clamp (by omega), nI_clamp (by omega), nI_clamp (by omega), nI_clamp (by omega), (hg k (by omega)).1, (hg k (by omega)).2, (hg _ l5).1, (hg _ l6).2]
    by_cases q1 : rst A wo c (LV c o (k ^^^ 2)) ≤ rst A wo c (LV c o k)
    · rw [if_neg (nI_nlt q1 (by omega))]
      by_cases q2 : rst A wo o (LV c o (k ^^^ 1)) ≤ rst A wo o (LV c o k)
      · have ok : okR A wo c o k = true := by unfold okR; rw [decide_eq_true q1, decide_eq_true q2]; rfl
        rw [if_neg (nI_nlt q2 (by omega))]
        rw [if_pos ok] at ih
        dsimp only at ih
        by_cases z : (rq (okR A wo c o) k).1 = 0
        · rw [if_pos z] at ih
          rw [if_pos (congrArg nI z)]
          exact ih
        · rw [if_neg z] at ih
          rw [if_neg (fun y => z ((nI_eq (by omega) (by omega)).1 y))]
          exact ih
      · have ok : ¬ okR A wo c o k = true := by unfold okR; rw [decide_eq_false q2, Bool.and_false]; exact Bool.false_ne_true
        rw [if_pos (nI_lt (by omega) (by omega))]
        rw [if_neg ok] at ih
        exact ih
    · have ok : ¬ okR A wo c o k = true := by unfold okR; rw [decide_eq_false q1, Bool.false_and]; exact Bool.false_ne_true
      rw [if_pos (nI_lt (by omega) (by omega))]
      rw [if_neg ok] at ih
      exact ih
theorem cmd_rests {hs T na : Nat} {wo : Nat → Nat} {ho ch li si ih ye : Int32} {wr bi hm ki we wt wh bf P bk mw : Nat → Int32} (hS : ST hs T wo na ho ch li si ih ye wr bi hm ki we wt wh bf P bk) (hwo : WO hs wo) (hmw : WM hs wo mw) (th rm rf : Int32) (gn : Nat → Int32) (x y z : Int32) :
    ∃ r th' rm' rf' gn', f_X5_rests ch li si wr bi hm ki x y z = some r ∧ f_X6_rests mw P th rm rf gn x y z = some (r, th', rm', rf', gn') := by
  obtain ⟨A, hV, hTR, hP, hA⟩ := hS
  have h7 := hV.2.2.1
  have h3 := hV.1
  have hl := hV.lt
  obtain ⟨-, rfl, rfl, rfl, -, -, q7, q8, -⟩ := hTR
  unfold f_X5_rests f_X6_rests
  rw [hasChild_x x (by omega), noChild_x hP x (by omega), in_k z (n := 2) (u := 1) (by decide)]
  simp only [kl0, kl1, kl2, kl3, kl4, kl5, kl6, kl7, kl8, kl9, kl10, kl12, kl13, kl14, kl20, kl21, kl22, kl23, kl24, kl25, kl26, kl30, kl31, kl33, kl48, kl49, kl57, kl65, kl66, kl67, kl72, kl89, kl100, kl128, kl255]
  rw [kb1_some, kb1_some, ki0, ki0, kb1_some, ki0, rng z (by omega)]
  rcases inr_cases x (n := A 25) (by omega) with h | ⟨c, hc, rfl⟩
  · rw [h]
    exact ⟨_, _, _, _, _, rfl, rfl⟩
  · rw [inr_y hc (by omega), if_pos rfl, if_neg (show ¬ ((!true) = true) by decide), hasChild_x y (by omega), noChild_x hP y (by omega), kb1_some, kb1_some, ki0, ki0]
    rcases inr_cases y (n := A 25) (by omega) with h | ⟨o, ho, rfl⟩
    · rw [h]
      exact ⟨_, _, _, _, _, rfl, rfl⟩
    · rw [inr_y ho (by omega), if_pos rfl, if_neg (show ¬ ((!true) = true) by decide)]
      by_cases hne : c = o
      · subst hne
        rw [if_pos rfl, if_pos rfl]
        exact ⟨_, _, _, _, _, rfl, rfl⟩
      · have hn2 : ¬ nI c = nI o := fun w => hne ((nI_eq (by omega) (by omega)).1 w)
        rw [if_neg hn2, if_neg hn2]
        rcases inr_cases z (n := 2) (by omega) with h | ⟨w, hw, rfl⟩
        · rw [h]
          exact ⟨_, _, _, _, _, rfl, rfl⟩
        · rw [inr_y hw (by omega), if_pos rfl, if_pos rfl, isAlive_n h7 (by omega) hc, kb1_some, ki0, isAlive_n h7 (by omega) ho, kb1_some, ki0, hP 21 (by omega), has_n (by omega) (by omega), kb1_some, ki0, has_n (by omega) (by omega), kb1_some, ki0]
          by_cases b1 : (A 21).testBit c = true
          · rw [if_pos b1, if_pos b1]
            by_cases b2 : (A 21).testBit o = true
            · have d1 := (hV.2.2.2.2.2.2.2 c hc).2.1
              have d2 := (hV.2.2.2.2.2.2.2 o ho).2.1
              rw [if_pos b2, if_pos b2, get_n (by decide) (by omega), kb1_some, get_n (by decide) (by omega), kb1_some, (q8 c hc).1, (q8 o ho).1, nI_add, nI_add, kg_yes (kin_y (by omega) (by omega)), kg_yes (kin_y (by omega) (by omega)), nI_clamp (show 7 + c < 2 ^ 31 by omega), nI_clamp (show 7 + o < 2 ^ 31 by omega), hP (7 + c) (by omega), hP (7 + o) (by omega)]
              by_cases e : A (7 + c) = A (7 + o)
              · have a1 := rests_cl (x3 := nI w) hV hwo q7 q8 hc ho hne 4 0 1000 (by omega) (by omega)
                obtain ⟨g', a2, a3⟩ := find13_l (P := P) (rm := rm) (rf := rf) hV hwo hmw hP hc ho hne e.symm 4 0 1000 gn (by omega) (by omega) (fun j hj => by omega)
                have a4 := find144_l (P := P) (mw := mw) hV hwo hc ho hne a3 4 0 1000 (by omega) (by omega)
                rw [show (rq (okR A wo c o) 0).1 = 0 from rfl, show (rq (okR A wo c o) 0).2 = -nI 9 from rfl] at a1 a4
                unfold f_X6_findRests
                simp only [kl0, kl1, kl2, kl3, kl4, kl5, kl6, kl7, kl8, kl9, kl10, kl12, kl13, kl14, kl20, kl21, kl22, kl23, kl24, kl25, kl26, kl30, kl31, kl33, kl48, kl49, kl57, kl65, kl66, kl67, kl72, kl89, kl100, kl128, kl255]
                rw [if_pos (congrArg nI e), if_pos (congrArg nI e), a1, nI_add, kg_yes (kin_y (by omega) (by omega)), nI_clamp (show 7 + c < 2 ^ 31 by omega), hP (7 + c) (by omega), a2, a4, kb1_some]
                dsimp only
                by_cases e0 : nI w = nI 0
                · rw [if_pos e0, if_pos e0]
                  exact ⟨_, _, _, _, _, rfl, rfl⟩
                · rw [if_neg e0, if_neg e0]
                  exact ⟨_, _, _, _, _, rfl, rfl⟩
              · have e' : ¬ nI (A (7 + c)) = nI (A (7 + o)) := fun w => e ((nI_eq (by omega) (by omega)).1 w)
                rw [if_neg e', if_neg e']
                exact ⟨_, _, _, _, _, rfl, rfl⟩
            · rw [if_neg b2, if_neg b2]
              exact ⟨_, _, _, _, _, rfl, rfl⟩
          · rw [if_neg b1, if_neg b1]
            exact ⟨_, _, _, _, _, rfl, rfl⟩
