/-! MATH 24: odds: sums over the sets of those who live -/
def sm (f : Nat → Nat) : Nat → Nat
  | 0 => 0
  | k + 1 => sm f k + f k
theorem sm_s (f : Nat → Nat) (k : Nat) : sm f (k + 1) = sm f k + f k := rfl
theorem sm_congr {f g : Nat → Nat} : ∀ {n : Nat}, (∀ i, i < n → f i = g i) → sm f n = sm g n
  | 0, _ => rfl
  | n + 1, h => by rw [sm_s, sm_s, sm_congr (fun i hi => h i (by omega)), h n (by omega)]
theorem sm_add (f : Nat → Nat) (n : Nat) : ∀ m, sm f (n + m) = sm f n + sm (fun i => f (n + i)) m
  | 0 => rfl
  | m + 1 => by
    show sm f ((n + m) + 1) = _
    rw [sm_s, sm_s, sm_add f n m, Nat.add_assoc]
theorem sm_mul (f : Nat → Nat) (x : Nat) : ∀ n, sm (fun i => x * f i) n = x * sm f n
  | 0 => rfl
  | n + 1 => by rw [sm_s, sm_s, sm_mul f x n, Nat.mul_add]
theorem sm_0 {f : Nat → Nat} : ∀ {n : Nat}, (∀ i, i < n → f i = 0) → sm f n = 0
  | 0, _ => rfl
  | n + 1, h => by rw [sm_s, sm_0 (fun i hi => h i (by omega)), h n (by omega)]
theorem sm_le {f : Nat → Nat} {M : Nat} (h : ∀ i, f i ≤ M) : ∀ n, sm f n ≤ M * n
  | 0 => Nat.zero_le _
  | n + 1 => by
    have := sm_le h n
    have := h n
    rw [sm_s, Nat.mul_succ]
    omega
def wtT (T x y : Nat) : Nat → Nat → Nat
  | 0, _ => 1
  | k + 1, s => wtT T x y k s * (if T.testBit k = true then (if s.testBit k = true then y else x) else 1)
theorem wtT_s (T x y k s : Nat) : wtT T x y (k + 1) s = wtT T x y k s * (if T.testBit k = true then (if s.testBit k = true then y else x) else 1) := rfl
theorem wtT_congr {T x y s r : Nat} : ∀ {k : Nat}, (∀ i, i < k → s.testBit i = r.testBit i) → wtT T x y k s = wtT T x y k r
  | 0, _ => rfl
  | k + 1, h => by rw [wtT_s, wtT_s, wtT_congr (fun i hi => h i (by omega)), h k (by omega)]
def RRx (T B x y : Nat) (p : Nat → Bool) : Nat → Nat → Nat
  | 0, a => (p (a &&& B)).toNat
  | k + 1, a => if T.testBit k = true then x * RRx T B x y p k a + y * RRx T B x y p k (a ||| 2 ^ k) else RRx T B x y p k a
theorem RRx_s (T B x y : Nat) (p : Nat → Bool) (k a : Nat) : RRx T B x y p (k + 1) a = if T.testBit k = true then x * RRx T B x y p k a + y * RRx T B x y p k (a ||| 2 ^ k) else RRx T B x y p k a := rfl
theorem hi_or {k s : Nat} (h : s < 2 ^ k) : 2 ^ k + s = s ||| 2 ^ k := by
  have := Nat.two_pow_add_eq_or_of_lt h 1
  rw [Nat.mul_one] at this
  rw [this, Nat.or_comm]
def tmF (T B x y : Nat) (p : Nat → Bool) (k a s : Nat) : Nat := if adn s T = 0 ∧ p ((a ||| s) &&& B) = true then wtT T x y k s else 0
theorem flat (T B x y : Nat) (p : Nat → Bool) : ∀ k a, sm (tmF T B x y p k a) (2 ^ k) = RRx T B x y p k a
  | 0, a => by
    show 0 + tmF T B x y p 0 a 0 = (p (a &&& B)).toNat
    unfold tmF
    rw [Nat.or_zero, Nat.zero_add]
    have z : adn 0 T = 0 := adn_0.2 (fun i h => by rw [Nat.zero_testBit] at h; cases h)
    cases p (a &&& B) with
    | true => rw [if_pos ⟨z, rfl⟩]; rfl
    | false => rw [if_neg (fun w => by cases w.2)]; rfl
  | k + 1, a => by
    rw [Nat.pow_succ, Nat.mul_two, sm_add, RRx_s]
    by_cases hT : T.testBit k = true
    · rw [if_pos hT, ← flat T B x y p k a, ← flat T B x y p k (a ||| 2 ^ k), ← sm_mul, ← sm_mul]
      congr 1
      · refine sm_congr (fun s hs => ?_)
        unfold tmF
        rw [wtT_s, if_pos hT, tb_big hs (Nat.le_refl k), if_neg Bool.false_ne_true]
        split
        · exact Nat.mul_comm _ _
        · exact (Nat.mul_zero _).symm
      · refine sm_congr (fun s hs => ?_)
        rw [hi_or hs]
        unfold tmF
        have e1 : adn (s ||| 2 ^ k) T = 0 ↔ adn s T = 0 := by
          rw [adn_0, adn_0]
          constructor
          · intro h i hi; exact h i (by rw [bit_or, hi]; rfl)
          · intro h i hi
            rw [bit_or, Bool.or_eq_true] at hi
            rcases hi with hi | hi
            · exact h i hi
            · have := of_decide_eq_true hi; subst this; exact hT
        have e2 : a ||| (s ||| 2 ^ k) = a ||| 2 ^ k ||| s := by rw [Nat.or_comm s, Nat.or_assoc]
        have e3 : wtT T x y (k + 1) (s ||| 2 ^ k) = y * wtT T x y k s := by
          rw [wtT_s, if_pos hT, if_pos (by rw [bit_or, decide_eq_true rfl, Bool.or_true]), wtT_congr (r := s) (fun i hi => by rw [bit_or, decide_eq_false (by omega), Bool.or_false])]
          exact Nat.mul_comm _ _
        rw [e2, e3]
        simp only [e1]
        split
        · rfl
        · exact (Nat.mul_zero _).symm
    · rw [if_neg hT, ← flat T B x y p k a]
      have z : sm (fun i => tmF T B x y p (k + 1) a (2 ^ k + i)) (2 ^ k) = 0 := sm_0 (fun s hs => by
        rw [hi_or hs]
        unfold tmF
        rw [if_neg (fun w => hT (adn_0.1 w.1 k (by rw [bit_or, decide_eq_true rfl, Bool.or_true])))])
      rw [z, Nat.add_zero]
      refine sm_congr (fun s hs => ?_)
      unfold tmF
      rw [wtT_s, if_neg hT, Nat.mul_one]
theorem RRx_congr {T B x y : Nat} {p : Nat → Bool} : ∀ {k a b : Nat}, a &&& B = b &&& B → RRx T B x y p k a = RRx T B x y p k b
  | 0, a, b, h => by show (p (a &&& B)).toNat = (p (b &&& B)).toNat; rw [h]
  | k + 1, a, b, h => by
    rw [RRx_s, RRx_s, RRx_congr h, RRx_congr (a := a ||| 2 ^ k) (b := b ||| 2 ^ k) (by rw [Nat.and_or_distrib_right, Nat.and_or_distrib_right, h])]
def ctn (s : Nat) : Nat → Nat
  | 0 => 0
  | k + 1 => ctn s k + (s.testBit k).toNat
theorem ctn_s (s k : Nat) : ctn s (k + 1) = ctn s k + (s.testBit k).toNat := rfl
theorem ctn_7 (s : Nat) : ctn s 7 = pcn s := by
  unfold pcn
  simp only [ctn, Nat.zero_add]
theorem RRx_f {T B x y : Nat} {p : Nat → Bool} (hB : adn B T = 0) (hxy : x + y = 10) : ∀ k a, RRx T B x y p k a = 10 ^ ctn (adn T B) k * RRx B B x y p k a
  | 0, a => by show _ = 1 * _; rw [Nat.one_mul]; rfl
  | k + 1, a => by
    rw [RRx_s, RRx_s, RRx_f hB hxy k a, RRx_f hB hxy k (a ||| 2 ^ k), ctn_s, adn_tb]
    cases hb : B.testBit k with
    | true =>
      rw [if_pos (adn_0.1 hB k hb), if_pos rfl, adn_0.1 hB k hb]
      show _ = 10 ^ (_ + 0) * _
      rw [Nat.add_zero, Nat.mul_add, Nat.mul_left_comm, Nat.mul_left_comm y]
    | false =>
      cases ht : T.testBit k with
      | false =>
        rw [if_neg Bool.false_ne_true, if_neg Bool.false_ne_true]
        rfl
      | true =>
        have e : RRx B B x y p k (a ||| 2 ^ k) = RRx B B x y p k a := RRx_congr (tb_ext (fun i => by
          rw [Nat.testBit_and, Nat.testBit_and, bit_or]
          by_cases q : k = i
          · subst q; rw [hb, Bool.and_false, Bool.and_false]
          · rw [decide_eq_false q, Bool.or_false]))
        rw [if_pos rfl, if_neg Bool.false_ne_true, e, ← Nat.add_mul, hxy]
        show _ = 10 ^ (_ + 1) * _
        rw [Nat.pow_succ, Nat.mul_comm _ 10, Nat.mul_assoc]
theorem wtT_f {T x y s : Nat} (h : adn s T = 0) : ∀ k, ctn s k ≤ ctn T k ∧ wtT T x y k s = y ^ ctn s k * x ^ (ctn T k - ctn s k)
  | 0 => ⟨Nat.le_refl _, rfl⟩
  | k + 1 => by
    obtain ⟨h1, h2⟩ := wtT_f h k
    rw [ctn_s, ctn_s, wtT_s, h2]
    cases hs : s.testBit k with
    | true =>
      rw [adn_0.1 h k hs, if_pos rfl, if_pos rfl]
      refine ⟨by omega, ?_⟩
      show _ = y ^ (_ + 1) * x ^ (_ + 1 - (_ + 1))
      rw [Nat.add_sub_add_right, Nat.pow_succ]
      exact Nat.mul_right_comm _ _ _
    | false =>
      cases ht : T.testBit k with
      | true =>
        rw [if_pos rfl, if_neg Bool.false_ne_true]
        refine ⟨by show _ + 0 ≤ _ + 1; omega, ?_⟩
        show _ = y ^ (_ + 0) * x ^ (_ + 1 - (_ + 0))
        rw [Nat.add_zero, show ctn T k + 1 - ctn s k = ctn T k - ctn s k + 1 by omega, Nat.pow_succ, Nat.mul_assoc]
      | false =>
        rw [if_neg Bool.false_ne_true, Nat.mul_one]
        exact ⟨h1, rfl⟩
/-- is the child an heir when just some live -/
def gdA (A : Nat → Nat) (c s : Nat) : Bool := (hrA A (A (7 + c)) ((A 22).testBit (A (7 + c))) s).testBit c
def tmO (A : Nat → Nat) (T x c s : Nat) : Nat := if adn s T = 0 ∧ gdA A c s = true then (10 - x) ^ pcn s * x ^ (pcn T - pcn s) else 0
theorem tmO_le (A : Nat → Nat) (T : Nat) {x : Nat} (hx : x ≤ 10) (c s : Nat) (hT : T < 128) : tmO A T x c s ≤ 10000000 := by
  unfold tmO
  split
  · rename_i h
    have hs := sub_le h.1
    have h1 := pcn_le_sub (by omega) hT h.1
    have h2 := pcn_le T
    have a1 : (10 - x) ^ pcn s ≤ 10 ^ pcn s := Nat.pow_le_pow_left (by omega) _
    have a2 : x ^ (pcn T - pcn s) ≤ 10 ^ (pcn T - pcn s) := Nat.pow_le_pow_left hx _
    have a3 := Nat.mul_le_mul a1 a2
    rw [← Nat.pow_add] at a3
    have a4 : 10 ^ (pcn s + (pcn T - pcn s)) ≤ 10 ^ 7 := Nat.pow_le_pow_right (by decide) (by omega)
    exact Nat.le_trans a3 a4
  · omega
theorem gd_and {A : Nat → Nat} {c s : Nat} (hs : adn s (A 21) = 0) : gdA A c (s &&& brd A c) = gdA A c s := by
  unfold gdA hrA
  rw [hrS_congr (al2 := s) (fun i hi hm => ?_)]
  rw [Nat.testBit_and, brd_tb, decide_eq_true hi, show (A (7 + i) == A (7 + c)) = true from beq_iff_eq.2 hm]
  cases q : s.testBit i with
  | false => rfl
  | true => rw [adn_0.1 hs i q]; rfl
theorem tmO_more {A : Nat → Nat} {T x c k : Nat} (hk : T < k) : ∀ m, sm (tmO A T x c) (k + m) = sm (tmO A T x c) k := fun m => by
  rw [sm_add, sm_0 (n := m) (fun i _ => ?_), Nat.add_zero]
  show tmO A T x c (k + i) = 0
  unfold tmO
  rw [if_neg (fun z => by have := sub_le z.1; omega)]
theorem odds_eq {A : Nat → Nat} {x c : Nat} (hx : x ≤ 10) (hl : A 21 < 128) (hB : adn (brd A c) (A 21) = 0) : sm (tmO A (A 21) x c) 128 = sm (tmO A (brd A c) x c) 128 * 10 ^ pcn (adn (A 21) (brd A c)) := by
  have key : ∀ T, adn T (A 21) = 0 → adn (brd A c) T = 0 → sm (tmO A T x c) 128 = RRx T (brd A c) x (10 - x) (gdA A c) 7 0 := by
    intro T hT hBT
    rw [← flat]
    refine sm_congr (fun s hs => ?_)
    unfold tmO tmF
    rw [Nat.zero_or]
    by_cases q : adn s T = 0
    · have hsA : adn s (A 21) = 0 := adn_0.2 (fun i hi => adn_0.1 hT i (adn_0.1 q i hi))
      rw [gd_and hsA, (wtT_f q 7).2, ctn_7, ctn_7]
    · rw [if_neg (fun z => q z.1), if_neg (fun z => q z.1)]
  rw [key (A 21) (adn_0.2 (fun i h => h)) hB, key (brd A c) hB (adn_0.2 (fun i h => h)), RRx_f hB (by omega), ctn_7, Nat.mul_comm]
theorem odds_cl {A : Nat → Nat} {hs T : Nat} {bi hm ki : Nat → Int32} (hV : VA hs T A) (hT : CT A bi hm ki) {c x : Nat} (hc : c < A 25) (hx : x ≤ 10) :
    ∀ (m s fuel : Nat), s + m = 128 → m < fuel → f_X4_casesAsHeir_29 (nI (A 25)) (nI (A 21)) (nI (A 22)) bi hm ki (nI c) (nI x) fuel (nI (A (7 + c))) (nI (brd A c)) (nI (pcn (brd A c))) (nI (sm (tmO A (brd A c) x c) s)) (nI s) = some (nI (sm (tmO A (brd A c) x c) 128)) := by
  have h7 := hV.2.2.1
  have h3 := hV.1
  have hl := hV.lt
  have hd := (hV.2.2.2.2.2.2.2 c hc).2.1
  have hbr : brd A c < 128 := Nat.lt_of_lt_of_le (bsm_lt _ _) (p2_le h7)
  intro m
  induction m with
  | zero =>
    intro s fuel hh hf
    obtain ⟨d, rfl⟩ : ∃ d, fuel = d + 1 := ⟨fuel - 1, by omega⟩
    have e : s = 128 := by omega
    subst e
    simp only [f_X4_casesAsHeir_29, f_X4_casesAsHeir_29_b, kl0, kl1, kl2, kl3, kl4, kl5, kl6, kl7, kl8, kl9, kl10, kl12, kl13, kl14, kl20, kl21, kl22, kl23, kl24, kl25, kl26, kl30, kl31, kl33, kl48, kl49, kl57, kl65, kl66, kl67, kl72, kl89, kl100, kl128, kl255]
    rw [bit_n (by omega), kb1_some, if_pos (nI_le (by omega) (by omega))]
  | succ m ih =>
    intro s fuel hh hf
    obtain ⟨d, rfl⟩ : ∃ d, fuel = d + 1 := ⟨fuel - 1, by omega⟩
    have ih := ih (s + 1) d (by omega) (by omega)
    have hb := hrA_lt A h7 (A (7 + c)) ((A 22).testBit (A (7 + c))) s
    rw [sm_s] at ih
    simp only [f_X4_casesAsHeir_29, f_X4_casesAsHeir_29_b, kl0, kl1, kl2, kl3, kl4, kl5, kl6, kl7, kl8, kl9, kl10, kl12, kl13, kl14, kl20, kl21, kl22, kl23, kl24, kl25, kl26, kl30, kl31, kl33, kl48, kl49, kl57, kl65, kl66, kl67, kl72, kl89, kl100, kl128, kl255]
    rw [bit_n (by omega), kb1_some, if_neg (nI_ge (by omega) (by omega)), k_adn, isIn_n (by omega) (by omega), kb1_some, ki0, sideOf_n (by omega) (by omega), kb1_some, heirs_c hV.bd hT (by omega) (by omega) _, kb1_some, isIn_n (by omega) (by omega), kb1_some, ki0, k_s1]
    by_cases q : adn s (brd A c) = 0
    · rw [if_pos (congrArg nI q)]
      by_cases g : (hrA A (A (7 + c)) ((A 22).testBit (A (7 + c))) s).testBit c = true
      · have hsc := (hrS_in g).2.1
        have hp := pcn_le_sub (by omega) hbr q
        have hpl := pcn_le (brd A c)
        rw [if_pos hsc, if_pos g, bc_all s (by omega), kb1_some, k_sub hx, pw5_n _ (by omega), kb1_some, k_sub hp, pw5_n _ (by omega), kb1_some, k_mul, nI_add]
        have e : tmO A (brd A c) x c s = (10 - x) ^ pcn s * x ^ (pcn (brd A c) - pcn s) := if_pos ⟨q, g⟩
        rw [e] at ih
        exact ih
      · have e : tmO A (brd A c) x c s = 0 := if_neg (fun z => g z.2)
        rw [e, Nat.add_zero] at ih
        rw [if_neg g]
        by_cases w : s.testBit c = true
        · rw [if_pos w]; exact ih
        · rw [if_neg w]; exact ih
    · have e : tmO A (brd A c) x c s = 0 := if_neg (fun z => q z.1)
      rw [e, Nat.add_zero] at ih
      rw [if_neg (fun z => q ((nI_eq (by have := adn_lt (a := s) (b := brd A c) (n := 7) (by omega); omega) (by omega)).1 z))]
      exact ih
theorem odds_rl {A : Nat → Nat} {hs T : Nat} {P : Nat → Int32} {x3 th : Int32} (hV : VA hs T A) (hP : PG A P) {c x : Nat} (hc : c < A 25) (hb : (A 21).testBit c = true) (hx : x ≤ 10) :
    ∀ (m s fuel : Nat), s + m = A 21 + 1 → m < fuel → f_X6_odds_63 P (nI c) (nI x) x3 fuel th (nI (A 21)) (nI (pcn (A 21))) (nI (A (7 + c))) (nI (sm (tmO A (A 21) x c) s)) (nI s) = f_X6_odds_156 P (nI c) (nI x) x3 th (nI (pcn (A 21))) (nI (sm (tmO A (A 21) x c) (A 21 + 1))) := by
  have h7 := hV.2.2.1
  have h3 := hV.1
  have hl := hV.lt
  have hd := (hV.2.2.2.2.2.2.2 c hc).2.1
  intro m
  induction m with
  | zero =>
    intro s fuel hh hf
    obtain ⟨d, rfl⟩ : ∃ d, fuel = d + 1 := ⟨fuel - 1, by omega⟩
    have e : s = A 21 + 1 := by omega
    subst e
    simp only [f_X6_odds_63, f_X6_odds_63_b]
    rw [if_pos (nI_lt (by omega) (by omega))]
  | succ m ih =>
    intro s fuel hh hf
    obtain ⟨d, rfl⟩ : ∃ d, fuel = d + 1 := ⟨fuel - 1, by omega⟩
    have ih := ih (s + 1) d (by omega) (by omega)
    have hr := heirs_r hV.bd hP (h := A (7 + c)) (al := s) (by omega) (by omega) ((A 22).testBit (A (7 + c)))
    have hb2 := hrA_lt A h7 (A (7 + c)) ((A 22).testBit (A (7 + c))) s
    rw [sm_s] at ih
    simp only [f_X6_odds_63, f_X6_odds_63_b, kl0, kl1, kl2, kl3, kl4, kl5, kl6, kl7, kl8, kl9, kl10, kl12, kl13, kl14, kl20, kl21, kl22, kl23, kl24, kl25, kl26, kl30, kl31, kl33, kl48, kl49, kl57, kl65, kl66, kl67, kl72, kl89, kl100, kl128, kl255]
    rw [if_neg (nI_nlt (by omega) (by omega)), has_n (by omega) (by omega), kb1_some, ki0, if_pos hb, k_adn, hP 22 (by omega), k_shr (by omega) (by omega), k_and, k_bit, hr, kb1_some, has_n (by omega) (by omega), kb1_some, ki0, k_s1]
    by_cases q : adn s (A 21) = 0
    · rw [if_pos (congrArg nI q)]
      by_cases g : (hrA A (A (7 + c)) ((A 22).testBit (A (7 + c))) s).testBit c = true
      · have hp := pcn_le_sub (by omega) (by omega) q
        have hpl := pcn_le (A 21)
        rw [if_pos g, many_all s (by omega), kb1_some, k_sub hx, pw6_n _ (by omega), kb1_some, k_sub hp, pw6_n _ (by omega), kb1_some, k_mul, nI_add]
        have e : tmO A (A 21) x c s = (10 - x) ^ pcn s * x ^ (pcn (A 21) - pcn s) := if_pos ⟨q, g⟩
        rw [e] at ih
        exact ih
      · have e : tmO A (A 21) x c s = 0 := if_neg (fun z => g z.2)
        rw [e, Nat.add_zero] at ih
        rw [if_neg g]
        exact ih
    · have e : tmO A (A 21) x c s = 0 := if_neg (fun z => q z.1)
      rw [e, Nat.add_zero] at ih
      rw [if_neg (fun z => q ((nI_eq (by have := adn_lt (a := s) (b := A 21) (n := 7) (by omega); omega) (by omega)).1 z))]
      exact ih
theorem p10 : ∀ n, n < 8 → 0 < 10 ^ n ∧ 10 ^ n < 2 ^ 30 := by decide +kernel
theorem cmd_odds {hs T na : Nat} {wo : Nat → Nat} {ho ch li si ih ye : Int32} {wr bi hm ki we wt wh bf P bk : Nat → Int32} (hS : ST hs T wo na ho ch li si ih ye wr bi hm ki we wt wh bf P bk) (th x y z : Int32) :
    ∃ r th', f_X5_odds ch li si bi hm ki x y z = some r ∧ f_X6_odds P th x y z = some (r, th') := by
  obtain ⟨A, hV, hTR, hP, hA⟩ := hS
  have h7 := hV.2.2.1
  have h3 := hV.1
  have hl := hV.lt
  obtain ⟨-, rfl, rfl, rfl, -, -, -, q8, -⟩ := hTR
  unfold f_X5_odds f_X6_odds
  rw [hasChild_x x (by omega), noChild_x hP x (by omega), in_k y (n := 11) (u := 10) (by decide)]
  simp only [kl0, kl1, kl2, kl3, kl4, kl5, kl6, kl7, kl8, kl9, kl10, kl12, kl13, kl14, kl20, kl21, kl22, kl23, kl24, kl25, kl26, kl30, kl31, kl33, kl48, kl49, kl57, kl65, kl66, kl67, kl72, kl89, kl100, kl128, kl255]
  rw [kb1_some, kb1_some, ki0, ki0, kb1_some, ki0, rng y (by omega)]
  rcases inr_cases x (n := A 25) (by omega) with h | ⟨c, hc, rfl⟩
  · rw [h]
    exact ⟨_, _, rfl, rfl⟩
  · rw [inr_y hc (by omega), if_pos rfl, if_neg (show ¬ ((!true) = true) by decide)]
    rcases inr_cases y (n := 11) (by omega) with h | ⟨w, hw, rfl⟩
    · rw [h]
      exact ⟨_, _, rfl, rfl⟩
    · have hpT := pcn_le (A 21)
      have pT := p10 (pcn (A 21)) (by omega)
      rw [inr_y hw (by omega), if_pos rfl, if_pos rfl, isAlive_n h7 (by omega) hc, kb1_some, ki0, hP 21 (by omega), many_all _ hl.1, kb1_some, nI_add, kg_yes (kin_y (by omega) (by omega)), nI_clamp (show 7 + c < 2 ^ 31 by omega), hP (7 + c) (by omega)]
      by_cases b : (A 21).testBit c = true
      · have hB : adn (brd A c) (A 21) = 0 := adn_0.2 (fun i hi => by rw [brd_tb, Bool.and_eq_true, Bool.and_eq_true] at hi; exact hi.2.1)
        have hbr : brd A c < 128 := Nat.lt_of_lt_of_le (bsm_lt _ _) (p2_le h7)
        have hpa := pcn_adn hB
        have pB := p10 (pcn (brd A c)) (by omega)
        have pX := p10 (pcn (adn (A 21) (brd A c))) (by omega)
        have a1 := odds_cl hV q8 (c := c) (x := w) hc (by omega) 128 0 1000 (by omega) (by omega)
        have a2 := odds_rl (x3 := z) (th := nI 0) hV hP (c := c) (x := w) hc b (by omega) (A 21 + 1) 0 1000 (by omega) (by omega)
        have a3 := odds_eq (x := w) (by omega) hl.1 hB
        have a4 := tmO_more (A := A) (T := A 21) (x := w) (c := c) (k := A 21 + 1) (by omega) (127 - A 21)
        rw [show A 21 + 1 + (127 - A 21) = 128 by omega] at a4
        rw [show sm (tmO A (brd A c) w c) 0 = 0 from rfl] at a1
        rw [show sm (tmO A (A 21) w c) 0 = 0 from rfl, ← a4] at a2
        have b1 := sm_le (fun s => tmO_le A (brd A c) (x := w) (by omega) c s hbr) 128
        have b2 := sm_le (fun s => tmO_le A (A 21) (x := w) (by omega) c s hl.1) 128
        unfold f_X4_casesAsHeir f_X6_odds_156 at *
        simp only [kl0, kl1, kl2, kl3, kl4, kl5, kl6, kl7, kl8, kl9, kl10, kl12, kl13, kl14, kl20, kl21, kl22, kl23, kl24, kl25, kl26, kl30, kl31, kl33, kl48, kl49, kl57, kl65, kl66, kl67, kl72, kl89, kl100, kl128, kl255]
        rw [if_pos b, broodOf_n hV.bd q8 (by omega) hc, kb1_some, bc_all _ hbr, kb1_some, pw5_n _ (by omega), kb1_some, get_n (by decide) (by omega), kb1_some, (q8 c hc).1, kb1_some, bc_all _ hbr, kb1_some, a1, kb1_some, frc5 (by omega) pB.1 (by omega), kb1_some, a2]
        simp only [kl0, kl1, kl2, kl3, kl4, kl5, kl6, kl7, kl8, kl9, kl10, kl12, kl13, kl14, kl20, kl21, kl22, kl23, kl24, kl25, kl26, kl30, kl31, kl33, kl48, kl49, kl57, kl65, kl66, kl67, kl72, kl89, kl100, kl128, kl255]
        rw [pw6_n _ (by omega), kb1_some, frc6 (by omega) pT.1 (by omega), kb1_some, a3, show 10 ^ pcn (A 21) = 10 ^ pcn (brd A c) * 10 ^ pcn (adn (A 21) (brd A c)) by rw [← Nat.pow_add]; congr 1; omega, frc_sc pX.1]
        exact ⟨_, _, rfl, rfl⟩
      · have b0 : (A 21).testBit c = false := (Bool.not_eq_true _).mp b
        have hz : f_X6_odds_63 P (nI c) (nI w) z 1000 (nI 0) (nI (A 21)) (nI (pcn (A 21))) (nI (A (7 + c))) (nI 0) (nI 0) = f_X6_odds_156 P (nI c) (nI w) z (nI 0) (nI (pcn (A 21))) (nI 0) := by
          show f_X6_odds_63_b _ _ _ _ _ _ _ _ _ _ _ = _
          unfold f_X6_odds_63_b
          rw [if_neg (nI_nlt (Nat.zero_le _) (by omega)), has_n (by omega) (by omega), kb1_some, b0]
          rfl
        rw [if_neg b, hz, frc5 (by omega) (by omega) (by omega), kb1_some]
        unfold f_X6_odds_156
        simp only [kl0, kl1, kl2, kl3, kl4, kl5, kl6, kl7, kl8, kl9, kl10, kl12, kl13, kl14, kl20, kl21, kl22, kl23, kl24, kl25, kl26, kl30, kl31, kl33, kl48, kl49, kl57, kl65, kl66, kl67, kl72, kl89, kl100, kl128, kl255]
        rw [pw6_n _ (by omega), kb1_some, frc6 (by omega) pT.1 (by omega), kb1_some, show frc 0 1 z = frc 0 (10 ^ pcn (A 21)) z by rw [← frc_sc pT.1 0 1, Nat.zero_mul, Nat.one_mul]]
        exact ⟨_, _, rfl, rfl⟩
theorem cmd_unsee {n : Nat} (sh sc sl mh mc ml : Nat → Int32) (th : Int32) : ∃ th', f_X5_unsee (nI n) = some (nI n, nI 0) ∧ f_X6_unsee th (nI n) = some (nI n, th', nI 0) ∧ SNE 0 sh sc sl mh mc ml := by
  unfold f_X5_unsee f_X6_unsee
  rw [kl0]
  exact ⟨_, rfl, rfl, fun _ => 0, fun _ => 0, fun _ => 0, by omega, fun i hi => by omega⟩
