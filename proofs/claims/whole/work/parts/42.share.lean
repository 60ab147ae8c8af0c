/-! MATH 22: shares -/
def wyf : Nat → Nat
  | 0 => 1
  | n + 1 => (n + 1) * wyf n
theorem ways_n : ∀ k, k < 8 → f_X6_ways (nI k) = some (nI (wyf k)) := by decide +kernel
theorem wyf_b : ∀ k, k < 8 → 0 < wyf k ∧ wyf k ≤ 5040 := by decide +kernel
theorem wyf_p : ∀ n, n < 8 → ∀ k, k < n → wyf k * wyf (n - 1 - k) ≤ 720 := by decide +kernel
/-- orders in which the sets that meet nothing of a house come first -/
def suX (X n : Nat) : Nat → Nat
  | 0 => 0
  | k + 1 => suX X n k + (if adn k X = 0 then wyf (pcn k) * wyf (n - 1 - pcn k) else 0)
theorem suX_s (X n k : Nat) : suX X n (k + 1) = suX X n k + (if adn k X = 0 then wyf (pcn k) * wyf (n - 1 - pcn k) else 0) := rfl
theorem suX_all : ∀ X, X < 128 → ∀ n, n < 8 → pcn X < n → suX X n 128 * (n - pcn X) = wyf n := by decide +kernel
theorem suX_more {X n k : Nat} (hk : X < k) : ∀ m, suX X n (k + m) = suX X n k
  | 0 => rfl
  | m + 1 => by
    show suX X n ((k + m) + 1) = _
    rw [suX_s, if_neg (fun z => by have := sub_le z; omega), Nat.add_zero]
    exact suX_more hk m
theorem pcn_le_sub {a b : Nat} (ha : a < 128) (hb : b < 128) (h : adn a b = 0) : pcn a ≤ pcn b := by
  by_cases e : a = b
  · rw [e]; exact Nat.le_refl _
  · exact Nat.le_of_lt (pcn_sub a ha b hb h e)
theorem suX_le {X n : Nat} (hX : X < 128) (hn : n < 8) (hp : pcn X < n) : ∀ k, suX X n k ≤ 720 * k
  | 0 => Nat.le_refl _
  | k + 1 => by
    have := suX_le hX hn hp k
    rw [suX_s]
    split
    · rename_i z
      have hk := sub_le z
      have := pcn_le_sub (by omega) hX z
      have := wyf_p n hn (pcn k) (by omega)
      omega
    · omega
theorem pcn_adn {T B : Nat} (h : adn B T = 0) : pcn (adn T B) + pcn B = pcn T := by
  have key : ∀ i, ((adn T B).testBit i).toNat + (B.testBit i).toNat = (T.testBit i).toNat := fun i => by
    rw [adn_tb]
    cases hb : B.testBit i with
    | false => cases T.testBit i <;> rfl
    | true => rw [adn_0.1 h i hb]; rfl
  have h0 := key 0; have h1 := key 1; have h2 := key 2; have h3 := key 3; have h4 := key 4; have h5 := key 5; have h6 := key 6
  unfold pcn
  omega
/-- is there an heir, when just some live -/
def evA (A : Nat → Nat) (s g : Nat) : Bool := decide (hrA A g false (s &&& A 21) ≠ 0)
def vlA (A : Nat → Nat) (s : Nat) : Nat → Nat
  | 0 => 0
  | h + 1 => vlA A s h + (evA A s h).toNat
theorem vlA_s (A : Nat → Nat) (s h : Nat) : vlA A s (h + 1) = vlA A s h + (evA A s h).toNat := rfl
theorem vlA_le (A : Nat → Nat) (s : Nat) : ∀ h, vlA A s h ≤ h
  | 0 => Nat.le_refl _
  | h + 1 => by have := vlA_le A s h; have := kB_lt (evA A s h); rw [vlA_s]; omega
theorem evA_0 {hs T : Nat} {A : Nat → Nat} (hV : VA hs T A) (s g : Nat) : evA A s g = false ↔ ∀ i, i < A 25 → ¬ ((s &&& A 21).testBit i = true ∧ A (7 + i) = g) := by
  have hk : ∀ c, c < A 25 → A (26 + c) < 4 := fun c hc => (hV.2.2.2.2.2.2.2 c hc).2.2.2
  unfold evA
  rw [decide_eq_false_iff_not, Decidable.not_not]
  unfold hrA
  exact hrS_0 hk
theorem evA_c {hs T : Nat} {A : Nat → Nat} (hV : VA hs T A) {s c : Nat} (hb : (A 21).testBit c = true) (g : Nat) : evA A (s ||| 2 ^ c) g = (evA A s g || decide (g = A (7 + c))) := by
  have hc : c < A 25 := tb_lt hV.2.2.2.1 hb
  by_cases e : g = A (7 + c)
  · rw [decide_eq_true e, Bool.or_true]
    cases q : evA A (s ||| 2 ^ c) g with
    | true => rfl
    | false =>
      exfalso
      refine (evA_0 hV _ _).1 q c hc ⟨?_, e.symm⟩
      rw [Nat.testBit_and, bit_or, hb, decide_eq_true rfl]
      simp
  · rw [decide_eq_false e, Bool.or_false]
    have : evA A (s ||| 2 ^ c) g = false ↔ evA A s g = false := by
      rw [evA_0 hV, evA_0 hV]
      constructor
      · intro h i hi w
        refine h i hi ⟨?_, w.2⟩
        have := w.1
        rw [Nat.testBit_and, Bool.and_eq_true] at this
        rw [Nat.testBit_and, bit_or, this.1, this.2]; rfl
      · intro h i hi w
        refine h i hi ⟨?_, w.2⟩
        have := w.1
        rw [Nat.testBit_and, bit_or, Bool.and_eq_true] at this
        have hci : c ≠ i := fun z => by subst z; exact e w.2.symm
        rw [decide_eq_false hci, Bool.or_false] at this
        rw [Nat.testBit_and, this.1, this.2]; rfl
    cases q : evA A s g with
    | false => exact this.2 q
    | true => cases q2 : evA A (s ||| 2 ^ c) g with
      | true => rfl
      | false => rw [this.1 q2] at q; cases q
theorem vlA_c {hs T : Nat} {A : Nat → Nat} (hV : VA hs T A) {s c : Nat} (hb : (A 21).testBit c = true) : ∀ h, vlA A (s ||| 2 ^ c) h = vlA A s h + (if A (7 + c) < h ∧ evA A s (A (7 + c)) = false then 1 else 0)
  | 0 => rfl
  | h + 1 => by
    have ih := vlA_c hV (s := s) hb h
    rw [vlA_s, vlA_s, ih, evA_c hV hb]
    by_cases e : h = A (7 + c)
    · rw [decide_eq_true e, if_neg (by omega), ← e]
      cases q : evA A s h with
      | true => rw [if_neg (fun z => by cases z.2)]; rfl
      | false => rw [if_pos ⟨by omega, rfl⟩]; rfl
    · rw [decide_eq_false e, Bool.or_false]
      have : (A (7 + c) < h ∧ evA A s (A (7 + c)) = false) = (A (7 + c) < h + 1 ∧ evA A s (A (7 + c)) = false) := propext ⟨fun z => ⟨by omega, z.2⟩, fun z => ⟨by omega, z.2⟩⟩
      simp only [this]
      omega
theorem ev_brd {hs T : Nat} {A : Nat → Nat} (hV : VA hs T A) {s c : Nat} (hs : adn s (A 21) = 0) : evA A s (A (7 + c)) = false ↔ s &&& brd A c = 0 := by
  rw [evA_0 hV]
  constructor
  · intro h
    refine tb_ext (fun i => ?_)
    rw [Nat.testBit_and, brd_tb, Nat.zero_testBit]
    by_cases hi : i < A 25
    · have := h i hi
      rw [sub_eq hs] at this
      by_cases q : s.testBit i = true
      · have hne : ¬ A (7 + i) = A (7 + c) := fun z => this ⟨q, z⟩
        have : (A (7 + i) == A (7 + c)) = false := by simp [hne]
        rw [this]; simp
      · rw [(Bool.not_eq_true _).mp q]; rfl
    · rw [decide_eq_false hi]; simp
  · intro h i hi w
    rw [sub_eq hs] at w
    have hx := adn_0.1 hs i w.1
    have : (s &&& brd A c).testBit i = true := by
      rw [Nat.testBit_and, brd_tb, w.1, hx, decide_eq_true hi, w.2]; simp
    rw [h, Nat.zero_testBit] at this
    cases this
theorem sub_and {s T B : Nat} (hBT : adn B T = 0) : adn s (adn T B) = 0 ↔ adn s T = 0 ∧ s &&& B = 0 := by
  constructor
  · intro h
    refine ⟨adn_0.2 (fun i hi => by have := adn_0.1 h i hi; rw [adn_tb, Bool.and_eq_true] at this; exact this.1), tb_ext (fun i => ?_)⟩
    rw [Nat.testBit_and, Nat.zero_testBit]
    cases q : s.testBit i with
    | false => rfl
    | true =>
      have := adn_0.1 h i q
      rw [adn_tb, Bool.and_eq_true, Bool.not_eq_true'] at this
      rw [this.2]; rfl
  · intro h
    refine adn_0.2 (fun i hi => ?_)
    have h1 := adn_0.1 h.1 i hi
    have h2 : (s &&& B).testBit i = false := by rw [h.2, Nat.zero_testBit]
    rw [Nat.testBit_and, hi, Bool.true_and] at h2
    rw [adn_tb, h1, h2]; rfl
theorem share_in {A : Nat → Nat} {hs T : Nat} {P : Nat → Int32} {x1 x2 th : Int32} {n s : Nat} {K : Int32 → (Nat → Int32) → Int32 → Int32 → Int32 → Option (Int32 × Int32 × (Nat → Int32))} (hV : VA hs T A) (hP : PG A P) (hs1 : s < 128) :
    ∀ (m h fuel : Nat) (f : Nat → Int32), h + m = hs → m < fuel → f s = nI (vlA A s h) → ∃ f', f_X6_share_49 (nI hs) P x1 x2 K fuel th f (nI (A 21)) (nI n) (nI s) (nI h) = K th f' (nI (A 21)) (nI n) (nI (s + 1)) ∧ f' s = nI (vlA A s hs) ∧ ∀ i, i ≠ s → f' i = f i := by
  have h7 := hV.2.2.1
  have h3 := hV.1
  have hl := hV.lt
  intro m
  induction m with
  | zero =>
    intro h fuel f hh hf h1
    obtain ⟨d, rfl⟩ : ∃ d, fuel = d + 1 := ⟨fuel - 1, by omega⟩
    have e : h = hs := by omega
    subst e
    refine ⟨f, ?_, h1, fun _ _ => rfl⟩
    show f_X6_share_49_b _ _ _ _ _ _ _ _ _ _ _ _ = _
    simp only [f_X6_share_49_b, kl0, kl1, kl2, kl3, kl4, kl5, kl6, kl7, kl8, kl9, kl10, kl12, kl13, kl14, kl20, kl21, kl22, kl23, kl24, kl25, kl26, kl30, kl31, kl33, kl48, kl49, kl57, kl65, kl66, kl67, kl72, kl89, kl100, kl128, kl255]
    rw [if_pos (nI_le (Nat.le_refl _) (by omega)), k_s1]
  | succ m ih =>
    intro h fuel f hh hf h1
    obtain ⟨d, rfl⟩ : ∃ d, fuel = d + 1 := ⟨fuel - 1, by omega⟩
    have hst : s &&& A 21 < 128 := Nat.lt_of_le_of_lt Nat.and_le_left hs1
    have hr := heirs_r hV.bd hP (h := h) (al := s &&& A 21) (by omega) (by omega) false
    have hb := hrA_lt A h7 h false (s &&& A 21)
    rw [show nI false.toNat = nI 0 from rfl] at hr
    obtain ⟨f', g1, g2, g3⟩ := ih (h + 1) d (upd f s (nI (vlA A s (h + 1)))) (by omega) (by omega) upd_s
    refine ⟨f', ?_, g2, fun i hi => by rw [g3 i hi, upd_n hi]⟩
    rw [← g1]
    show f_X6_share_49_b _ _ _ _ _ _ _ _ _ _ _ _ = _
    simp only [f_X6_share_49_b, f_X6_share_88, kl0, kl1, kl2, kl3, kl4, kl5, kl6, kl7, kl8, kl9, kl10, kl12, kl13, kl14, kl20, kl21, kl22, kl23, kl24, kl25, kl26, kl30, kl31, kl33, kl48, kl49, kl57, kl65, kl66, kl67, kl72, kl89, kl100, kl128, kl255]
    rw [if_neg (nI_ge (by omega) (by omega)), kg_yes (kin_y (by omega) hs1), k_and, hr, kb1_some, kg_yes (kin_y (by omega) hs1), kg_yes (kin_y (by omega) hs1), nI_clamp (by omega), h1, nI_add, nI_add, k_s1, vlA_s]
    unfold evA
    by_cases w : hrA A h false (s &&& A 21) = 0
    · rw [if_pos (congrArg nI w), decide_eq_false (fun z => z w)]; rfl
    · rw [if_neg (fun z => w ((nI_eq (by omega) (by decide)).1 z)), decide_eq_true w]; rfl
theorem share_v {A : Nat → Nat} {hs T : Nat} {P : Nat → Int32} {x1 x2 th : Int32} {n : Nat} (hV : VA hs T A) (hP : PG A P) :
    ∀ (m s fuel : Nat) (f : Nat → Int32), s + m = A 21 + 1 → m < fuel → (∀ i, i < s → f i = nI (vlA A i hs)) → ∃ f', f_X6_share_32 (nI hs) P x1 x2 fuel th f (nI (A 21)) (nI n) (nI s) = f_X6_share_108 (nI hs) P x1 x2 1000 th f' (nI (A 21)) (nI n) (nI 0) (nI 0) ∧ ∀ i, i ≤ A 21 → f' i = nI (vlA A i hs) := by
  have h7 := hV.2.2.1
  have h3 := hV.1
  have hl := hV.lt
  intro m
  induction m with
  | zero =>
    intro s fuel f hh hf h1
    obtain ⟨d, rfl⟩ : ∃ d, fuel = d + 1 := ⟨fuel - 1, by omega⟩
    refine ⟨f, ?_, fun i hi => h1 i (by omega)⟩
    show f_X6_share_32_b _ _ _ _ _ _ _ _ _ _ = _
    unfold f_X6_share_32_b
    rw [if_pos (nI_lt (by omega) (by omega)), kl0]
  | succ m ih =>
    intro s fuel f hh hf h1
    obtain ⟨d, rfl⟩ : ∃ d, fuel = d + 1 := ⟨fuel - 1, by omega⟩
    obtain ⟨f1, g1, g2, g3⟩ := share_in (x1 := x1) (x2 := x2) (th := th) (n := n) (s := s) (K := f_X6_share_32 (nI hs) P x1 x2 d) hV hP (by omega) hs 0 1000 (upd f s (nI 0)) (by omega) (by omega) upd_s
    obtain ⟨f2, e1, e2⟩ := ih (s + 1) d f1 (by omega) (by omega) (fun i hi => by
      by_cases q : i = s
      · subst q; exact g2
      · rw [g3 i q, upd_n q]; exact h1 i (by omega))
    refine ⟨f2, ?_, e2⟩
    rw [← e1, ← g1]
    show f_X6_share_32_b _ _ _ _ _ _ _ _ _ _ = _
    unfold f_X6_share_32_b
    rw [if_neg (nI_nlt (by omega) (by omega)), kg_yes (kin_y (by omega) (by omega)), nI_clamp (by omega), kl0]
theorem share_s {A : Nat → Nat} {hs T : Nat} {P f : Nat → Int32} {x2 th : Int32} {c : Nat} (hV : VA hs T A) (hb : (A 21).testBit c = true) (hf1 : ∀ i, i ≤ A 21 → f i = nI (vlA A i hs)) :
    ∀ (m s fuel : Nat), s + m = A 21 + 1 → m < fuel → f_X6_share_108 (nI hs) P (nI c) x2 fuel th f (nI (A 21)) (nI (pcn (A 21))) (nI (suX (adn (A 21) (brd A c)) (pcn (A 21)) s)) (nI s) = f_X6_share_194 (nI hs) P (nI c) x2 th f (nI (pcn (A 21))) (nI (suX (adn (A 21) (brd A c)) (pcn (A 21)) (A 21 + 1))) := by
  have h7 := hV.2.2.1
  have h3 := hV.1
  have hl := hV.lt
  have hc : c < A 25 := tb_lt hV.2.2.2.1 hb
  have hB : adn (brd A c) (A 21) = 0 := adn_0.2 (fun i hi => by rw [brd_tb, Bool.and_eq_true, Bool.and_eq_true] at hi; exact hi.2.1)
  have hpT := pcn_le (A 21)
  have hd := (hV.2.2.2.2.2.2.2 c hc).2.1
  intro m
  induction m with
  | zero =>
    intro s fuel hh hf
    obtain ⟨d, rfl⟩ : ∃ d, fuel = d + 1 := ⟨fuel - 1, by omega⟩
    have e : s = A 21 + 1 := by omega
    subst e
    show f_X6_share_108_b _ _ _ _ _ _ _ _ _ _ _ = _
    unfold f_X6_share_108_b
    rw [if_pos (nI_lt (by omega) (by omega))]
  | succ m ih =>
    intro s fuel hh hf
    obtain ⟨d, rfl⟩ : ∃ d, fuel = d + 1 := ⟨fuel - 1, by omega⟩
    have ih := ih (s + 1) d (by omega) (by omega)
    rw [← ih, suX_s]
    show f_X6_share_108_b _ _ _ _ _ _ _ _ _ _ _ = _
    simp only [f_X6_share_108_b, kl0, kl1, kl2, kl3, kl4, kl5, kl6, kl7, kl8, kl9, kl10, kl12, kl13, kl14, kl20, kl21, kl22, kl23, kl24, kl25, kl26, kl30, kl31, kl33, kl48, kl49, kl57, kl65, kl66, kl67, kl72, kl89, kl100, kl128, kl255]
    rw [if_neg (nI_nlt (by omega) (by omega)), has_n (by omega) (by omega), kb1_some, ki0, if_pos hb, k_adn, k_s1]
    by_cases q : adn s (A 21) = 0
    · rw [if_pos (congrArg nI q), has_n (by omega) (by omega), kb1_some, ki0]
      by_cases w : s.testBit c = true
      · rw [if_pos w, if_neg (fun z => by
          have := (sub_and hB).1 z
          have h2 : (s &&& brd A c).testBit c = false := by rw [this.2, Nat.zero_testBit]
          rw [Nat.testBit_and, brd_tb, w, hb, decide_eq_true hc] at h2
          simp at h2)]
        rfl
      · have hcc : 2 ^ c < 2 ^ 7 := k_two (by omega)
        have hu : adn (s ||| 2 ^ c) (A 21) = 0 := adn_0.2 (fun i hi => by
          rw [bit_or, Bool.or_eq_true] at hi
          rcases hi with hi | hi
          · exact adn_0.1 q i hi
          · have := of_decide_eq_true hi; subst this; exact hb)
        have hul := sub_le hu
        have hus : adn s (s ||| 2 ^ c) = 0 := adn_0.2 (fun i hi => by rw [bit_or, hi]; rfl)
        have hp1 : pcn s < pcn (s ||| 2 ^ c) := pcn_sub s (by omega) _ (by omega) hus (fun z => by
          have : (s ||| 2 ^ c).testBit c = true := by rw [bit_or, decide_eq_true rfl, Bool.or_true]
          rw [← z] at this
          exact w this)
        have hp2 := pcn_le_sub (a := s ||| 2 ^ c) (b := A 21) (by omega) (by omega) hu
        rw [if_neg w, many_all s (by omega), kb1_some, ways_n _ (by omega), kb1_some, k_sub (show 1 ≤ pcn (A 21) by omega), k_sub (show pcn s ≤ pcn (A 21) - 1 by omega), ways_n _ (by omega), kb1_some, k_sh1 (by omega), k_or, kg_yes (kin_y (by omega) (by omega)), kg_yes (kin_y (by omega) (by omega)), nI_clamp (by omega), nI_clamp (by omega), hf1 _ hul, hf1 s (by omega), vlA_c hV hb, k_sub (Nat.le_add_right _ _), Nat.add_sub_cancel_left, k_mul, k_mul, nI_add]
        congr 3
        by_cases z : s &&& brd A c = 0
        · rw [if_pos ⟨hd, (ev_brd hV q).2 z⟩, if_pos ((sub_and hB).2 ⟨q, z⟩), Nat.mul_one]
        · rw [if_neg (fun y => z ((ev_brd hV q).1 y.2)), if_neg (fun y => z ((sub_and hB).1 y).2), Nat.mul_zero]
    · rw [if_neg (fun z => q ((nI_eq (by have := adn_lt (a := s) (b := A 21) (n := 7) (by omega); omega) (by omega)).1 z)), if_neg (fun z => q ((sub_and hB).1 z).1)]
      rfl
theorem cmd_share {hs T na : Nat} {wo : Nat → Nat} {ho ch li si ih ye : Int32} {wr bi hm ki we wt wh bf P bk : Nat → Int32} (hS : ST hs T wo na ho ch li si ih ye wr bi hm ki we wt wh bf P bk) (th x y : Int32) (vl : Nat → Int32) :
    ∃ r th' vl', f_X5_share ch li hm x y = some r ∧ f_X6_share (nI hs) P th vl x y = some (r, th', vl') := by
  obtain ⟨A, hV, hTR, hP, hA⟩ := hS
  have h7 := hV.2.2.1
  have h3 := hV.1
  have hl := hV.lt
  obtain ⟨-, rfl, rfl, -, -, -, -, q8, -⟩ := hTR
  unfold f_X5_share f_X6_share
  rw [hasChild_x x (by omega), noChild_x hP x (by omega)]
  simp only [kl0, kl1, kl2, kl3, kl4, kl5, kl6, kl7, kl8, kl9, kl10, kl12, kl13, kl14, kl20, kl21, kl22, kl23, kl24, kl25, kl26, kl30, kl31, kl33, kl48, kl49, kl57, kl65, kl66, kl67, kl72, kl89, kl100, kl128, kl255]
  rw [kb1_some, kb1_some, ki0, ki0]
  rcases inr_cases x (n := A 25) (by omega) with h | ⟨c, hc, rfl⟩
  · rw [h]
    exact ⟨_, _, _, rfl, rfl⟩
  · obtain ⟨f', g1, g2⟩ := share_v (x1 := nI c) (x2 := y) (th := nI 0) (n := pcn (A 21)) hV hP (A 21 + 1) 0 1000 vl (by omega) (by omega) (fun i hi => by omega)
    have hp7 := pcn_le (A 21)
    have hwn := wyf_b (pcn (A 21)) (by omega)
    rw [inr_y hc (by omega), if_pos rfl, if_neg (show ¬ ((!true) = true) by decide), hP 21 (by omega), many_all _ hl.1, kb1_some, g1, isAlive_n h7 (by omega) hc, kb1_some, ki0]
    by_cases b : (A 21).testBit c = true
    · have hB : adn (brd A c) (A 21) = 0 := adn_0.2 (fun i hi => by rw [brd_tb, Bool.and_eq_true, Bool.and_eq_true] at hi; exact hi.2.1)
      have hbr : brd A c < 128 := Nat.lt_of_lt_of_le (bsm_lt _ _) (p2_le h7)
      have hpa := pcn_adn hB
      have hcb : (brd A c).testBit c = true := by rw [brd_tb, b, decide_eq_true hc]; simp
      have hpb := pcn_pos _ hbr (tb_ne0 hcb)
      have hpl := pcn_le (brd A c)
      have hX : adn (A 21) (brd A c) < 128 := adn_lt (n := 7) (by omega)
      have hs := share_s (P := P) (f := f') (x2 := y) (th := nI 0) hV b g2 (A 21 + 1) 0 1000 (by omega) (by omega)
      have hsu := suX_all _ hX (pcn (A 21)) (by omega) (by omega)
      have hXT : adn (adn (A 21) (brd A c)) (A 21) = 0 := adn_0.2 (fun i hi => by rw [adn_tb, Bool.and_eq_true] at hi; exact hi.1)
      have hm := suX_more (X := adn (A 21) (brd A c)) (n := pcn (A 21)) (k := A 21 + 1) (by have := sub_le hXT; omega) (127 - A 21)
      rw [show A 21 + 1 + (127 - A 21) = 128 by omega] at hm
      rw [hm, show pcn (A 21) - pcn (adn (A 21) (brd A c)) = pcn (brd A c) by omega] at hsu
      rw [show suX (adn (A 21) (brd A c)) (pcn (A 21)) 0 = 0 from rfl] at hs
      have hbd := suX_le (X := adn (A 21) (brd A c)) (n := pcn (A 21)) hX (by omega) (by omega) (A 21 + 1)
      rw [if_pos b, hs, broodOf_n hV.bd q8 (by omega) hc, kb1_some, bc_all _ hbr, kb1_some, frc5 (by omega) hpb (by omega), kb1_some]
      unfold f_X6_share_194
      generalize suX (adn (A 21) (brd A c)) (pcn (A 21)) (A 21 + 1) = up at *
      have hu0 : 0 < up := by
        rcases Nat.eq_zero_or_pos up with z | z
        · rw [z, Nat.zero_mul] at hsu; omega
        · exact z
      rw [ways_n _ (by omega), kb1_some, frc6 (by omega) hwn.1 (by omega), kb1_some, ← hsu, Nat.mul_comm up, show frc up (pcn (brd A c) * up) y = frc 1 (pcn (brd A c)) y by rw [← frc_sc hu0 1, Nat.one_mul]]
      exact ⟨_, _, _, rfl, rfl⟩
    · have b0 : (A 21).testBit c = false := (Bool.not_eq_true _).mp b
      have hz : f_X6_share_108 (nI hs) P (nI c) y 1000 (nI 0) f' (nI (A 21)) (nI (pcn (A 21))) (nI 0) (nI 0) = f_X6_share_194 (nI hs) P (nI c) y (nI 0) f' (nI (pcn (A 21))) (nI 0) := by
        show f_X6_share_108_b _ _ _ _ _ _ _ _ _ _ _ = _
        unfold f_X6_share_108_b
        rw [if_neg (nI_nlt (Nat.zero_le _) (by omega)), has_n (by omega) (by omega), kb1_some, b0]
        rfl
      rw [if_neg b, hz, frc5 (by omega) (by omega) (by omega), kb1_some]
      unfold f_X6_share_194
      rw [ways_n _ (by omega), kb1_some, frc6 (by omega) hwn.1 (by omega), kb1_some, show frc 0 1 y = frc 0 (wyf (pcn (A 21))) y by rw [← frc_sc hwn.1 0 1, Nat.zero_mul, Nat.one_mul]]
      exact ⟨_, _, _, rfl, rfl⟩
