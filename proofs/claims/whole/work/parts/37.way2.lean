/-! MATH 17: way: the two loops -/
def good (A : Nat → Nat) (c g s : Nat) : Bool := decide (hrA A g ((A 22).testBit g) (adn (A 21) s) = 2 ^ c)
def okX (A : Nat → Nat) (c g X s : Nat) : Bool := decide (adn s X = 0) && good A c g s
def o9 : Option Nat → Int32
  | none => -nI 9
  | some b => nI b
theorem o9_s : ∀ b, b < 128 → ¬ nI b = -nI 9 := by decide +kernel
theorem way_cl {A : Nat → Nat} {hs T c g R : Nat} {bi hm ki : Nat → Int32} (hV : VA hs T A) (hT : CT A bi hm ki) (hc : c < A 25) (hg : g < hs) (hR : R < 128) :
    ∀ (m k fuel : Nat), k + m = 128 → m < fuel → cbs R (okX A c g R) k < 128 → f_X4_fewestInTheWay_34 (nI (A 25)) (nI (A 21)) (nI (A 22)) bi hm ki (nI c) (nI g) fuel (nI R) (nI (cbs R (okX A c g R) k)) (nI k) = some (nI (cbs R (okX A c g R) 128)) := by
  have h7 := hV.2.2.1
  have h3 := hV.1
  have hl := hV.lt
  intro m
  induction m with
  | zero =>
    intro k fuel hk hf hb
    obtain ⟨d, rfl⟩ : ∃ d, fuel = d + 1 := ⟨fuel - 1, by omega⟩
    have e : k = 128 := by omega
    subst e
    simp only [f_X4_fewestInTheWay_34, f_X4_fewestInTheWay_34_b, kl0, kl1, kl2, kl3, kl4, kl5, kl6, kl7, kl8, kl9, kl10, kl12, kl13, kl14, kl20, kl21, kl22, kl23, kl24, kl25, kl26, kl30, kl31, kl33, kl48, kl49, kl57, kl65, kl66, kl67, kl72, kl89, kl100, kl128, kl255]
    rw [bit_n (by omega), kb1_some, if_pos (nI_le (by decide) (by omega))]
  | succ m ih =>
    intro k fuel hk hf hb
    obtain ⟨d, rfl⟩ : ∃ d, fuel = d + 1 := ⟨fuel - 1, by omega⟩
    have ih := ih (k + 1) d (by omega) (by omega)
    have hh := heirs_c hV.bd hT (h := g) (al := adn (A 21) k) (by omega) (by have := adn_lt (b := k) (n := 7) (show A 21 < 2 ^ 7 by omega); omega) ((A 22).testBit g)
    have hb2 := hrA_lt A h7 g ((A 22).testBit g) (adn (A 21) k)
    have hcc : 2 ^ c < 2 ^ 7 := k_two (by omega)
    rw [cbs_s] at ih
    have ha : adn k R < 2 ^ 7 := adn_lt (show k < 2 ^ 7 by omega)
    simp only [f_X4_fewestInTheWay_34, f_X4_fewestInTheWay_34_b, kl0, kl1, kl2, kl3, kl4, kl5, kl6, kl7, kl8, kl9, kl10, kl12, kl13, kl14, kl20, kl21, kl22, kl23, kl24, kl25, kl26, kl30, kl31, kl33, kl48, kl49, kl57, kl65, kl66, kl67, kl72, kl89, kl100, kl128, kl255]
    rw [bit_n (by omega), kb1_some, if_neg (nI_ge (show k < 2 ^ 7 by omega) (by omega)), k_adn, bc_all k (by omega), kb1_some, bc_all _ hb, kb1_some, sideOf_n (by omega) (by omega), kb1_some, k_adn, hh, kb1_some, bit_n (by omega), kb1_some, k_s1]
    have p1 := pcn_le k
    have p2 := pcn_le (cbs R (okX A c g R) k)
    by_cases q : adn k R = 0
    · rw [if_pos (congrArg nI q)]
      by_cases w : pcn k < pcn (cbs R (okX A c g R) k)
      · rw [if_pos (nI_lt w (by omega))]
        by_cases z : hrA A g ((A 22).testBit g) (adn (A 21) k) = 2 ^ c
        · have ok : okX A c g R k = true := by unfold okX good; rw [decide_eq_true q, decide_eq_true z]; rfl
          rw [if_pos (congrArg nI z)]
          rw [if_pos ⟨ok, w⟩] at ih
          exact ih (by omega)
        · rw [if_neg (fun y => z ((nI_eq (by omega) (by omega)).1 y))]
          rw [if_neg (fun y => by have y := y.1; unfold okX good at y; rw [decide_eq_false z, Bool.and_false] at y; exact absurd y (by decide))] at ih
          exact ih hb
      · rw [if_neg (nI_nlt (by omega) (by omega))]
        rw [if_neg (fun y => w y.2)] at ih
        exact ih hb
    · rw [if_neg (fun y => q ((nI_eq (by omega) (by omega)).1 y))]
      rw [if_neg (fun y => by have y := y.1; unfold okX at y; rw [decide_eq_false q, Bool.false_and] at y; exact absurd y (by decide))] at ih
      exact ih hb
theorem o9_n : o9 none = -nI 9 := rfl
theorem o9_m (b : Nat) : o9 (some b) = nI b := rfl
theorem way_rl {A : Nat → Nat} {hs T c g X : Nat} {P : Nat → Int32} {th : Int32} (hV : VA hs T A) (hP : PG A P) (hc : c < A 25) (hg : g < hs) (hX : X < 128) :
    ∀ (m k fuel : Nat), k + m = X + 1 → m < fuel → f_X6_way_61 (nI hs) P (nI c) (nI g) fuel th (nI X) (o9 (bst (okX A c g X) k)) (nI k) = some (o9 (bst (okX A c g X) (X + 1)), th) := by
  have h7 := hV.2.2.1
  have h3 := hV.1
  have hl := hV.lt
  intro m
  induction m with
  | zero =>
    intro k fuel hk hf
    obtain ⟨d, rfl⟩ : ∃ d, fuel = d + 1 := ⟨fuel - 1, by omega⟩
    have e : k = X + 1 := by omega
    subst e
    simp only [f_X6_way_61, f_X6_way_61_b, kl0, kl1, kl2, kl3, kl4, kl5, kl6, kl7, kl8, kl9, kl10, kl12, kl13, kl14, kl20, kl21, kl22, kl23, kl24, kl25, kl26, kl30, kl31, kl33, kl48, kl49, kl57, kl65, kl66, kl67, kl72, kl89, kl100, kl128, kl255]
    rw [if_pos (nI_lt (by omega) (by omega))]
  | succ m ih =>
    intro k fuel hk hf
    obtain ⟨d, rfl⟩ : ∃ d, fuel = d + 1 := ⟨fuel - 1, by omega⟩
    have ih := ih (k + 1) d (by omega) (by omega)
    have hh := heirs_r hV.bd hP (h := g) (al := adn (A 21) k) (by omega) (by have := adn_lt (b := k) (n := 7) (show A 21 < 2 ^ 7 by omega); omega) ((A 22).testBit g)
    have hb2 := hrA_lt A h7 g ((A 22).testBit g) (adn (A 21) k)
    have hcc : 2 ^ c < 2 ^ 7 := k_two (by omega)
    have ha : adn k X < 2 ^ 7 := adn_lt (show k < 2 ^ 7 by omega)
    have n10 : (nI 1 = nI 0) = False := propext ⟨fun h => absurd h (by decide), False.elim⟩
    rw [bst_s] at ih
    have hbo := (bst_ok (okX A c g X) k).1
    simp only [f_X6_way_61, f_X6_way_61_b, f_X6_way_101, f_X6_way_150, kl0, kl1, kl2, kl3, kl4, kl5, kl6, kl7, kl8, kl9, kl10, kl12, kl13, kl14, kl20, kl21, kl22, kl23, kl24, kl25, kl26, kl30, kl31, kl33, kl48, kl49, kl57, kl65, kl66, kl67, kl72, kl89, kl100, kl128, kl255, if_true, n10, if_false]
    rw [if_neg (nI_nlt (by omega) (by omega)), k_adn, hP 22 (by omega), hP 21 (by omega), k_adn, k_shr (by omega) (by omega), k_and, k_bit, hh, kb1_some, k_sh1 (by omega), k_s1]
    by_cases q : adn k X = 0
    · rw [if_pos (congrArg nI q)]
      have hz : (nI (hrA A g ((A 22).testBit g) (adn (A 21) k)) = nI (2 ^ c)) = (okX A c g X k = true) := by
        unfold okX good
        rw [decide_eq_true q, Bool.true_and, decide_eq_true_iff]
        exact propext (nI_eq (by omega) (by omega))
      simp only [hz]
      cases e : bst (okX A c g X) k with
      | none =>
        rw [e] at ih
        dsimp only at ih
        rw [o9_n, if_pos rfl]
        by_cases z : okX A c g X k = true
        · rw [if_pos z, o9_m] at ih; rw [if_pos z]; exact ih
        · rw [if_neg z, o9_n] at ih; rw [if_neg z]; exact ih
      | some b =>
        rw [e] at ih
        have hb := (hbo b e).1
        dsimp only at ih
        have p1 := pcn_le k
        rw [o9_m]
        have p2 := pcn_le b
        rw [if_neg (o9_s b (by omega)), many_all k (by omega), kb1_some, many_all b (by omega), kb1_some]
        by_cases w : pcn k < pcn b
        · rw [if_neg (nI_ge w (by omega))]
          by_cases z : okX A c g X k = true
          · rw [if_pos z, if_pos w, o9_m] at ih
            rw [if_pos z]
            exact ih
          · rw [if_neg z, o9_m] at ih; rw [if_neg z]; exact ih
        · rw [if_pos (nI_le (by omega) (by omega))]
          by_cases z : okX A c g X k = true
          · rw [if_pos z, if_neg w, o9_m] at ih
            exact ih
          · rw [if_neg z, o9_m] at ih; exact ih
    · rw [if_neg (fun y => q ((nI_eq (by omega) (by omega)).1 y))]
      rw [if_neg (fun y => by unfold okX at y; rw [decide_eq_false q, Bool.false_and] at y; exact absurd y (by decide))] at ih
      exact ih
