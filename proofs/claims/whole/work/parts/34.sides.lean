/-! MATH 14: sides -/
def rcS (w : Nat → Nat) : Nat → Nat
  | 0 => 0
  | k + 1 => if w k = 0 then rcS w k + 1 else rcS w k
theorem rcS_s (w : Nat → Nat) (k : Nat) : rcS w (k + 1) = if w k = 0 then rcS w k + 1 else rcS w k := rfl
theorem rcS_le (w : Nat → Nat) : ∀ k, rcS w k ≤ k
  | 0 => Nat.le_refl _
  | k + 1 => by have := rcS_le w k; rw [rcS_s]; split <;> omega
def onS (w : Nat → Nat) (m : Nat) : Nat → Nat
  | 0 => m
  | k + 1 => if w k = 0 then onS w m k &&& k else onS w m k
theorem onS_s (w : Nat → Nat) (m k : Nat) : onS w m (k + 1) = if w k = 0 then onS w m k &&& k else onS w m k := rfl
def noS (w : Nat → Nat) (m : Nat) : Nat → Nat
  | 0 => m
  | k + 1 => if w k = 0 then adn (noS w m k) k else noS w m k
theorem noS_s (w : Nat → Nat) (m k : Nat) : noS w m (k + 1) = if w k = 0 then adn (noS w m k) k else noS w m k := rfl
theorem onS_le (w : Nat → Nat) (m : Nat) : ∀ k, onS w m k ≤ m
  | 0 => Nat.le_refl _
  | k + 1 => by
    have := onS_le w m k
    rw [onS_s]; split
    · exact Nat.le_trans Nat.and_le_left this
    · exact this
theorem adn_le8 : ∀ a, a < 8 → ∀ k, k < 8 → adn a k ≤ a := by decide +kernel
theorem noS_le (w : Nat → Nat) {m : Nat} (hm : m < 8) : ∀ k, k ≤ 8 → noS w m k ≤ m
  | 0, _ => Nat.le_refl _
  | k + 1, h => by
    have := noS_le w hm k (by omega)
    rw [noS_s]; split
    · exact Nat.le_trans (adn_le8 _ (by omega) k (by omega)) this
    · exact this
theorem onS_0 {w : Nat → Nat} {m : Nat} : ∀ {k}, rcS w k = 0 → onS w m k = m ∧ noS w m k = m
  | 0, _ => ⟨rfl, rfl⟩
  | k + 1, h => by
    rw [rcS_s] at h
    by_cases q : w k = 0
    · rw [if_pos q] at h; omega
    · rw [if_neg q] at h
      rw [onS_s, noS_s, if_neg q, if_neg q]
      exact onS_0 h
theorem mk_and : ∀ h, h < 4 → ∀ k, k < 2 ^ h → (2 ^ h - 1) &&& k = k := by decide +kernel
theorem mk_adn : ∀ h, h < 4 → ∀ a, a < 2 ^ h → ∀ k, k < 8 → a &&& adn (2 ^ h - 1) k = adn a k := by decide +kernel
def lwS (w : Nat → Nat) : Nat → Nat × Nat
  | 0 => (0, w 0)
  | k + 1 => if (lwS w k).2 ≤ w (k + 1) then lwS w k else (k + 1, w (k + 1))
theorem lwS_s (w : Nat → Nat) (k : Nat) : lwS w (k + 1) = if (lwS w k).2 ≤ w (k + 1) then lwS w k else (k + 1, w (k + 1)) := rfl
theorem lwS_b {w : Nat → Nat} {m : Nat} (h : ∀ s, w s ≤ m) : ∀ k, (lwS w k).2 ≤ m ∧ (lwS w k).1 ≤ k
  | 0 => ⟨h 0, Nat.le_refl _⟩
  | k + 1 => by
    have := lwS_b h k
    rw [lwS_s]; split
    · exact ⟨this.1, by omega⟩
    · exact ⟨h _, Nat.le_refl _⟩
section
variable {A : Nat → Nat} {hs n : Nat} {H C L : Nat → Nat} {sh sc sl mh mc ml bi hm ki P : Nat → Int32}
theorem right_cl (hN : SN n H C L sh sc sl mh mc ml) (hB : BD A) (hT : CT A bi hm ki) (h3 : hs ≤ 3) :
    ∀ (m c fuel : Nat), c + m = 2 ^ hs → m < fuel → f_X2_countRight_4 (nI n) sh sc sl (nI hs) (nI (A 25)) bi hm ki fuel (nI (rcS (fun S => cw A hs H C L S n) c)) (nI c) = some (nI (rcS (fun S => cw A hs H C L S n) (2 ^ hs))) := by
  have p8 := p2_le3 h3
  intro m
  induction m with
  | zero =>
    intro c fuel hc hf
    obtain ⟨k, rfl⟩ : ∃ k, fuel = k + 1 := ⟨fuel - 1, by omega⟩
    have e : c = 2 ^ hs := by omega
    subst e
    simp only [f_X2_countRight_4, f_X2_countRight_4_b]
    rw [bit_n (by omega), kb1_some, if_pos (nI_le (Nat.le_refl _) (by omega))]
  | succ m ih =>
    intro c fuel hc hf
    obtain ⟨k, rfl⟩ : ∃ k, fuel = k + 1 := ⟨fuel - 1, by omega⟩
    have ih := ih (c + 1) k (by omega) (by omega)
    have hcl := cw_le A hs H C L c n
    have n6 := hN.1
    rw [rcS_s] at ih
    simp only [f_X2_countRight_4, f_X2_countRight_4_b, kl0, kl1, kl2, kl3, kl4, kl5, kl6, kl7, kl8, kl9, kl10, kl12, kl13, kl14, kl20, kl21, kl22, kl23, kl24, kl25, kl26, kl30, kl31, kl33, kl48, kl49, kl57, kl65, kl66, kl67, kl72, kl89, kl100, kl128, kl255]
    rw [bit_n (by omega), kb1_some, if_neg (nI_ge (by omega) (by omega)), wrong_c hN hB hT h3 (by omega), kb1_some, k_s1, k_s1]
    by_cases q : cw A hs H C L c n = 0
    · rw [if_pos q] at ih
      rw [if_pos (congrArg nI q)]
      exact ih
    · rw [if_neg q] at ih
      rw [if_neg (fun z => q ((nI_eq (by omega) (by omega)).1 z))]
      exact ih
def c9 (r v : Nat) : Int32 := if r = 0 then (-nI 9) else nI v
theorem c9_9 {r v : Nat} (hv : v < 8) : (c9 r v = -nI 9) = (r = 0) := by
  unfold c9
  by_cases q : r = 0
  · rw [if_pos q]; exact propext ⟨fun _ => q, fun _ => rfl⟩
  · rw [if_neg q]
    refine propext ⟨fun z => ?_, fun z => absurd z q⟩
    have : v = 0 ∨ v = 1 ∨ v = 2 ∨ v = 3 ∨ v = 4 ∨ v = 5 ∨ v = 6 ∨ v = 7 := by omega
    rcases this with h | h | h | h | h | h | h | h <;> subst h <;> exact absurd z (by decide)
theorem on_cl (hN : SN n H C L sh sc sl mh mc ml) (hB : BD A) (hT : CT A bi hm ki) (h3 : hs ≤ 3) :
    ∀ (m c fuel : Nat), c + m = 2 ^ hs → m < fuel → f_X2_alwaysOn_6 (nI n) sh sc sl (nI hs) (nI (A 25)) bi hm ki (nI 1) fuel (c9 (rcS (fun S => cw A hs H C L S n) c) (onS (fun S => cw A hs H C L S n) (2 ^ hs - 1) c)) (nI c) = some (c9 (rcS (fun S => cw A hs H C L S n) (2 ^ hs)) (onS (fun S => cw A hs H C L S n) (2 ^ hs - 1) (2 ^ hs))) := by
  have p8 := p2_le3 h3
  intro m
  induction m with
  | zero =>
    intro c fuel hc hf
    obtain ⟨k, rfl⟩ : ∃ k, fuel = k + 1 := ⟨fuel - 1, by omega⟩
    have e : c = 2 ^ hs := by omega
    subst e
    simp only [f_X2_alwaysOn_6, f_X2_alwaysOn_6_b]
    rw [bit_n (by omega), kb1_some, if_pos (nI_le (Nat.le_refl _) (by omega))]
  | succ m ih =>
    intro c fuel hc hf
    obtain ⟨k, rfl⟩ : ∃ k, fuel = k + 1 := ⟨fuel - 1, by omega⟩
    have ih := ih (c + 1) k (by omega) (by omega)
    have hcl := cw_le A hs H C L c n
    have n6 := hN.1
    have hon := onS_le (fun S => cw A hs H C L S n) (2 ^ hs - 1) c
    rw [rcS_s, onS_s] at ih
    simp only [f_X2_alwaysOn_6, f_X2_alwaysOn_6_b, f_X2_alwaysOn_55, kl0, kl1, kl2, kl3, kl4, kl5, kl6, kl7, kl8, kl9, kl10, kl12, kl13, kl14, kl20, kl21, kl22, kl23, kl24, kl25, kl26, kl30, kl31, kl33, kl48, kl49, kl57, kl65, kl66, kl67, kl72, kl89, kl100, kl128, kl255]
    rw [bit_n (by omega), kb1_some, if_neg (nI_ge (by omega) (by omega)), wrong_c hN hB hT h3 (by omega), kb1_some, k_s1]
    simp only [if_true]
    by_cases q : cw A hs H C L c n = 0
    · rw [if_pos q, if_pos q] at ih
      rw [if_pos (congrArg nI q)]
      simp only [c9_9 (show onS (fun S => cw A hs H C L S n) (2 ^ hs - 1) c < 8 by omega)]
      by_cases r : rcS (fun S => cw A hs H C L S n) c = 0
      · rw [if_pos r]
        rw [(onS_0 r).1, mk_and hs (by omega) c (by omega)] at ih
        unfold c9 at ih ⊢
        rw [if_neg (by omega)] at ih
        exact ih
      · rw [if_neg r]
        unfold c9 at ih ⊢
        rw [if_neg (by omega)] at ih
        rw [if_neg r, k_and]
        exact ih
    · rw [if_neg q, if_neg q] at ih
      rw [if_neg (fun z => q ((nI_eq (by omega) (by omega)).1 z))]
      exact ih
theorem no_cl (hN : SN n H C L sh sc sl mh mc ml) (hB : BD A) (hT : CT A bi hm ki) (h3 : hs ≤ 3) :
    ∀ (m c fuel : Nat), c + m = 2 ^ hs → m < fuel → f_X2_alwaysOn_6 (nI n) sh sc sl (nI hs) (nI (A 25)) bi hm ki (nI 0) fuel (c9 (rcS (fun S => cw A hs H C L S n) c) (noS (fun S => cw A hs H C L S n) (2 ^ hs - 1) c)) (nI c) = some (c9 (rcS (fun S => cw A hs H C L S n) (2 ^ hs)) (noS (fun S => cw A hs H C L S n) (2 ^ hs - 1) (2 ^ hs))) := by
  have p8 := p2_le3 h3
  have p0 := Nat.two_pow_pos hs
  intro m
  induction m with
  | zero =>
    intro c fuel hc hf
    obtain ⟨k, rfl⟩ : ∃ k, fuel = k + 1 := ⟨fuel - 1, by omega⟩
    have e : c = 2 ^ hs := by omega
    subst e
    simp only [f_X2_alwaysOn_6, f_X2_alwaysOn_6_b]
    rw [bit_n (by omega), kb1_some, if_pos (nI_le (Nat.le_refl _) (by omega))]
  | succ m ih =>
    intro c fuel hc hf
    obtain ⟨k, rfl⟩ : ∃ k, fuel = k + 1 := ⟨fuel - 1, by omega⟩
    have ih := ih (c + 1) k (by omega) (by omega)
    have hcl := cw_le A hs H C L c n
    have n6 := hN.1
    have hon := noS_le (fun S => cw A hs H C L S n) (m := 2 ^ hs - 1) (by omega) c (by omega)
    have e1 : nI (2 ^ hs) - nI 1 = nI (2 ^ hs - 1) := by
      obtain ⟨d, hd⟩ : ∃ d, 2 ^ hs = d + 1 := ⟨2 ^ hs - 1, by omega⟩
      rw [hd, k_p1]; rfl
    rw [rcS_s, noS_s] at ih
    simp only [f_X2_alwaysOn_6, f_X2_alwaysOn_6_b, f_X2_alwaysOn_55, kl0, kl1, kl2, kl3, kl4, kl5, kl6, kl7, kl8, kl9, kl10, kl12, kl13, kl14, kl20, kl21, kl22, kl23, kl24, kl25, kl26, kl30, kl31, kl33, kl48, kl49, kl57, kl65, kl66, kl67, kl72, kl89, kl100, kl128, kl255]
    rw [bit_n (by omega), kb1_some, if_neg (nI_ge (by omega) (by omega)), wrong_c hN hB hT h3 (by omega), kb1_some, k_s1, if_neg (show ¬ nI 0 = nI 1 by decide), kb1_some, e1, k_adn]
    by_cases q : cw A hs H C L c n = 0
    · rw [if_pos q, if_pos q] at ih
      rw [if_pos (congrArg nI q)]
      simp only [c9_9 (show noS (fun S => cw A hs H C L S n) (2 ^ hs - 1) c < 8 by omega)]
      by_cases r : rcS (fun S => cw A hs H C L S n) c = 0
      · rw [if_pos r]
        rw [(onS_0 r).2] at ih
        unfold c9 at ih ⊢
        rw [if_neg (by omega)] at ih
        exact ih
      · rw [if_neg r]
        unfold c9 at ih ⊢
        rw [if_neg (by omega)] at ih
        rw [if_neg r, k_and, mk_adn hs (by omega) _ (by omega) c (by omega)]
        exact ih
    · rw [if_neg q, if_neg q] at ih
      rw [if_neg (fun z => q ((nI_eq (by omega) (by omega)).1 z))]
      exact ih
theorem least_cl (hN : SN n H C L sh sc sl mh mc ml) (hB : BD A) (hT : CT A bi hm ki) (h3 : hs ≤ 3) :
    ∀ (m c fuel : Nat), c + 1 + m = 2 ^ hs → m < fuel → f_X2_leastWrong_12 (nI n) sh sc sl (nI hs) (nI (A 25)) bi hm ki fuel (nI (lwS (fun S => cw A hs H C L S n) c).1) (nI (lwS (fun S => cw A hs H C L S n) c).2) (nI (c + 1)) = some (nI (lwS (fun S => cw A hs H C L S n) (2 ^ hs - 1)).1) := by
  have p8 := p2_le3 h3
  have n6 := hN.1
  intro m
  induction m with
  | zero =>
    intro c fuel hc hf
    obtain ⟨k, rfl⟩ : ∃ k, fuel = k + 1 := ⟨fuel - 1, by omega⟩
    have e : c = 2 ^ hs - 1 := by omega
    subst e
    simp only [f_X2_leastWrong_12, f_X2_leastWrong_12_b]
    rw [bit_n (by omega), kb1_some, if_pos (nI_le (by omega) (by omega))]
  | succ m ih =>
    intro c fuel hc hf
    obtain ⟨k, rfl⟩ : ∃ k, fuel = k + 1 := ⟨fuel - 1, by omega⟩
    have ih := ih (c + 1) k (by omega) (by omega)
    have hcl := cw_le A hs H C L (c + 1) n
    have hb := lwS_b (w := fun S => cw A hs H C L S n) (m := n) (fun s => cw_le A hs H C L s n) c
    rw [lwS_s] at ih
    simp only [f_X2_leastWrong_12, f_X2_leastWrong_12_b, kl0, kl1, kl2, kl3, kl4, kl5, kl6, kl7, kl8, kl9, kl10, kl12, kl13, kl14, kl20, kl21, kl22, kl23, kl24, kl25, kl26, kl30, kl31, kl33, kl48, kl49, kl57, kl65, kl66, kl67, kl72, kl89, kl100, kl128, kl255]
    rw [bit_n (by omega), kb1_some, if_neg (nI_ge (by omega) (by omega)), wrong_c hN hB hT h3 (by omega), kb1_some, k_s1]
    by_cases q : (lwS (fun S => cw A hs H C L S n) c).2 ≤ cw A hs H C L (c + 1) n
    · rw [if_pos q] at ih
      rw [if_pos (nI_le q (by omega))]
      exact ih
    · rw [if_neg q] at ih
      rw [if_neg (nI_ge (by omega) (by omega))]
      exact ih
end
