/-! MATH 27: the town made anew -/
def pgm (C S : Nat) (b g kd : Nat → Nat) : Nat → Nat := fun k => if k < 7 then (if k < C then b k else 0) else if k < 14 then (if k < 7 + C then g (k - 7) else 0) else if k = 21 then 2 ^ C - 1 else if k = 22 then S else if k = 25 then C else if 26 ≤ k ∧ k < 26 + C then kd (k - 26) else 0
section
variable {C S : Nat} {b g kd : Nat → Nat}
theorem pgm_25 : pgm C S b g kd 25 = C := rfl
theorem pgm_21 : pgm C S b g kd 21 = 2 ^ C - 1 := rfl
theorem pgm_22 : pgm C S b g kd 22 = S := rfl
theorem pgm_23 : pgm C S b g kd 23 = 0 := by
  unfold pgm
  rw [if_neg (by omega), if_neg (by omega), if_neg (by omega), if_neg (by omega), if_neg (by omega), if_neg (by omega)]
theorem pgm_24 : pgm C S b g kd 24 = 0 := by
  unfold pgm
  rw [if_neg (by omega), if_neg (by omega), if_neg (by omega), if_neg (by omega), if_neg (by omega), if_neg (by omega)]
theorem pgm_0 (hC : C ≤ 6) {c : Nat} (hc : c < C) : pgm C S b g kd c = b c := by
  unfold pgm
  rw [if_pos (by omega), if_pos hc]
theorem pgm_7 (hC : C ≤ 6) {c : Nat} (hc : c < C) : pgm C S b g kd (7 + c) = g c := by
  unfold pgm
  rw [if_neg (by omega), if_pos (by omega), if_pos (by omega), Nat.add_sub_cancel_left]
theorem pgm_14 (hC : C ≤ 6) {c : Nat} (hc : c < C) : pgm C S b g kd (14 + c) = 0 := by
  unfold pgm
  rw [if_neg (by omega), if_neg (by omega), if_neg (by omega), if_neg (by omega), if_neg (by omega), if_neg (by omega)]
theorem pgm_26 (hC : C ≤ 6) {c : Nat} (hc : c < C) : pgm C S b g kd (26 + c) = kd c := by
  unfold pgm
  rw [if_neg (by omega), if_neg (by omega), if_neg (by omega), if_neg (by omega), if_neg (by omega), if_pos (by omega), Nat.add_sub_cancel_left]
end
theorem RD_VA {H C S : Nat} {w b g kd : Nat → Nat} {ho ch li si ih ye : Int32} {wr bi hm ki we rh rc : Nat → Int32} (h : RD H C S w b g kd ho ch li si ih ye wr bi hm ki we rh rc) (T : Nat) (hT : T ≤ 600) : VA H T (pgm C S b g kd) ∧ TR H w (pgm C S b g kd) ho ch li si ih ye wr bi hm ki we ∧ WO H w := by
  obtain ⟨h1, h2, h3, q1, q2, q3, q4, q5, q6, h4, h5⟩ := h
  have p0 := Nat.two_pow_pos C
  have pH := Nat.two_pow_pos H
  refine ⟨⟨h1, hT, ?_, ?_, ?_, ?_, ?_, fun c hc => ?_⟩, ⟨q1, ?_, ?_, ?_, ?_, ?_, fun i hi => (h4 i hi).1, fun c hc => ?_, fun c hc => ?_⟩, fun i hi => ⟨(h4 i hi).2.2.2.1, (h4 i hi).2.2.2.2⟩⟩
  · rw [pgm_25]; omega
  · rw [pgm_21, pgm_25]; omega
  · rw [pgm_22]; exact h3
  · rw [pgm_23]; exact pH
  · rw [pgm_24]; omega
  · rw [pgm_25] at hc
    obtain ⟨-, -, -, -, -, -, -, a1, a2, a3⟩ := h5 c hc
    rw [pgm_0 h2 hc, pgm_7 h2 hc, pgm_14 h2 hc, pgm_26 h2 hc]
    omega
  · rw [pgm_25]; exact q2
  · rw [pgm_21]; exact q3
  · rw [pgm_22]; exact q4
  · rw [pgm_23]; exact q5
  · rw [pgm_24]; exact q6
  · rw [pgm_25] at hc
    obtain ⟨b1, b2, b3, -⟩ := h5 c hc
    rw [pgm_0 h2 hc, pgm_7 h2 hc, pgm_24, pgm_26 h2 hc]
    exact ⟨b2, b3, b1⟩
  · rw [pgm_25] at hc
    rw [pgm_14 h2 hc]
    exact (h5 c hc).2.2.2.1
theorem t27_l {n : Int32} {mt : Nat → Int32} {th pl ho rH rC ac : Int32} {mw rh rc ik : Nat → Int32} : ∀ (m k fuel : Nat) (f : Nat → Int32), k + m = 33 → m < fuel → (∀ i, i < k → f i = nI 0) → ∃ f', f_X6_town_27 n mt fuel th pl ho rH rC ac mw rh rc f ik (nI k) = f_X6_town_48 n mt 1000 th pl ho rH rC ac mw rh rc f' ik (nI 0) ∧ ∀ i, i < 33 → f' i = nI 0 := by
  intro m
  induction m with
  | zero =>
    intro k fuel f hk hf h1
    obtain ⟨d, rfl⟩ : ∃ d, fuel = d + 1 := ⟨fuel - 1, by omega⟩
    refine ⟨f, ?_, fun i hi => h1 i (by omega)⟩
    show f_X6_town_27_b _ _ _ _ _ _ _ _ _ _ _ _ _ _ _ = _
    unfold f_X6_town_27_b
    simp only [kl0, kl1, kl2, kl3, kl4, kl5, kl6, kl7, kl8, kl9, kl10, kl12, kl13, kl14, kl20, kl21, kl22, kl23, kl24, kl25, kl26, kl30, kl31, kl33, kl48, kl49, kl57, kl65, kl66, kl67, kl72, kl89, kl100, kl128, kl255]
    rw [if_pos (nI_le (by omega) (by omega))]
  | succ m ih =>
    intro k fuel f hk hf h1
    obtain ⟨d, rfl⟩ : ∃ d, fuel = d + 1 := ⟨fuel - 1, by omega⟩
    obtain ⟨f', g1, g2⟩ := ih (k + 1) d (upd f k (nI 0)) (by omega) (by omega) (fun i hi => by
      by_cases q : i = k
      · subst q; exact upd_s
      · rw [upd_n q]; exact h1 i (by omega))
    refine ⟨f', ?_, g2⟩
    rw [← g1]
    show f_X6_town_27_b _ _ _ _ _ _ _ _ _ _ _ _ _ _ _ = _
    unfold f_X6_town_27_b
    simp only [kl0, kl1, kl2, kl3, kl4, kl5, kl6, kl7, kl8, kl9, kl10, kl12, kl13, kl14, kl20, kl21, kl22, kl23, kl24, kl25, kl26, kl30, kl31, kl33, kl48, kl49, kl57, kl65, kl66, kl67, kl72, kl89, kl100, kl128, kl255]
    rw [if_neg (nI_ge (by omega) (by omega)), kg_yes (kin_y (by omega) (by omega)), nI_clamp (by omega), k_s1]
theorem t48_l {n : Int32} {mt : Nat → Int32} {th pl rC ac : Int32} {rh rc ik : Nat → Int32} {H S : Nat} {w : Nat → Nat} (hH : H ≤ 3) (hr : ∀ i, i < H → rh (2 * i) = nI (S.testBit i).toNat ∧ rh (2 * i + 1) = nI (w i)) : ∀ (m k fuel : Nat) (f mw : Nat → Int32), k + m = H → m < fuel → (∀ i, i < 33 → f i = nI (if i = 22 then bsm S.testBit k else 0)) → (∀ i, i < k → mw i = nI (w i)) →
    ∃ f' mw', f_X6_town_48 n mt fuel th pl (nI H) (nI H) rC ac mw rh rc f ik (nI k) = f_X6_town_100 n mt 1000 th pl (nI H) (nI H) rC ac mw' rh rc f' ik (nI 0) ∧ (∀ i, i < 33 → f' i = nI (if i = 22 then bsm S.testBit H else 0)) ∧ ∀ i, i < H → mw' i = nI (w i) := by
  intro m
  induction m with
  | zero =>
    intro k fuel f mw hk hf h1 h2
    obtain ⟨d, rfl⟩ : ∃ d, fuel = d + 1 := ⟨fuel - 1, by omega⟩
    have e : k = H := by omega
    subst e
    refine ⟨f, mw, ?_, h1, h2⟩
    show f_X6_town_48_b _ _ _ _ _ _ _ _ _ _ _ _ _ _ _ = _
    unfold f_X6_town_48_b
    simp only [kl0, kl1, kl2, kl3, kl4, kl5, kl6, kl7, kl8, kl9, kl10, kl12, kl13, kl14, kl20, kl21, kl22, kl23, kl24, kl25, kl26, kl30, kl31, kl33, kl48, kl49, kl57, kl65, kl66, kl67, kl72, kl89, kl100, kl128, kl255]
    rw [if_pos (nI_le (Nat.le_refl _) (by omega))]
  | succ m ih =>
    intro k fuel f mw hk hf h1 h2
    obtain ⟨d, rfl⟩ : ∃ d, fuel = d + 1 := ⟨fuel - 1, by omega⟩
    obtain ⟨r1, r2⟩ := hr k (by omega)
    have hkp : 2 ^ k < 2 ^ 31 := k_two (by omega)
    obtain ⟨f', mw', g1, g2, g3⟩ := ih (k + 1) d (upd f 22 (nI (bsm S.testBit (k + 1)))) (upd mw k (nI (w k))) (by omega) (by omega) (fun i hi => by
      by_cases q : i = 22
      · subst q; rw [upd_s, if_pos rfl]
      · rw [upd_n q, h1 i hi, if_neg q, if_neg q]) (fun i hi => by
      by_cases q : i = k
      · subst q; exact upd_s
      · rw [upd_n q]; exact h2 i (by omega))
    refine ⟨f', mw', ?_, g2, g3⟩
    rw [← g1]
    show f_X6_town_48_b _ _ _ _ _ _ _ _ _ _ _ _ _ _ _ = _
    unfold f_X6_town_48_b
    simp only [kl0, kl1, kl2, kl3, kl4, kl5, kl6, kl7, kl8, kl9, kl10, kl12, kl13, kl14, kl20, kl21, kl22, kl23, kl24, kl25, kl26, kl30, kl31, kl33, kl48, kl49, kl57, kl65, kl66, kl67, kl72, kl89, kl100, kl128, kl255]
    rw [if_neg (nI_ge (by omega) (by omega)), k_mul, k_s1, kg_yes (kin_y (by omega) (by omega)), kg_yes (kin_y (by omega) (by omega)), kg_yes (kin_y (by omega) (by omega)), nI_clamp (by omega), nI_clamp (by omega), nI_clamp (by omega), r1, r2, h1 22 (by omega), if_pos rfl, k_s1]
    have e : nI (S.testBit k).toNat <<< (nI k &&& nI 31) = nI (if S.testBit k = true then 2 ^ k else 0) := by
      cases S.testBit k with
      | true => exact k_sh1 (by omega)
      | false => rw [show false.toNat = 0 from rfl, k_shl (by omega) (by omega), Nat.zero_mul]; rfl
    rw [e, k_or]
    rfl
theorem t100_l {n : Int32} {mt : Nat → Int32} {th pl ac : Int32} {mw rh rc ik : Nat → Int32} {H C S : Nat} {b g kd : Nat → Nat} (hH : H ≤ 3) (hC : C ≤ 6) (hr : ∀ c, c < C → rc (3 * c) = nI (b c) ∧ rc (3 * c + 1) = nI (g c) ∧ rc (3 * c + 2) = nI (kd c)) : ∀ (m k fuel : Nat) (f : Nat → Int32), k + m = C → m < fuel → (∀ i, i < 33 → f i = nI (if i = 22 then S else if i < k then b i else if 7 ≤ i ∧ i < 7 + k then g (i - 7) else if 26 ≤ i ∧ i < 26 + k then kd (i - 26) else 0)) →
    ∃ f', f_X6_town_100 n mt fuel th pl (nI H) (nI H) (nI C) ac mw rh rc f ik (nI k) = some (nI (10 * H + C), th, pl, nI H, nI H, nI C, nI 0, mw, rh, rc, f', upd (upd ik 0 (nI 0)) 1 (nI 0)) ∧ PG (pgm C S b g kd) f' := by
  intro m
  induction m with
  | zero =>
    intro k fuel f hk hf h1
    obtain ⟨d, rfl⟩ : ∃ d, fuel = d + 1 := ⟨fuel - 1, by omega⟩
    have e : k = C := by omega
    subst e
    simp only [f_X6_town_100, f_X6_town_100_b, kl0, kl1, kl2, kl3, kl4, kl5, kl6, kl7, kl8, kl9, kl10, kl12, kl13, kl14, kl20, kl21, kl22, kl23, kl24, kl25, kl26, kl30, kl31, kl33, kl48, kl49, kl57, kl65, kl66, kl67, kl72, kl89, kl100, kl128, kl255]
    rw [if_pos (nI_le (Nat.le_refl _) (by omega)), k_sh1 (by omega), k_sub (Nat.two_pow_pos k), upd_n (show 25 ≠ 21 by omega), upd_s, k_mul, nI_add]
    refine ⟨_, rfl, fun i hi => ?_⟩
    unfold pgm
    by_cases q21 : i = 21
    · subst q21; rw [upd_s]; rfl
    rw [upd_n q21]
    by_cases q25 : i = 25
    · subst q25; rw [upd_s]; rfl
    rw [upd_n q25, h1 i hi]
    congr 1
    by_cases c1 : i < 7
    · rw [if_neg (by omega), if_pos c1]
      by_cases c2 : i < k
      · rw [if_pos c2, if_pos c2]
      · rw [if_neg c2, if_neg c2, if_neg (by omega), if_neg (by omega)]
    rw [if_neg c1]
    by_cases c2 : i < 14
    · rw [if_pos c2, if_neg (by omega), if_neg (by omega)]
      by_cases c3 : i < 7 + k
      · rw [if_pos ⟨by omega, c3⟩, if_pos c3]
      · rw [if_neg (by omega), if_neg c3, if_neg (by omega)]
    rw [if_neg c2, if_neg q21]
    by_cases c3 : i = 22
    · rw [if_pos c3, if_pos c3]
    rw [if_neg c3, if_neg c3, if_neg q25, if_neg (by omega), if_neg (by omega)]
  | succ m ih =>
    intro k fuel f hk hf h1
    obtain ⟨d, rfl⟩ : ∃ d, fuel = d + 1 := ⟨fuel - 1, by omega⟩
    obtain ⟨r1, r2, r3⟩ := hr k (by omega)
    simp only [f_X6_town_100, f_X6_town_100_b, kl0, kl1, kl2, kl3, kl4, kl5, kl6, kl7, kl8, kl9, kl10, kl12, kl13, kl14, kl20, kl21, kl22, kl23, kl24, kl25, kl26, kl30, kl31, kl33, kl48, kl49, kl57, kl65, kl66, kl67, kl72, kl89, kl100, kl128, kl255]
    rw [if_neg (nI_ge (by omega) (by omega)), k_mul, k_s1, nI_add (3 * k) 2, nI_add 0 k, nI_add 7 k, nI_add 26 k, kg_yes (kin_y (by omega) (by omega)), kg_yes (kin_y (by omega) (by omega)), kg_yes (kin_y (by omega) (by omega)), kg_yes (kin_y (by omega) (by omega)), kg_yes (kin_y (by omega) (by omega)), kg_yes (kin_y (by omega) (by omega)), nI_clamp (show 3 * k < 2 ^ 31 by omega), nI_clamp (show 3 * k + 1 < 2 ^ 31 by omega), nI_clamp (show 3 * k + 2 < 2 ^ 31 by omega), nI_clamp (show 0 + k < 2 ^ 31 by omega), nI_clamp (show 7 + k < 2 ^ 31 by omega), nI_clamp (show 26 + k < 2 ^ 31 by omega), r1, r2, r3, k_s1, Nat.zero_add]
    refine ih (k + 1) d _ (by omega) (by omega) (fun i hi => ?_)
    by_cases q1 : i = 26 + k
    · subst q1
      rw [upd_s, if_neg (by omega), if_neg (by omega), if_neg (by omega), if_pos (by omega), Nat.add_sub_cancel_left]
    rw [upd_n q1]
    by_cases q2 : i = 7 + k
    · subst q2
      rw [upd_s, if_neg (by omega), if_neg (by omega), if_pos (by omega), Nat.add_sub_cancel_left]
    rw [upd_n q2]
    by_cases q3 : i = k
    · subst q3
      rw [upd_s, if_neg (by omega), if_pos (by omega)]
    rw [upd_n q3, h1 i hi]
    congr 1
    by_cases c1 : i = 22
    · rw [if_pos c1, if_pos c1]
    rw [if_neg c1, if_neg c1]
    by_cases c2 : i < k
    · rw [if_pos c2, if_pos (by omega)]
    rw [if_neg c2, if_neg (show ¬ i < k + 1 by omega)]
    by_cases c3 : 7 ≤ i ∧ i < 7 + k
    · rw [if_pos c3, if_pos (by omega)]
    rw [if_neg c3, if_neg (show ¬ (7 ≤ i ∧ i < 7 + (k + 1)) by omega)]
    by_cases c4 : 26 ≤ i ∧ i < 26 + k
    · rw [if_pos c4, if_pos (by omega)]
    rw [if_neg c4, if_neg (show ¬ (26 ≤ i ∧ i < 26 + (k + 1)) by omega)]
theorem bsm_id {S n : Nat} (h : S < 2 ^ n) : bsm S.testBit n = S := tb_ext (fun i => by
  rw [bsm_tb]
  by_cases q : i < n
  · rw [decide_eq_true q, Bool.true_and]
  · rw [decide_eq_false q, Bool.false_and, tb_big h (by omega)])
theorem SL_0 (hs T : Nat) (wo : Nat → Nat) (a1 a2 a3 a4 a5 a6 : Int32) (p1 p2 p3 p4 p5 : Nat → Int32) (b1 b2 b3 b4 b5 b6 : Int32) (r1 r2 r3 r4 r5 kept : Nat → Int32) {isK : Nat → Int32} (h0 : isK 0 = nI 0) (h1 : isK 1 = nI 0) : SL hs T wo (nI 0) a1 a2 a3 a4 a5 a6 p1 p2 p3 p4 p5 b1 b2 b3 b4 b5 b6 r1 r2 r3 r4 r5 kept isK :=
  ⟨0, by omega, rfl, by rw [h0, Nat.zero_testBit]; rfl, by rw [h1, Nat.zero_testBit]; rfl, fun q => absurd q (by rw [Nat.zero_testBit]; exact Bool.false_ne_true), fun q => absurd q (by rw [Nat.zero_testBit]; exact Bool.false_ne_true)⟩
theorem cmd_town {hs T na n : Nat} {wo : Nat → Nat} {ho ch li si ih ye : Int32} {wr bi hm ki we wt wh bf P bk tb mt mw : Nat → Int32} (hX : TX n tb mt) (hS : ST hs T wo na ho ch li si ih ye wr bi hm ki we wt wh bf P bk) (hT : T < 600) (hwo : WO hs wo) (hmw : WM hs wo mw)
    {ks a1 a2 a3 a4 a5 a6 : Int32} {p1 p2 p3 p4 p5 : Nat → Int32} {b1 b2 b3 b4 b5 b6 : Int32} {r1 r2 r3 r4 r5 kept isK : Nat → Int32} (hL : SL hs T wo ks a1 a2 a3 a4 a5 a6 p1 p2 p3 p4 p5 b1 b2 b3 b4 b5 b6 r1 r2 r3 r4 r5 kept isK) (d1 d2 d3 d4 d5 d6 : Int32) (e1 e2 e3 e4 e5 : Nat → Int32) (th pl rH rC : Int32) (rh rc : Nat → Int32) :
    ∃ r ks' ho' ch' li' si' ih' ye' wr' bi' hm' ki' we' d1' d2' d3' d4' d5' d6' e1' e2' e3' e4' e5' na' th' pl' hs' rH' rC' mw' rh' rc' P' isK' wo',
      f_X5_town (nI n) tb ks ho ch li si ih ye wr bi hm ki we d1 d2 d3 d4 d5 d6 e1 e2 e3 e4 e5 (nI na) = some (r, ks', ho', ch', li', si', ih', ye', wr', bi', hm', ki', we', d1', d2', d3', d4', d5', d6', e1', e2', e3', e4', e5', nI na') ∧
      f_X6_town (nI n) mt th pl (nI hs) rH rC (nI na) mw rh rc P isK = some (r, th', pl', nI hs', rH', rC', nI na', mw', rh', rc', P', isK') ∧
      ST hs' (T + 1) wo' na' ho' ch' li' si' ih' ye' wr' bi' hm' ki' we' wt wh bf P' bk ∧ WO hs' wo' ∧ WM hs' wo' mw' ∧ SL hs' (T + 1) wo' ks' a1 a2 a3 a4 a5 a6 p1 p2 p3 p4 p5 b1 b2 b3 b4 b5 b6 r1 r2 r3 r4 r5 kept isK' := by
  obtain ⟨r, ho1, ch1, li1, si1, ih1, ye1, wr1, bi1, hm1, ki1, we1, pl1, H, C, rh1, rc1, g1, g2, g3⟩ := read_n hX d1 d2 d3 d4 d5 d6 e1 e2 e3 e4 e5 pl rH rC rh rc
  unfold f_X5_town f_X6_town
  simp only [kl0, kl1, kl2, kl3, kl4, kl5, kl6, kl7, kl8, kl9, kl10, kl12, kl13, kl14, kl20, kl21, kl22, kl23, kl24, kl25, kl26, kl30, kl31, kl33, kl48, kl49, kl57, kl65, kl66, kl67, kl72, kl89, kl100, kl128, kl255]
  rw [g1, g2, kb1_some, kb1_some]
  dsimp only
  by_cases hr : r = -nI 9
  · obtain ⟨S, w, b, g, kd, hRD⟩ := g3 hr
    obtain ⟨k1, k2, k3⟩ := RD_VA hRD (T + 1) (by omega)
    obtain ⟨v1, v2, v3, rfl, rfl, -, -, -, -, v4, v5⟩ := hRD
    obtain ⟨w', b', m', k', v', t1, t2⟩ := take_TR k1.1 k1.2.2.1 k2 ho ch li si ih ye wr bi hm ki we
    obtain ⟨f1, u1, u2⟩ := t27_l (n := nI n) (mt := mt) (th := nI 0) (pl := pl1) (ho := nI H) (rH := nI H) (rC := nI C) (ac := nI na) (mw := mw) (rh := rh1) (rc := rc1) (ik := isK) 33 0 1000 P (by omega) (by omega) (fun i hi => by omega)
    obtain ⟨f2, mw2, u3, u4, u5⟩ := t48_l (n := nI n) (mt := mt) (th := nI 0) (pl := pl1) (rC := nI C) (ac := nI na) (rh := rh1) (rc := rc1) (ik := isK) (S := S) (w := w) v1 (fun i hi => ⟨(v4 i hi).2.1, (v4 i hi).2.2.1⟩) H 0 1000 f1 mw (by omega) (by omega) (fun i hi => by rw [u2 i hi]; by_cases q : i = 22 <;> simp [q, bsm]) (fun i hi => by omega)
    rw [bsm_id v3] at u4
    obtain ⟨f3, u6, u7⟩ := t100_l (n := nI n) (mt := mt) (th := nI 0) (pl := pl1) (ac := nI na) (mw := mw2) (rh := rh1) (rc := rc1) (ik := isK) (S := S) (b := b) (g := g) (kd := kd) v1 v2 (fun c hc => ⟨(v5 c hc).2.2.2.2.1, (v5 c hc).2.2.2.2.2.1, (v5 c hc).2.2.2.2.2.2.1⟩) C 0 1000 f2 (by omega) (by omega) (fun i hi => by
      rw [u4 i hi]
      by_cases q : i = 22
      · rw [if_pos q, if_pos q]
      · rw [if_neg q, if_neg q, if_neg (by omega), if_neg (by omega), if_neg (by omega)])
    rw [if_pos hr, if_pos hr, t1, kb1_some, u1, u3, u6]
    dsimp only
    rw [k_mul, nI_add]
    exact ⟨_, _, _, _, _, _, _, _, _, _, _, _, _, _, _, _, _, _, _, _, _, _, _, _, 0, _, _, H, _, _, _, _, _, _, _, w, rfl, rfl, ⟨_, k1, t2, u7, AC_0 _ _ _ _ _ _ _ _⟩, k3, u5, SL_0 _ _ _ _ _ _ _ _ _ _ _ _ _ _ _ _ _ _ _ _ _ _ _ _ _ _ (by rw [upd_n (by omega), upd_s]) upd_s⟩
  · rw [if_neg hr, if_neg hr]
    exact ⟨_, _, _, _, _, _, _, _, _, _, _, _, _, _, _, _, _, _, _, _, _, _, _, _, na, _, _, hs, _, _, _, _, _, _, _, wo, rfl, rfl, hS.mono (by omega) (by omega), hwo, hmw, hL.mono (by omega) (by omega)⟩
