/-! MATH 6: mend, and reading commands -/
/-- the best house, the least of like ones -/
def msv (v : Nat → Nat) : Nat → Nat × Nat
  | 0 => (v 0, 0)
  | k + 1 => if (msv v k).1 < v (k + 1) then (v (k + 1), k + 1) else msv v k
theorem msv_0 (v : Nat → Nat) : msv v 0 = (v 0, 0) := rfl
theorem msv_s (v : Nat → Nat) (k : Nat) : msv v (k + 1) = if (msv v k).1 < v (k + 1) then (v (k + 1), k + 1) else msv v k := rfl
theorem msv_b (v : Nat → Nat) {m : Nat} (h : ∀ s, v s ≤ m) : ∀ k, (msv v k).1 ≤ m
  | 0 => h 0
  | k + 1 => by
    unfold msv
    split
    · exact h _
    · exact msv_b v h k
def mdv (A wo : Nat → Nat) (c h : Nat) : Nat := gtS (au A (7 + c) (min h 2)) wo c
theorem BD_mv {A : Nat → Nat} (h : BD A) {c v : Nat} (hc : c < A 25) (hv : v < 3) : BD (au A (7 + c) v) := by
  obtain ⟨h1, h2, h3⟩ := h
  have e25 : au A (7 + c) v 25 = A 25 := au_n A v (by omega)
  have e24 : au A (7 + c) v 24 = A 24 := au_n A v (by omega)
  refine ⟨by rw [e25]; exact h1, by rw [e24]; exact h2, fun i hi => ?_⟩
  rw [e25] at hi
  have := h3 i hi
  rw [au_n A v (show i ≠ 7 + c by omega), au_n A v (show 26 + i ≠ 7 + c by omega)]
  refine ⟨this.1, ?_, this.2.2⟩
  by_cases e : 7 + i = 7 + c
  · rw [e, au_s]; exact hv
  · rw [au_n A v e]; exact this.2.1
theorem CT_mv {A : Nat → Nat} {c : Nat} {bi hm ki : Nat → Int32} (h7 : A 25 ≤ 7) (h : ∀ i, i < A 25 → (i ≠ c → hm i = nI (A (7 + i))) ∧ ki i = nI (A (26 + i)) ∧ bi i = nI (A 24) - nI (A i)) (hc : c < A 25) (v : Nat) : CT (au A (7 + c) v) bi (upd hm c (nI v)) ki := by
  intro i hi
  rw [au_n _ _ (by omega)] at hi
  have := h i hi
  rw [au_n A v (show 26 + i ≠ 7 + c by omega), au_n A v (show 24 ≠ 7 + c by omega), au_n A v (show i ≠ 7 + c by omega)]
  refine ⟨?_, this.2⟩
  by_cases e : i = c
  · subst e; rw [upd_s, au_s]
  · rw [upd_n e, au_n _ _ (by omega)]; exact this.1 e
theorem WE_mv {A : Nat → Nat} {we : Nat → Int32} (h : WE A we) (h7 : A 25 ≤ 7) {c : Nat} (v : Nat) (hc : c < A 25) : WE (au A (7 + c) v) we := by
  intro i hi
  rw [au_n _ _ (by omega)] at hi
  rw [au_n _ _ (by omega)]
  exact h i hi
theorem mdv_le {A wo : Nat → Nat} {hs T c : Nat} (hV : VA hs T A) (hwo : WO hs wo) (hc : c < A 25) (h : Nat) (hh : h < hs) : mdv A wo c h ≤ 6000 := by
  have hd := hV.2.2.2.2.2.2.2 c hc
  have h7 := hV.2.2.1
  have h3 := hV.1
  have hT := hV.2.1
  unfold mdv gtS
  have hm : min h 2 = h := by omega
  rw [hm]
  have := ctr_le (A := au A (7 + c) h) (c := c) hwo (by rw [au_s]; exact hh)
  rw [au_n _ _ (by omega)]
  omega
theorem msv_hs {A wo : Nat → Nat} {hs T c : Nat} (hV : VA hs T A) (hwo : WO hs wo) (hc : c < A 25) : ∀ k, k < hs → (msv (mdv A wo c) k).1 ≤ 6000
  | 0, h => mdv_le hV hwo hc 0 h
  | k + 1, h => by
    unfold msv
    split
    · exact mdv_le hV hwo hc _ h
    · exact msv_hs hV hwo hc k (by omega)
theorem mend_cl {A : Nat → Nat} {hs T : Nat} {wo : Nat → Nat} {wr bi ki we nwr nbi nhm nki nwe : Nat → Int32} {ho ye nch nli nsi nih nye : Int32} (hV : VA hs T A) (hwo : WO hs wo) (hE : WE A we) (hw : WM hs wo wr) {c : Nat} (hc : c < A 25) :
    ∀ (m h fuel : Nat) (hm : Nat → Int32), h + m = hs → m < fuel → (∀ i, i < A 25 → (i ≠ c → hm i = nI (A (7 + i))) ∧ ki i = nI (A (26 + i)) ∧ bi i = nI (A 24) - nI (A i)) → ∃ u, f_X5_mend_31 (nI hs) nch nli nsi nih nye nwr nbi nhm nki nwe (nI c) fuel ho (nI (A 25)) (nI (A 21)) (nI (A 22)) (nI (A 23)) ye wr bi hm ki we (m1 h (msv (mdv A wo c) (h - 1)).1) (nI (if h = 0 then 0 else (msv (mdv A wo c) (h - 1)).2)) (nI h) = some u ∧ u.1 = nI (msv (mdv A wo c) (hs - 1)).2 := by
  have h7 := hV.2.2.1
  have h3 := hV.1
  have hb := hV.lt
  have hd := hV.2.2.2.2.2.2.2 c hc
  intro m
  induction m with
  | zero =>
    intro h fuel hm hs2 hf hT
    obtain ⟨k, rfl⟩ : ∃ k, fuel = k + 1 := ⟨fuel - 1, by omega⟩
    have e : h = hs := by omega
    subst e
    simp only [f_X5_mend_31, f_X5_mend_31_b]
    rw [if_pos (nI_le (Nat.le_refl _) (by omega)), if_neg (by omega)]
    exact ⟨_, rfl, rfl⟩
  | succ m ih =>
    intro h fuel hm hs2 hf hT
    obtain ⟨k, rfl⟩ : ∃ k, fuel = k + 1 := ⟨fuel - 1, by omega⟩
    have hCT := CT_mv h7 hT hc h
    have ih := ih (h + 1) k (upd hm c (nI h)) (by omega) (by omega) (fun i hi => ⟨fun e => by rw [upd_n e]; exact (hT i hi).1 e, (hT i hi).2⟩)
    simp only [Nat.add_sub_cancel, Nat.add_eq_zero_iff, Nat.one_ne_zero, and_false, if_false] at ih
    have hwl := wealth_n (A := au A (7 + c) h) (c := c) (BD_mv hV.bd hc (by omega)) hCT (WE_mv hE h7 h hc) h3 hw hwo (by rw [au_n _ _ (by omega)]; omega) (by rw [au_n _ _ (by omega)]; omega) (by rw [au_n _ _ (by omega)]; omega) (by rw [au_n _ _ (by omega)]; exact hc) (by rw [au_s]; omega)
    have hmin : min h 2 = h := by omega
    rw [au_n A _ (show 25 ≠ 7 + c by omega), au_n A _ (show 21 ≠ 7 + c by omega), au_n A _ (show 22 ≠ 7 + c by omega), au_n A _ (show 23 ≠ 7 + c by omega), show gtS (au A (7 + c) h) wo c = mdv A wo c h by unfold mdv; rw [hmin]] at hwl
    have hv := mdv_le hV hwo hc h (by omega)
    simp only [f_X5_mend_31, f_X5_mend_31_b, kl0, kl1, kl2, kl3, kl4, kl5, kl6, kl7, kl8, kl9, kl10, kl12, kl13, kl14, kl20, kl21, kl22, kl23, kl24, kl25, kl26, kl30, kl31, kl33, kl48, kl49, kl57, kl65, kl66, kl67, kl72, kl89, kl100, kl128, kl255]
    rw [if_neg (nI_ge (by omega) (by omega)), set_n (by decide) (by omega), kb1_some, hwl, kb1_some, show nI h + nI 1 = nI (h + 1) from nI_1 h]
    have em2 : ∀ x, m1 (h + 1) x = nI x := fun x => by unfold m1; rw [if_neg (by omega)]
    rw [em2] at ih
    rcases Nat.eq_zero_or_pos h with h0 | h0
    · subst h0
      have : ¬ nI (mdv A wo c 0) ≤ m1 0 (msv (mdv A wo c) (0 - 1)).1 := by
        have := m1_lt (s := 0) (x := (msv (mdv A wo c) (0 - 1)).1) (v := mdv A wo c 0) (by have := msv_hs hV hwo hc 0 (by omega); show (msv (mdv A wo c) 0).1 < _; omega) (by omega)
        have h2 : m1 0 (msv (mdv A wo c) (0 - 1)).1 < nI (mdv A wo c 0) := by rw [this]; exact Or.inl rfl
        rw [Int32.lt_iff_toInt_lt] at h2
        rw [Int32.le_iff_toInt_le]
        omega
      rw [if_neg this]
      rw [msv_0] at ih
      exact ih
    · obtain ⟨t, rfl⟩ : ∃ t, h = t + 1 := ⟨h - 1, by omega⟩
      have hp := msv_hs hV hwo hc t (by omega)
      have em : ∀ x, m1 (t + 1) x = nI x := fun x => by unfold m1; rw [if_neg (by omega)]
      simp only [Nat.add_sub_cancel, Nat.add_eq_zero_iff, Nat.one_ne_zero, and_false, if_false] at ih ⊢
      rw [em]
      rw [msv_s] at ih
      by_cases q : (msv (mdv A wo c) t).1 < mdv A wo c (t + 1)
      · rw [if_pos q] at ih
        rw [if_neg (nI_ge q (by omega))]
        exact ih
      · rw [if_neg q] at ih
        rw [if_pos (nI_le (by omega) (by omega))]
        exact ih
theorem mend_rl {A : Nat → Nat} {P mw : Nat → Int32} {hs T : Nat} {wo : Nat → Nat} {th : Int32} (hV : VA hs T A) (hwo : WO hs wo) (hP : PG A P) (hw : WM hs wo mw) {c : Nat} (hc : c < A 25) :
    ∀ (m h fuel : Nat) (tr : Nat → Int32), h + m = hs → m < fuel → ∃ tr', f_X6_mend_24 (nI hs) mw P (nI c) fuel th tr (m9 h (msv (mdv A wo c) (h - 1)).2) (m9 h (msv (mdv A wo c) (h - 1)).1) (nI h) = some (m9 hs (msv (mdv A wo c) (hs - 1)).2, th, tr') := by
  have h7 := hV.2.2.1
  have h3 := hV.1
  have hb := hV.lt
  have hd := hV.2.2.2.2.2.2.2 c hc
  intro m
  induction m with
  | zero =>
    intro h fuel tr hs2 hf
    obtain ⟨k, rfl⟩ : ∃ k, fuel = k + 1 := ⟨fuel - 1, by omega⟩
    have e : h = hs := by omega
    subst e
    simp only [f_X6_mend_24, f_X6_mend_24_b]
    rw [if_pos (nI_le (Nat.le_refl _) (by omega))]
    exact ⟨_, rfl⟩
  | succ m ih =>
    intro h fuel tr hs2 hf
    obtain ⟨k, rfl⟩ : ∃ k, fuel = k + 1 := ⟨fuel - 1, by omega⟩
    have ih := fun tr => ih (h + 1) k tr (by omega) (by omega)
    simp only [Nat.add_sub_cancel] at ih
    obtain ⟨u, hu1, hu2⟩ := begin_n hP tr
    have hPu : PG (au A (7 + c) h) (upd u (7 + c) (nI h)) := hu2.au _
    have hgo := getsOf_r (A := au A (7 + c) h) (c := c) (BD_mv hV.bd hc (by omega)) hPu h3 hw hwo (by rw [au_n _ _ (by omega)]; omega) (by rw [au_n _ _ (by omega)]; omega) (by rw [au_n _ _ (by omega)]; omega) (by rw [au_n _ _ (by omega)]; exact hc) (by rw [au_s]; omega)
    have hmin : min h 2 = h := by omega
    rw [show gtS (au A (7 + c) h) wo c = mdv A wo c h by unfold mdv; rw [hmin]] at hgo
    have hv := mdv_le hV hwo hc h (by omega)
    simp only [f_X6_mend_24, f_X6_mend_24_b, f_X6_mend_71, kl0, kl1, kl2, kl3, kl4, kl5, kl6, kl7, kl8, kl9, kl10, kl12, kl13, kl14, kl20, kl21, kl22, kl23, kl24, kl25, kl26, kl30, kl31, kl33, kl48, kl49, kl57, kl65, kl66, kl67, kl72, kl89, kl100, kl128, kl255]
    rw [if_neg (nI_ge (by omega) (by omega)), hu1, kb1_some, nI_add, kg_yes (kin_y (by omega) (by omega)), nI_clamp (by omega), hgo, kb1_some, show nI h + nI 1 = nI (h + 1) from nI_1 h]
    have em2 : ∀ x, m9 (h + 1) x = nI x := fun x => by unfold m9; rw [if_neg (by omega)]
    simp only [em2] at ih
    rcases Nat.eq_zero_or_pos h with h0 | h0
    · subst h0
      have : ¬ nI (mdv A wo c 0) ≤ m9 0 (msv (mdv A wo c) (0 - 1)).1 := by
        have := m9_lt (s := 0) (x := (msv (mdv A wo c) (0 - 1)).1) (v := mdv A wo c 0) (by have := msv_hs hV hwo hc 0 (by omega); show (msv (mdv A wo c) 0).1 < _; omega) (by omega)
        have h2 : m9 0 (msv (mdv A wo c) (0 - 1)).1 < nI (mdv A wo c 0) := by rw [this]; exact Or.inl rfl
        rw [Int32.lt_iff_toInt_lt] at h2
        rw [Int32.le_iff_toInt_le]
        omega
      rw [if_neg this, if_neg this]
      simp only [msv_0] at ih
      exact ih _
    · obtain ⟨t, rfl⟩ : ∃ t, h = t + 1 := ⟨h - 1, by omega⟩
      have hp := msv_hs hV hwo hc t (by omega)
      have em : ∀ x, m9 (t + 1) x = nI x := fun x => by unfold m9; rw [if_neg (by omega)]
      simp only [Nat.add_sub_cancel, em, msv_s] at ih ⊢
      by_cases q : (msv (mdv A wo c) t).1 < mdv A wo c (t + 1)
      · rw [if_pos q] at ih
        rw [if_neg (nI_ge q (by omega)), if_neg (nI_ge q (by omega))]
        exact ih _
      · rw [if_neg q] at ih
        rw [if_pos (nI_le (by omega) (by omega)), if_pos (nI_le (by omega) (by omega))]
        exact ih _
theorem cmd_mend {A : Nat → Nat} {P mw : Nat → Int32} {hs T : Nat} {wo : Nat → Nat} {ho ch li si ih ye : Int32} {wr bi hm ki we : Nat → Int32} (hV : VA hs T A) (hwo : WO hs wo) (hT : TR hs wo A ho ch li si ih ye wr bi hm ki we) (hP : PG A P) (hmw : WM hs wo mw) (d1 d2 d3 d4 d5 d6 : Int32) (e1 e2 e3 e4 e5 : Nat → Int32) (th : Int32) (tr : Nat → Int32) (x : Int32) :
    ∃ u v, f_X5_mend ho ch li si ih ye wr bi hm ki we d1 d2 d3 d4 d5 d6 e1 e2 e3 e4 e5 x = some u ∧ f_X6_mend (nI hs) mw P th tr x = some v ∧ u.1 = v.1 := by
  have h7 := hV.2.2.1
  have h3 := hV.1
  obtain ⟨w', b', m', k', v', t1, t2⟩ := take_TR h3 h7 hT d1 d2 d3 d4 d5 d6 e1 e2 e3 e4 e5
  obtain ⟨rfl, rfl, rfl, rfl, rfl, rfl, -, -, -⟩ := hT
  obtain ⟨-, -, -, -, -, -, q7, q8, q9⟩ := t2
  unfold f_X5_mend f_X6_mend
  rw [hasChild_x x (by omega), noChild_x hP x (by omega), t1]
  simp only [kl0, kl1, kl2, kl3, kl4, kl5, kl6, kl7, kl8, kl9, kl10, kl12, kl13, kl14, kl20, kl21, kl22, kl23, kl24, kl25, kl26, kl30, kl31, kl33, kl48, kl49, kl57, kl65, kl66, kl67, kl72, kl89, kl100, kl128, kl255]
  rw [kb1_some, kb1_some, kb1_some, ki0, ki0]
  rcases inr_cases x (n := A 25) (by omega) with h | ⟨c, hc, rfl⟩
  · rw [h]
    exact ⟨_, _, rfl, rfl, rfl⟩
  · have hd := hV.2.2.2.2.2.2.2 c hc
    rw [inr_y hc (by omega)]
    rw [if_pos rfl, if_neg (show ¬ ((!true) = true) by decide)]
    obtain ⟨u, hu1, hu2⟩ := mend_cl (nch := nI (A 25)) (nli := nI (A 21)) (nsi := nI (A 22)) (nih := nI (A 23)) (nye := nI (A 24)) (nwr := wr) (nbi := bi) (nhm := hm) (nki := ki) (nwe := we) (ho := nI hs) (ye := nI (A 24)) hV hwo q9 q7 hc hs 0 1000 m' (by omega) (by omega) (fun i hi => ⟨fun _ => (q8 i hi).1, (q8 i hi).2⟩)
    obtain ⟨tr', hr⟩ := mend_rl (th := nI 0) hV hwo hP hmw hc hs 0 1000 tr (by omega) (by omega)
    have e9 : m9 hs (msv (mdv A wo c) (hs - 1)).2 = nI (msv (mdv A wo c) (hs - 1)).2 := by unfold m9; rw [if_neg (by omega)]
    rw [e9] at hr
    simp only [m1, m9, if_true] at hu1 hr
    dsimp only
    rw [hu1, hr]
    exact ⟨_, _, rfl, rfl, hu2⟩
