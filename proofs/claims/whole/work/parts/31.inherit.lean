/-! MATH 11: inherit -/
def prt (wo : Nat → Nat) (h s : Nat) : Nat := if s = 0 then 0 else wo h / pcn s
theorem prt_le {hs : Nat} {wo : Nat → Nat} (hwo : WO hs wo) {h : Nat} (hh : h < hs) (s : Nat) : prt wo h s ≤ 9 := by
  unfold prt
  split
  · omega
  · exact Nat.le_trans (Nat.div_le_self _ _) (hwo h hh).2
def ain (A wo : Nat → Nat) (h s : Nat) : Nat → Nat := fun k => if k = 23 then A 23 ||| 2 ^ h else if 14 ≤ k ∧ k < 21 ∧ s.testBit (k - 14) = true then A k + prt wo h s else A k
theorem ain_23 (A wo : Nat → Nat) (h s : Nat) : ain A wo h s 23 = A 23 ||| 2 ^ h := if_pos rfl
theorem ain_n (A wo : Nat → Nat) (h s : Nat) {k : Nat} (h1 : k ≠ 23) (h2 : ¬ (14 ≤ k ∧ k < 21)) : ain A wo h s k = A k := by unfold ain; rw [if_neg h1, if_neg (fun q => h2 ⟨q.1, q.2.1⟩)]
theorem ain_14 (A wo : Nat → Nat) (h s : Nat) {c : Nat} (h1 : c < 7) : ain A wo h s (14 + c) = if s.testBit c = true then A (14 + c) + prt wo h s else A (14 + c) := by
  unfold ain
  rw [if_neg (by omega), show 14 + c - 14 = c by omega]
  by_cases q : s.testBit c = true
  · rw [if_pos ⟨by omega, by omega, q⟩, if_pos q]
  · rw [if_neg (fun w => q w.2.2), if_neg q]
theorem VA_in {hs T : Nat} {A wo : Nat → Nat} (hV : VA hs T A) (hwo : WO hs wo) (hT : T < 600) {h : Nat} (hh : h < hs) (s : Nat) : VA hs (T + 1) (ain A wo h s) := by
  obtain ⟨h1, h2, h3, h4, h5, h6, h7, h8⟩ := hV
  have e25 : ain A wo h s 25 = A 25 := ain_n _ _ _ _ (by omega) (by omega)
  have hp := prt_le hwo hh s
  refine ⟨h1, by omega, by rw [e25]; exact h3, by rw [e25, ain_n _ _ _ _ (by omega) (by omega)]; exact h4, by rw [ain_n _ _ _ _ (by omega) (by omega)]; exact h5, ?_, by rw [ain_n _ _ _ _ (by omega) (by omega)]; omega, fun i hi => ?_⟩
  · rw [ain_23]; exact Nat.or_lt_two_pow h6 (k_two hh)
  · rw [e25] at hi
    have := h8 i hi
    rw [ain_n _ _ _ _ (show i ≠ 23 by omega) (by omega), ain_n _ _ _ _ (show 7 + i ≠ 23 by omega) (by omega), ain_n _ _ _ _ (show 26 + i ≠ 23 by omega) (by omega), ain_14 _ _ _ _ (by omega)]
    exact ⟨by omega, this.2.1, by split <;> omega, this.2.2.2⟩
theorem CT_in {A wo : Nat → Nat} {bi hm ki : Nat → Int32} (h7 : A 25 ≤ 7) (h s : Nat) : CT (ain A wo h s) bi hm ki ↔ CT A bi hm ki := by
  have e25 : ain A wo h s 25 = A 25 := ain_n _ _ _ _ (by omega) (by omega)
  refine forall_congr' (fun i => ?_)
  rw [e25]
  refine forall_congr' (fun hi => ?_)
  rw [ain_n _ _ _ _ (show i ≠ 23 by omega) (by omega), ain_n _ _ _ _ (show 7 + i ≠ 23 by omega) (by omega), ain_n _ _ _ _ (show 26 + i ≠ 23 by omega) (by omega), ain_n _ _ _ _ (show 24 ≠ 23 by omega) (by omega)]
theorem adn_or2 {a n : Nat} (h : a.testBit n = false) : adn (a ||| 2 ^ n) (2 ^ n) = a := by
  refine tb_ext (fun i => ?_)
  rw [adn_tb, Nat.testBit_or, Nat.testBit_two_pow]
  by_cases e : n = i
  · subst e; rw [h, decide_eq_true rfl]; rfl
  · rw [decide_eq_false e]; simp
theorem passTo_n {hs : Nat} {wo A : Nat → Nat} {ho ch li si ih ye : Int32} {wr bi hm ki we : Nat → Int32} (hT : TR hs wo A ho ch li si ih ye wr bi hm ki we) (h3 : hs ≤ 3) (h7 : A 25 ≤ 7) (hwo : WO hs wo) {h s : Nat} (hh : h < hs) (hs7 : s < 128) :
    ∃ we', f_X4_passTo ch wr ih we (nI h) (nI s) = some (nI (A 23 ||| 2 ^ h), we') ∧ TR hs wo (ain A wo h s) ho ch li si (nI (A 23 ||| 2 ^ h)) ye wr bi hm ki we' := by
  obtain ⟨q1, q2, q3, q4, q5, q6, q7, q8, q9⟩ := hT
  have hw := hwo h hh
  obtain ⟨g, g1, g2⟩ := enrich_n h7 (s := s) (by omega) (nI (prt wo h s)) we
  unfold f_X4_passTo
  rw [bit_n (by omega), kb1_some, partOf_n (by omega) (q7 h hh) (by omega) hs7, kb1_some, q2, show (if s = 0 then 0 else wo h / pcn s) = prt wo h s from rfl, g1, kb1_some, q5, k_or]
  have e25 : ain A wo h s 25 = A 25 := ain_n _ _ _ _ (by omega) (by omega)
  refine ⟨g, rfl, q1, by rw [e25], by rw [ain_n _ _ _ _ (by omega) (by omega)]; exact q3, by rw [ain_n _ _ _ _ (by omega) (by omega)]; exact q4, by rw [ain_23], by rw [ain_n _ _ _ _ (by omega) (by omega)]; exact q6, q7, (CT_in h7 h s).2 q8, fun i hi => ?_⟩
  rw [e25] at hi
  rw [g2 i hi, ain_14 _ _ _ _ (by omega), q9 i hi]
  by_cases q : s.testBit i = true
  · rw [if_pos q, if_pos q, nI_add]
  · rw [if_neg q, if_neg q]
theorem DL_inherit {hs T : Nat} {wo A : Nat → Nat} (hV : VA hs T A) (hwo : WO hs wo) {h s : Nat} (hh : h < hs) (hs7 : s < 128) (hb : (A 23).testBit h = false) : DL hs wo (nI 4) (nI h) (nI s) A (ain A wo h s) := by
  intro ho ch li si ih ye wr bi hm ki we wt wh bf n hT hn e1 e2 e3
  have h7 := hV.2.2.1
  have h3 := hV.1
  obtain ⟨q1, q2, q3, q4, q5, q6, q7, q8, q9⟩ := hT
  have hw := hwo h hh
  have e25 : ain A wo h s 25 = A 25 := ain_n _ _ _ _ (by omega) (by omega)
  rw [e25] at q2 q9
  obtain ⟨g, g1, g2⟩ := enrich_n h7 (s := s) (by omega) (-nI (prt wo h s)) we
  rw [tlb hn, e1, e2, e3]
  rw [if_neg (show ¬ nI 4 = nI 0 by decide), if_neg (show ¬ nI 4 = nI 1 by decide), if_neg (show ¬ nI 4 = nI 2 by decide), if_neg (show ¬ nI 4 = nI 3 by decide), if_pos rfl]
  unfold f_X4_takeBackFrom
  simp only [kl0, kl1, kl2, kl3, kl4, kl5, kl6, kl7, kl8, kl9, kl10, kl12, kl13, kl14, kl20, kl21, kl22, kl23, kl24, kl25, kl26, kl30, kl31, kl33, kl48, kl49, kl57, kl65, kl66, kl67, kl72, kl89, kl100, kl128, kl255]
  rw [bit_n (by omega), kb1_some, partOf_n (by omega) (q7 h hh) (by omega) hs7, kb1_some, q2, show (if s = 0 then 0 else wo h / pcn s) = prt wo h s from rfl, g1, kb1_some, kb1_some, q5, ain_23, k_adn, adn_or2 hb]
  refine ⟨_, _, _, _, _, _, _, rfl, q1, rfl, ?_, ?_, rfl, ?_, q7, (CT_in h7 h s).1 q8, fun i hi => ?_⟩
  · rw [q3, ain_n _ _ _ _ (by omega) (by omega)]
  · rw [q4, ain_n _ _ _ _ (by omega) (by omega)]
  · rw [q6, ain_n _ _ _ _ (by omega) (by omega)]
  · show g i = _
    rw [g2 i hi, q9 i hi, ain_14 _ _ _ _ (by omega)]
    by_cases q : s.testBit i = true
    · rw [if_pos q, if_pos q, ← nI_add, ← Int32.sub_eq_add_neg, Int32.add_sub_cancel]
    · rw [if_neg q, if_neg q]
theorem goInh_l {A wo : Nat → Nat} {mw : Nat → Int32} {hs : Nat} (h3 : hs ≤ 3) (hw : WM hs wo mw) (hwo : WO hs wo) {h s : Nat} (hh : h < hs) (hs7 : s < 128) : ∀ (m c fuel : Nat) (f : Nat → Int32), c + m = 7 → m < fuel → (∀ k, k < 33 → f k = nI (if 14 ≤ k ∧ k < 14 + c ∧ s.testBit (k - 14) = true then A k + prt wo h s else A k)) → ∃ f', f_X6_goInherit_3 mw (nI h) (nI s) fuel f (nI c) = some f' ∧ PG (ain A wo h s) f' := by
  have hwh := hwo h hh
  intro m
  induction m with
  | zero =>
    intro c fuel f hc hf h1
    obtain ⟨k, rfl⟩ : ∃ k, fuel = k + 1 := ⟨fuel - 1, by omega⟩
    simp only [f_X6_goInherit_3, f_X6_goInherit_3_b, kl0, kl1, kl2, kl3, kl4, kl5, kl6, kl7, kl8, kl9, kl10, kl12, kl13, kl14, kl20, kl21, kl22, kl23, kl24, kl25, kl26, kl30, kl31, kl33, kl48, kl49, kl57, kl65, kl66, kl67, kl72, kl89, kl100, kl128, kl255]
    rw [if_pos (nI_le (by omega) (by omega)), h1 23 (by omega), if_neg (show ¬ (14 ≤ 23 ∧ 23 < 14 + c ∧ s.testBit (23 - 14) = true) by omega), k_sh1 (by omega), k_or]
    refine ⟨_, rfl, fun k hk => ?_⟩
    unfold ain
    by_cases e : k = 23
    · rw [e, upd_s, if_pos rfl]
    · rw [upd_n e, if_neg e, h1 k hk, show 14 + c = 21 by omega]
  | succ m ih =>
    intro c fuel f hc hf h1
    obtain ⟨k, rfl⟩ : ∃ k, fuel = k + 1 := ⟨fuel - 1, by omega⟩
    have hfc := h1 (14 + c) (by omega)
    rw [if_neg (show ¬ (14 ≤ 14 + c ∧ 14 + c < 14 + c ∧ s.testBit (14 + c - 14) = true) by omega)] at hfc
    simp only [f_X6_goInherit_3, f_X6_goInherit_3_b, f_X6_goInherit_42, kl0, kl1, kl2, kl3, kl4, kl5, kl6, kl7, kl8, kl9, kl10, kl12, kl13, kl14, kl20, kl21, kl22, kl23, kl24, kl25, kl26, kl30, kl31, kl33, kl48, kl49, kl57, kl65, kl66, kl67, kl72, kl89, kl100, kl128, kl255]
    rw [if_neg (nI_ge (by omega) (by omega)), nI_add, kg_yes (kin_y (by omega) (by omega)), has_n (by omega) (by omega), kb1_some, ki0, nI_clamp (show 14 + c < 2 ^ 31 by omega), hfc]
    by_cases q : s.testBit c = true
    · have hpos := tb_ne0 q
      have hpp := pcn_pos s hs7 hpos
      have hpl := pcn_le s
      rw [if_pos q, kg_yes (kin_y (by omega) (by omega)), many_all s hs7, kb1_some, kg_yes (knz_y (by omega) hpp), kg_yes (kin_y (by omega) (by omega)), nI_clamp (by omega), hw h hh, pk_div (by omega) hpp (by omega), nI_add, k_s1]
      refine ih (c + 1) k _ (by omega) (by omega) (fun i hi => ?_)
      by_cases e : i = 14 + c
      · rw [e, upd_s, if_pos ⟨by omega, by omega, by rw [show 14 + c - 14 = c by omega]; exact q⟩]
        unfold prt
        rw [if_neg (by omega)]
      · rw [upd_n e, h1 i hi]
        have : (14 ≤ i ∧ i < 14 + c ∧ s.testBit (i - 14) = true) = (14 ≤ i ∧ i < 14 + (c + 1) ∧ s.testBit (i - 14) = true) := propext ⟨fun w => ⟨w.1, by omega, w.2.2⟩, fun w => ⟨w.1, by omega, w.2.2⟩⟩
        simp only [this]
    · rw [if_neg q, kg_yes (kin_y (by omega) (by omega)), nI_add, k_s1]
      refine ih (c + 1) k _ (by omega) (by omega) (fun i hi => ?_)
      by_cases e : i = 14 + c
      · rw [e, upd_s, if_neg (fun w => q (by have := w.2.2; rw [show 14 + c - 14 = c by omega] at this; exact this))]
        rfl
      · rw [upd_n e, h1 i hi]
        have : (14 ≤ i ∧ i < 14 + c ∧ s.testBit (i - 14) = true) = (14 ≤ i ∧ i < 14 + (c + 1) ∧ s.testBit (i - 14) = true) := propext ⟨fun w => ⟨w.1, by omega, w.2.2⟩, fun w => ⟨w.1, by omega, w.2.2⟩⟩
        simp only [this]
theorem goInh_n {A wo : Nat → Nat} {mw P : Nat → Int32} {hs : Nat} (h3 : hs ≤ 3) (hw : WM hs wo mw) (hwo : WO hs wo) (hP : PG A P) {h s : Nat} (hh : h < hs) (hs7 : s < 128) : ∃ P', f_X6_goInherit mw P (nI h) (nI s) = some P' ∧ PG (ain A wo h s) P' := by
  unfold f_X6_goInherit
  simp only [kl0, kl1, kl2, kl3, kl4, kl5, kl6, kl7, kl8, kl9, kl10, kl12, kl13, kl14, kl20, kl21, kl22, kl23, kl24, kl25, kl26, kl30, kl31, kl33, kl48, kl49, kl57, kl65, kl66, kl67, kl72, kl89, kl100, kl128, kl255]
  exact goInh_l h3 hw hwo hh hs7 7 0 1000 P (by omega) (by omega) (fun k hk => by rw [if_neg (by omega)]; exact hP k hk)
theorem hr_yg {A : Nat → Nat} {hs T : Nat} (hV : VA hs T A) (h : Nat) (y1 y2 : Bool) (al : Nat) : hrA A h y1 al = 0 ↔ hrA A h y2 al = 0 := by
  have hk : ∀ c, c < A 25 → A (26 + c) < 4 := fun c hc => (hV.2.2.2.2.2.2.2 c hc).2.2.2
  unfold hrA
  rw [hrS_0 hk, hrS_0 hk]
def cps (A : Nat → Nat) (h : Nat) : Bool := !(A 23).testBit h && decide (hrN A h ≠ 0)
theorem canPass_n {hs T : Nat} {wo A : Nat → Nat} (hV : VA hs T A) {bi hm ki : Nat → Int32} (hT : CT A bi hm ki) {h : Nat} (hh : h < hs) : f_X4_canPass (nI hs) (nI (A 25)) (nI (A 21)) (nI (A 23)) bi hm ki (nI h) = some (nI (cps A h).toNat) := by
  have h7 := hV.2.2.1
  have h3 := hV.1
  have hl := hV.lt
  have hc := heirs_c hV.bd hT (h := h) (al := A 21) (by omega) (by omega) false
  rw [show nI false.toNat = nI 0 from rfl] at hc
  have hb := hrA_lt A h7 h false (A 21)
  unfold f_X4_canPass cps
  rw [hasHouse_x (nI h) (by omega), inr_y hh (by omega), kb1_some]
  simp only [kl0, kl1, kl2, kl3, kl4, kl5, kl6, kl7, kl8, kl9, kl10, kl12, kl13, kl14, kl20, kl21, kl22, kl23, kl24, kl25, kl26, kl30, kl31, kl33, kl48, kl49, kl57, kl65, kl66, kl67, kl72, kl89, kl100, kl128, kl255]
  rw [ki0, if_pos rfl, isIn_n (by omega) (by omega), kb1_some, ki0, hc, kb1_some]
  by_cases q : (A 23).testBit h = true
  · rw [q]; rfl
  · rw [if_neg q, (Bool.not_eq_true _).mp q]
    have e := hr_yg hV h false ((A 22).testBit h) (A 21)
    by_cases w : hrA A h false (A 21) = 0
    · rw [w, if_pos rfl, decide_eq_false (fun z => z (e.1 w))]; rfl
    · rw [if_neg (fun z => w ((nI_eq (by omega) (by decide)).1 z)), decide_eq_true (show hrN A h ≠ 0 from fun z => w (e.2 z))]; rfl
theorem cmd_inherit {hs T na : Nat} {wo : Nat → Nat} {ho ch li si ih ye : Int32} {wr bi hm ki we wt wh bf P bk mw : Nat → Int32} (hS : ST hs T wo na ho ch li si ih ye wr bi hm ki we wt wh bf P bk) (hwo : WO hs wo) (hmw : WM hs wo mw) (hT : T < 600) (th x : Int32) :
    ∃ r ih' we' na' wt' wh' bf' th' P' bk', f_X5_inherit ho ch li si wr bi hm ki ih we (nI na) wt wh bf x = some (r, ih', we', nI na', wt', wh', bf') ∧ f_X6_inherit (nI hs) mw th (nI na) P bk x = some (r, th', nI na', P', bk') ∧ ST hs (T + 1) wo na' ho ch li si ih' ye wr bi hm ki we' wt' wh' bf' P' bk' := by
  have hS0 := hS.mono (Nat.le_succ T) (by omega)
  obtain ⟨A, hV, hTR, hP, hA⟩ := hS
  have h7 := hV.2.2.1
  have h3 := hV.1
  have hl := hV.lt
  have hTR' := hTR
  obtain ⟨rfl, rfl, rfl, rfl, rfl, rfl, q7, q8, q9⟩ := hTR'
  unfold f_X5_inherit f_X6_inherit
  rw [hasHouse_x x (by omega), noHouse_x x (by omega)]
  simp only [kl0, kl1, kl2, kl3, kl4, kl5, kl6, kl7, kl8, kl9, kl10, kl12, kl13, kl14, kl20, kl21, kl22, kl23, kl24, kl25, kl26, kl30, kl31, kl33, kl48, kl49, kl57, kl65, kl66, kl67, kl72, kl89, kl100, kl128, kl255]
  rw [kb1_some, kb1_some, ki0, ki0]
  rcases inr_cases x (n := hs) (by omega) with h | ⟨c, hc, rfl⟩
  · rw [h]
    exact ⟨_, _, _, na, _, _, _, _, P, bk, rfl, rfl, hS0⟩
  · have hb := hrA_lt A h7 c ((A 22).testBit c) (A 21)
    rw [inr_y hc (by omega), if_pos rfl, if_neg (show ¬ ((!true) = true) by decide), canPass_n (wo := wo) hV q8 hc, kb1_some, ki0, heirsNow_r hV.bd hP (by omega) (by omega) (by omega), kb1_some, hP 23 (by omega), has_n (by omega) (by omega), kb1_some, ki0]
    unfold cps hrN
    by_cases q : (A 23).testBit c = true
    · rw [if_pos q, if_neg (by rw [q]; exact Bool.false_ne_true)]
      exact ⟨_, _, _, na, _, _, _, _, P, bk, rfl, rfl, hS0⟩
    · rw [if_neg q]
      by_cases w : hrA A c ((A 22).testBit c) (A 21) = 0
      · rw [if_pos (congrArg nI w), if_neg (by rw [decide_eq_false (fun z => z w), Bool.and_false]; exact Bool.false_ne_true)]
        exact ⟨_, _, _, na, _, _, _, _, P, bk, rfl, rfl, hS0⟩
      · have qf := (Bool.not_eq_true _).mp q
        obtain ⟨na', wt', wh', bf', bk', s1, s2, s3⟩ := acts_step hA hV hP (DL_inherit (wo := wo) hV hwo hc hb qf)
        obtain ⟨we', p1, p2⟩ := passTo_n hTR h3 h7 hwo hc hb
        obtain ⟨P', g1, g2⟩ := goInh_n h3 hmw hwo hP hc hb
        rw [if_neg (fun z => w ((nI_eq (by omega) (by decide)).1 z)), if_pos (by rw [qf, decide_eq_true w]; rfl), heirsOf_c hV.bd q8 (by omega) (by omega) (by omega), kb1_some, s2, kb1_some, g1, kb1_some]
        unfold hrN
        rw [p1, kb1_some, s1, kb1_some]
        exact ⟨_, _, _, na', _, _, _, _, _, _, rfl, rfl, _, VA_in hV hwo hT hc _, p2, g2, s3.mono (by omega) (by omega)⟩
