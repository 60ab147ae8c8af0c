/-! MATH 26: the text read -/
theorem kl51 : (51 : Int32) = nI 51 := Int32.toInt_inj.mp (by decide)
def tvt (mt : Nat → Int32) (i : Nat) : Nat := (mt i).toInt.toNat
theorem tvt_n {n : Nat} {tb mt : Nat → Int32} (hX : TX n tb mt) {i : Nat} (hi : i < n) : mt i = nI (tvt mt i) ∧ tb i = nI (tvt mt i) ∧ tvt mt i < 256 := by
  obtain ⟨h1, v, h2, h3⟩ := hX.2 i hi
  have e : tvt mt i = v := by unfold tvt; rw [h3, nI_toInt (by omega)]; omega
  rw [e, h1]
  exact ⟨h3, h3, h2⟩
def frm (n : Nat) (t : Nat → Nat) (p lo hi : Nat) : Bool := decide (p < n ∧ lo ≤ t p ∧ t p ≤ hi)
theorem frm_y {n : Nat} {t : Nat → Nat} {p lo hi : Nat} (h : frm n t p lo hi = true) : p < n ∧ lo ≤ t p ∧ t p ≤ hi := of_decide_eq_true h
theorem isFrom_n {n : Nat} {tb mt : Nat → Int32} (hX : TX n tb mt) {p lo hi : Nat} (hp : p < 100) (hlo : lo < 256) (hhi : hi < 256) : f_X3_isFrom (nI n) tb (nI p) (nI lo) (nI hi) = some (nI (frm n (tvt mt) p lo hi).toNat) := by
  have h48 := hX.1
  unfold f_X3_isFrom frm
  simp only [kl0, kl1, kl2, kl3, kl4, kl5, kl6, kl7, kl8, kl9, kl10, kl12, kl13, kl14, kl20, kl21, kl22, kl23, kl24, kl25, kl26, kl30, kl31, kl33, kl48, kl49, kl57, kl65, kl66, kl67, kl72, kl89, kl100, kl128, kl255]
  by_cases h : p < n
  · obtain ⟨-, h2, h3⟩ := tvt_n hX h
    rw [if_pos (nI_lt h (by omega)), get_n (by decide) (by omega), kb1_some, h2]
    by_cases a : lo ≤ tvt mt p
    · rw [if_neg (nI_nlt a (by omega))]
      by_cases b : tvt mt p ≤ hi
      · rw [if_neg (nI_nlt b (by omega)), decide_eq_true ⟨h, a, b⟩]; rfl
      · rw [if_pos (nI_lt (by omega) (by omega)), decide_eq_false (fun z => b z.2.2)]; rfl
    · rw [if_pos (nI_lt (by omega) (by omega)), decide_eq_false (fun z => a z.2.1)]; rfl
  · rw [if_neg (nI_nlt (by omega) (by omega)), decide_eq_false (fun z => h z.1)]; rfl
theorem n9 {q : Nat} (h : q < 2 ^ 31) : ¬ nI q = -nI 9 := fun z => by
  have := congrArg Int32.toInt z
  rw [nI_toInt h, show (-nI 9).toInt = -9 by decide] at this
  omega
theorem figure_n {n : Nat} {tb mt : Nat → Int32} (hX : TX n tb mt) {p lo hi : Nat} (hp : p ≤ n) (hlo : lo < 100) (hhi : hi < 100) : f_X6_figure (nI n) mt (nI p) (nI lo) (nI hi) = if frm n (tvt mt) p (48 + lo) (48 + hi) = true then some (nI (tvt mt p - 48), nI (p + 1)) else some (-nI 9, nI p) := by
  have h48 := hX.1
  unfold f_X6_figure frm
  simp only [kl0, kl1, kl2, kl3, kl4, kl5, kl6, kl7, kl8, kl9, kl10, kl12, kl13, kl14, kl20, kl21, kl22, kl23, kl24, kl25, kl26, kl30, kl31, kl33, kl48, kl49, kl57, kl65, kl66, kl67, kl72, kl89, kl100, kl128, kl255]
  by_cases h : p = n
  · rw [if_pos (congrArg nI h), decide_eq_false (fun z => by have := z.1; omega), if_neg Bool.false_ne_true]
  · obtain ⟨h2, -, h3⟩ := tvt_n hX (i := p) (by omega)
    rw [if_neg (fun z => h ((nI_eq (by omega) (by omega)).1 z)), kg_yes (kin_y (by omega) (by omega)), k_s1, k_p1, kg_yes (kin_y (by omega) (by omega)), nI_clamp (by omega), h2, in_x, kb1_some, ki0, Int32.toInt_toInt64, Int32.toInt_toInt64, Int32.toInt_toInt64, pk_sub_toInt (by omega) (by omega), nI_toInt (by omega), nI_toInt (by omega)]
    by_cases a : 48 + lo ≤ tvt mt p ∧ tvt mt p ≤ 48 + hi
    · rw [decide_eq_true (show (lo : Int) ≤ (tvt mt p : Int) - (48 : Nat) ∧ (tvt mt p : Int) - (48 : Nat) ≤ hi by omega), decide_eq_true ⟨by omega, a⟩, if_pos rfl, if_pos rfl, k_sub (by omega)]
    · rw [decide_eq_false (show ¬ ((lo : Int) ≤ (tvt mt p : Int) - (48 : Nat) ∧ (tvt mt p : Int) - (48 : Nat) ≤ hi) by omega), decide_eq_false (fun z => a z.2), if_neg Bool.false_ne_true, if_neg Bool.false_ne_true]
def fHs (n : Nat) (t : Nat → Nat) (H p : Nat) : Int32 := if H < 3 then (if frm n t (p + 1) 48 49 = true then (if frm n t (p + 2) 49 57 = true then -nI 9 else nI (p + 2)) else nI (p + 1)) else nI p
theorem fHs_n {n : Nat} {tb mt : Nat → Int32} (hX : TX n tb mt) {H p : Nat} (hH : H ≤ 3) (hp : p < n) : f_X3_faultOfHouse (nI n) tb (nI H) (nI p) = some (fHs n (tvt mt) H p) := by
  have h48 := hX.1
  unfold f_X3_faultOfHouse fHs
  simp only [kl0, kl1, kl2, kl3, kl4, kl5, kl6, kl7, kl8, kl9, kl10, kl12, kl13, kl14, kl20, kl21, kl22, kl23, kl24, kl25, kl26, kl30, kl31, kl33, kl48, kl49, kl57, kl65, kl66, kl67, kl72, kl89, kl100, kl128, kl255]
  rw [k_s1, nI_add p 2, isFrom_n hX (by omega) (by omega) (by omega), isFrom_n hX (by omega) (by omega) (by omega), kb1_some, ki0, kb1_some, ki0]
  by_cases a : H < 3
  · rw [if_pos (nI_lt a (by omega)), if_pos a]
    by_cases b : frm n (tvt mt) (p + 1) 48 49 = true
    · rw [if_pos b, if_pos b]
      by_cases c : frm n (tvt mt) (p + 2) 49 57 = true
      · rw [if_pos c, if_pos c]
      · rw [if_neg c, if_neg c]
    · rw [if_neg b, if_neg b]
  · rw [if_neg (nI_nlt (by omega) (by omega)), if_neg a]
def fCs (n : Nat) (t : Nat → Nat) (H C p : Nat) : Int32 := if frm n t p 67 67 = true then (if H = 0 then nI p else (if C < 6 then (if frm n t (p + 1) 48 57 = true then (if frm n t (p + 2) 48 (48 + H - 1) = true then (if frm n t (p + 3) 48 51 = true then -nI 9 else nI (p + 3)) else nI (p + 2)) else nI (p + 1)) else nI p)) else nI p
theorem fCs_n {n : Nat} {tb mt : Nat → Int32} (hX : TX n tb mt) {H C p : Nat} (hH : H ≤ 3) (hC : C ≤ 6) (hp : p < n) : f_X3_faultOfChild (nI n) tb (nI H) (nI C) (nI p) = some (fCs n (tvt mt) H C p) := by
  have h48 := hX.1
  unfold f_X3_faultOfChild fCs
  simp only [kl0, kl1, kl2, kl3, kl4, kl5, kl6, kl7, kl8, kl9, kl10, kl12, kl13, kl14, kl20, kl21, kl22, kl23, kl24, kl25, kl26, kl30, kl31, kl33, kl48, kl49, kl57, kl65, kl66, kl67, kl72, kl89, kl100, kl128, kl255, kl51]
  rw [k_s1, nI_add p 2, nI_add p 3, nI_add 48 H, k_sub (show 1 ≤ 48 + H by omega), isFrom_n hX (p := p) (by omega) (by omega) (by omega), isFrom_n hX (p := p + 1) (by omega) (by omega) (by omega), isFrom_n hX (p := p + 2) (by omega) (by omega) (by omega), isFrom_n hX (p := p + 3) (by omega) (by omega) (by omega), kb1_some, ki0, kb1_some, ki0, kb1_some, ki0, kb1_some, ki0]
  by_cases a : frm n (tvt mt) p 67 67 = true
  · rw [if_pos a, if_pos a]
    by_cases b : H = 0
    · rw [if_pos (congrArg nI b), if_pos b]
    · rw [if_neg (fun z => b ((nI_eq (by omega) (by omega)).1 z)), if_neg b]
      by_cases c : C < 6
      · rw [if_pos (nI_lt c (by omega)), if_pos c]
        by_cases d : frm n (tvt mt) (p + 1) 48 57 = true
        · rw [if_pos d, if_pos d]
          by_cases e : frm n (tvt mt) (p + 2) 48 (48 + H - 1) = true
          · rw [if_pos e, if_pos e]
            by_cases f : frm n (tvt mt) (p + 3) 48 51 = true
            · rw [if_pos f, if_pos f]
            · rw [if_neg f, if_neg f]
          · rw [if_neg e, if_neg e]
        · rw [if_neg d, if_neg d]
      · rw [if_neg (nI_nlt (by omega) (by omega)), if_neg c]
  · rw [if_neg a, if_neg a]
theorem fig_c {n : Nat} {tb mt : Nat → Int32} (hX : TX n tb mt) {p : Nat} (hp : p < n) (hv : 48 ≤ tvt mt p) : f_X3_figure tb (nI p) = some (nI (tvt mt p - 48)) := by
  have h48 := hX.1
  obtain ⟨-, h2, -⟩ := tvt_n hX hp
  unfold f_X3_figure
  rw [get_n (by decide) (by omega), kb1_some, h2, kl48, k_sub hv]
/-- what is told so far, on both sides -/
def RD (H C S : Nat) (w b g kd : Nat → Nat) (ho ch li si ih ye : Int32) (wr bi hm ki we rh rc : Nat → Int32) : Prop :=
  H ≤ 3 ∧ C ≤ 6 ∧ S < 2 ^ H ∧ ho = nI H ∧ ch = nI C ∧ li = nI (2 ^ C - 1) ∧ si = nI S ∧ ih = nI 0 ∧ ye = nI 0 ∧
  (∀ i, i < H → wr i = nI (w i) ∧ rh (2 * i) = nI (S.testBit i).toNat ∧ rh (2 * i + 1) = nI (w i) ∧ 1 ≤ w i ∧ w i ≤ 9) ∧
  (∀ c, c < C → bi c = nI 0 - nI (b c) ∧ hm c = nI (g c) ∧ ki c = nI (kd c) ∧ we c = nI 0 ∧ rc (3 * c) = nI (b c) ∧ rc (3 * c + 1) = nI (g c) ∧ rc (3 * c + 2) = nI (kd c) ∧ b c ≤ 9 ∧ g c < H ∧ kd c < 4)
def RDE (H C : Nat) (ho ch li si ih ye : Int32) (wr bi hm ki we rh rc : Nat → Int32) : Prop := ∃ S w b g kd, RD H C S w b g kd ho ch li si ih ye wr bi hm ki we rh rc
theorem house_add {H C : Nat} {ho ch li si ih ye : Int32} {wr bi hm ki we rh rc : Nat → Int32} (h : RDE H C ho ch li si ih ye wr bi hm ki we rh rc) (hH : H < 3) {s v : Nat} (hs : s < 2) (hv : 1 ≤ v ∧ v ≤ 9) :
    ∃ si' wr', f_X4_addHouse ho si wr (nI s) (nI v) = some (nI (H + 1), si', wr') ∧ RDE (H + 1) C (nI (H + 1)) ch li si' ih ye wr' bi hm ki we (upd (upd rh (2 * H) (nI s)) (2 * H + 1) (nI v)) rc := by
  obtain ⟨S, w, b, g, kd, h1, h2, h3, rfl, rfl, rfl, rfl, rfl, rfl, h4, h5⟩ := h
  have hlt : S < 2 ^ (H + 1) := Nat.lt_trans h3 (k_two (by omega))
  unfold f_X4_addHouse f_X4_addHouse_33
  simp only [kl0, kl1, kl2, kl3, kl4, kl5, kl6, kl7, kl8, kl9, kl10, kl12, kl13, kl14, kl20, kl21, kl22, kl23, kl24, kl25, kl26, kl30, kl31, kl33, kl48, kl49, kl57, kl65, kl66, kl67, kl72, kl89, kl100, kl128, kl255]
  rw [set_n (by decide) hH, kb1_some, bit_n (by omega), kb1_some, k_or, k_s1]
  have key : ∀ S', S' < 2 ^ (H + 1) → (∀ i, i < H → S'.testBit i = S.testBit i) → nI s = nI (S'.testBit H).toNat → RDE (H + 1) C (nI (H + 1)) (nI C) (nI (2 ^ C - 1)) (nI S') (nI 0) (nI 0) (upd wr H (nI v)) bi hm ki we (upd (upd rh (2 * H) (nI s)) (2 * H + 1) (nI v)) rc := by
    intro S' k1 k2 k3
    refine ⟨S', fun i => if i = H then v else w i, b, g, kd, by omega, h2, k1, rfl, rfl, rfl, rfl, rfl, rfl, fun i hi => ?_, fun c hc => ?_⟩
    · dsimp only
      by_cases e : i = H
      · subst e
        rw [upd_s, upd_n (show 2 * i ≠ 2 * i + 1 by omega), upd_s, upd_s, if_pos rfl]
        exact ⟨rfl, k3, rfl, hv.1, hv.2⟩
      · rw [upd_n e, upd_n (show 2 * i ≠ 2 * H + 1 by omega), upd_n (show 2 * i ≠ 2 * H by omega), upd_n (show 2 * i + 1 ≠ 2 * H + 1 by omega), upd_n (show 2 * i + 1 ≠ 2 * H by omega), if_neg e, k2 i (by omega)]
        exact h4 i (by omega)
    · obtain ⟨q1, q2, q3, q4, q5, q6, q7, q8, q9, q10⟩ := h5 c hc
      exact ⟨q1, q2, q3, q4, q5, q6, q7, q8, by omega, q10⟩
  by_cases e : s = 1
  · subst e
    rw [if_pos rfl]
    exact ⟨_, _, rfl, key (S ||| 2 ^ H) (Nat.or_lt_two_pow hlt (k_two (by omega))) (fun i hi => by rw [bit_or, decide_eq_false (by omega), Bool.or_false]) (by rw [bit_or, decide_eq_true rfl, Bool.or_true]; rfl)⟩
  · have e0 : s = 0 := by omega
    subst e0
    rw [if_neg (show ¬ nI 0 = nI 1 by decide)]
    exact ⟨_, _, rfl, key S hlt (fun _ _ => rfl) (by rw [tb_big h3 (Nat.le_refl _)]; rfl)⟩
theorem all_or : ∀ C, C < 7 → 2 ^ C - 1 ||| 2 ^ C = 2 ^ (C + 1) - 1 := by decide +kernel
theorem child_add {H C : Nat} {ho ch li si ih ye : Int32} {wr bi hm ki we rh rc : Nat → Int32} (h : RDE H C ho ch li si ih ye wr bi hm ki we rh rc) (hC : C < 6) {x y z : Nat} (hx : x ≤ 9) (hy : y < H) (hz : z < 4) :
    ∃ li' bi' hm' ki' we', f_X4_addChild ye ch li bi hm ki we (nI x) (nI y) (nI z) = some (ch, nI (C + 1), li', bi', hm', ki', we') ∧ RDE H (C + 1) ho (nI (C + 1)) li' si ih ye wr bi' hm' ki' we' rh (upd (upd (upd rc (3 * C) (nI x)) (3 * C + 1) (nI y)) (3 * C + 2) (nI z)) := by
  obtain ⟨S, w, b, g, kd, h1, h2, h3, rfl, rfl, rfl, rfl, rfl, rfl, h4, h5⟩ := h
  unfold f_X4_addChild
  simp only [kl0, kl1, kl2, kl3, kl4, kl5, kl6, kl7, kl8, kl9, kl10, kl12, kl13, kl14, kl20, kl21, kl22, kl23, kl24, kl25, kl26, kl30, kl31, kl33, kl48, kl49, kl57, kl65, kl66, kl67, kl72, kl89, kl100, kl128, kl255]
  rw [set_n (by decide) (by omega), kb1_some, set_n (by decide) (by omega), kb1_some, set_n (by decide) (by omega), kb1_some, set_n (by decide) (by omega), kb1_some, bit_n (by omega), kb1_some, k_or, k_s1, all_or C (by omega)]
  refine ⟨_, _, _, _, _, rfl, S, w, fun i => if i = C then x else b i, fun i => if i = C then y else g i, fun i => if i = C then z else kd i, h1, by omega, h3, rfl, rfl, rfl, rfl, rfl, rfl, h4, fun c hc => ?_⟩
  dsimp only
  by_cases e : c = C
  · subst e
    rw [upd_s, upd_s, upd_s, upd_s, upd_n (show 3 * c ≠ 3 * c + 2 by omega), upd_n (show 3 * c ≠ 3 * c + 1 by omega), upd_s, upd_n (show 3 * c + 1 ≠ 3 * c + 2 by omega), upd_s, upd_s, if_pos rfl, if_pos rfl, if_pos rfl]
    exact ⟨rfl, rfl, rfl, rfl, rfl, rfl, rfl, hx, hy, hz⟩
  · rw [upd_n e, upd_n e, upd_n e, upd_n e, upd_n (show 3 * c ≠ 3 * C + 2 by omega), upd_n (show 3 * c ≠ 3 * C + 1 by omega), upd_n (show 3 * c ≠ 3 * C by omega), upd_n (show 3 * c + 1 ≠ 3 * C + 2 by omega), upd_n (show 3 * c + 1 ≠ 3 * C + 1 by omega), upd_n (show 3 * c + 1 ≠ 3 * C by omega), upd_n (show 3 * c + 2 ≠ 3 * C + 2 by omega), upd_n (show 3 * c + 2 ≠ 3 * C + 1 by omega), upd_n (show 3 * c + 2 ≠ 3 * C by omega), if_neg e, if_neg e, if_neg e]
    exact h5 c (by omega)
/-- the reference's parts -/
theorem part_h {n : Nat} {tb mt : Nat → Int32} (hX : TX n tb mt) {H p : Nat} {rc rh : Nat → Int32} {cc : Int32} (hH : H < 3) (hp : p < n) (ht : tvt mt p = 72) :
    f_X6_readPart (nI n) mt (nI p) (nI H) cc rh rc = if frm n (tvt mt) (p + 1) 48 49 = true then (if frm n (tvt mt) (p + 2) 49 57 = true then some (nI 1, nI (p + 3), nI (H + 1), cc, upd (upd rh (2 * H) (nI (tvt mt (p + 1) - 48))) (2 * H + 1) (nI (tvt mt (p + 2) - 48)), rc) else some (nI 0, nI (p + 2), nI H, cc, rh, rc)) else some (nI 0, nI (p + 1), nI H, cc, rh, rc) := by
  have h48 := hX.1
  obtain ⟨e1, -, -⟩ := tvt_n hX hp
  unfold f_X6_readPart f_X6_readHouse f_X6_readHouse_25
  simp only [kl0, kl1, kl2, kl3, kl4, kl5, kl6, kl7, kl8, kl9, kl10, kl12, kl13, kl14, kl20, kl21, kl22, kl23, kl24, kl25, kl26, kl30, kl31, kl33, kl48, kl49, kl57, kl65, kl66, kl67, kl72, kl89, kl100, kl128, kl255, if_true]
  rw [kg_yes (kin_y (by omega) (by omega)), nI_clamp (by omega), e1, ht, if_pos rfl, if_neg (nI_ge hH (by omega)), k_s1, figure_n hX (p := p + 1) (lo := 0) (hi := 1) (by omega) (by omega) (by omega), show 48 + 0 = 48 from rfl, show 48 + 1 = 49 from rfl]
  by_cases a : frm n (tvt mt) (p + 1) 48 49 = true
  · have a1 := frm_y a
    rw [if_pos a, if_pos a, kb1_some]
    dsimp only
    rw [if_neg (n9 (by omega)), k_s1, show p + 1 + 1 = p + 2 from rfl, figure_n hX (p := p + 2) (lo := 1) (hi := 9) (by omega) (by omega) (by omega), show 48 + 9 = 57 from rfl]
    by_cases b : frm n (tvt mt) (p + 2) 49 57 = true
    · have b1 := frm_y b
      rw [if_pos b, if_pos b, kb1_some]
      dsimp only
      rw [if_neg (n9 (by omega)), k_mul, k_s1, kg_yes (kin_y (by omega) (by omega)), kg_yes (kin_y (by omega) (by omega)), nI_clamp (by omega), nI_clamp (by omega), kb1_some]
      dsimp only
      exact kg_yes kbo_1
    · rw [if_neg b, if_neg b, kb1_some]
      dsimp only
      rw [if_pos rfl, kb1_some]
      dsimp only
      rw [kg_yes kbo_0]
  · rw [if_neg a, if_neg a, kb1_some]
    dsimp only
    rw [if_pos rfl, kb1_some]
    dsimp only
    rw [kg_yes kbo_0]
theorem part_c {n : Nat} {tb mt : Nat → Int32} (hX : TX n tb mt) {H C p : Nat} {rc rh : Nat → Int32} (hH : H ≤ 3) (h0 : 0 < H) (hC : C < 6) (hp : p < n) (ht : tvt mt p = 67) :
    f_X6_readPart (nI n) mt (nI p) (nI H) (nI C) rh rc = if frm n (tvt mt) (p + 1) 48 57 = true then (if frm n (tvt mt) (p + 2) 48 (48 + H - 1) = true then (if frm n (tvt mt) (p + 3) 48 51 = true then some (nI 1, nI (p + 4), nI H, nI (C + 1), rh, upd (upd (upd rc (3 * C) (nI (tvt mt (p + 1) - 48))) (3 * C + 1) (nI (tvt mt (p + 2) - 48))) (3 * C + 2) (nI (tvt mt (p + 3) - 48))) else some (nI 0, nI (p + 3), nI H, nI C, rh, rc)) else some (nI 0, nI (p + 2), nI H, nI C, rh, rc)) else some (nI 0, nI (p + 1), nI H, nI C, rh, rc) := by
  have h48 := hX.1
  obtain ⟨e1, -, -⟩ := tvt_n hX hp
  unfold f_X6_readPart f_X6_readPart_39 f_X6_readChild f_X6_readChild_30 f_X6_readChild_48
  simp only [kl0, kl1, kl2, kl3, kl4, kl5, kl6, kl7, kl8, kl9, kl10, kl12, kl13, kl14, kl20, kl21, kl22, kl23, kl24, kl25, kl26, kl30, kl31, kl33, kl48, kl49, kl57, kl65, kl66, kl67, kl72, kl89, kl100, kl128, kl255, if_true]
  rw [kg_yes (kin_y (by omega) (by omega)), nI_clamp (by omega), e1, ht, if_neg (show ¬ nI 67 = nI 72 by decide), if_pos rfl, if_neg (nI_ge h0 (by omega)), if_neg (nI_ge hC (by omega)), k_s1, figure_n hX (p := p + 1) (lo := 0) (hi := 9) (by omega) (by omega) (by omega), show 48 + 0 = 48 from rfl, show 48 + 9 = 57 from rfl, k_sub (show 1 ≤ H by omega)]
  by_cases a : frm n (tvt mt) (p + 1) 48 57 = true
  · have a1 := frm_y a
    rw [if_pos a, if_pos a, kb1_some]
    dsimp only
    rw [if_neg (n9 (by omega)), k_s1, show p + 1 + 1 = p + 2 from rfl, figure_n hX (p := p + 2) (lo := 0) (hi := H - 1) (by omega) (by omega) (by omega), show 48 + (H - 1) = 48 + H - 1 by omega, show 48 + 0 = 48 from rfl]
    by_cases b : frm n (tvt mt) (p + 2) 48 (48 + H - 1) = true
    · have b1 := frm_y b
      rw [if_pos b, if_pos b, kb1_some]
      dsimp only
      rw [if_neg (n9 (by omega)), show p + 2 + 1 = p + 3 from rfl, figure_n hX (p := p + 3) (lo := 0) (hi := 3) (by omega) (by omega) (by omega), show 48 + 3 = 51 from rfl, show 48 + 0 = 48 from rfl]
      by_cases c : frm n (tvt mt) (p + 3) 48 51 = true
      · have c1 := frm_y c
        rw [if_pos c, if_pos c, kb1_some]
        dsimp only
        rw [if_neg (n9 (by omega)), k_mul, k_s1, nI_add (3 * C) 2, kg_yes (kin_y (by omega) (by omega)), kg_yes (kin_y (by omega) (by omega)), kg_yes (kin_y (by omega) (by omega)), nI_clamp (by omega), nI_clamp (by omega), nI_clamp (by omega), kb1_some]
        dsimp only
        exact kg_yes kbo_1
      · rw [if_neg c, if_neg c, kb1_some]
        dsimp only
        rw [if_pos rfl, kb1_some]
        dsimp only
        rw [kg_yes kbo_0]
    · rw [if_neg b, if_neg b, kb1_some]
      dsimp only
      rw [if_pos rfl, kb1_some]
      dsimp only
      rw [kg_yes kbo_0]
  · rw [if_neg a, if_neg a, kb1_some]
    dsimp only
    rw [if_pos rfl, kb1_some]
    dsimp only
    rw [kg_yes kbo_0]
theorem part_0 {n : Nat} {tb mt : Nat → Int32} (hX : TX n tb mt) {H C p : Nat} {rc rh : Nat → Int32} (hH : H ≤ 3) (hC : C ≤ 6) (hp : p < n) (h1 : tvt mt p = 72 → 3 ≤ H) (h2 : tvt mt p = 67 → H = 0 ∨ 6 ≤ C) :
    f_X6_readPart (nI n) mt (nI p) (nI H) (nI C) rh rc = some (nI 0, nI p, nI H, nI C, rh, rc) := by
  have h48 := hX.1
  obtain ⟨e1, -, e3⟩ := tvt_n hX hp
  have key : f_X6_readPart_39 (nI n) mt (nI (p + 1)) (nI H) (nI C) rh rc (nI (tvt mt p)) = some (nI 0, nI p, nI H, nI C, rh, rc) := by
    unfold f_X6_readPart_39 f_X6_readPart_66
    simp only [kl0, kl1, kl2, kl3, kl4, kl5, kl6, kl7, kl8, kl9, kl10, kl12, kl13, kl14, kl20, kl21, kl22, kl23, kl24, kl25, kl26, kl30, kl31, kl33, kl48, kl49, kl57, kl65, kl66, kl67, kl72, kl89, kl100, kl128, kl255]
    rw [k_p1]
    by_cases a : tvt mt p = 67
    · rw [if_pos (congrArg nI a)]
      by_cases b : H = 0
      · rw [if_pos (by rw [b]; decide)]
      · rw [if_neg (nI_ge (by omega) (by omega)), if_pos (nI_le (by have := h2 a; omega) (by omega))]
    · rw [if_neg (fun z => a ((nI_eq (by omega) (by omega)).1 z))]
  unfold f_X6_readPart
  simp only [kl0, kl1, kl2, kl3, kl4, kl5, kl6, kl7, kl8, kl9, kl10, kl12, kl13, kl14, kl20, kl21, kl22, kl23, kl24, kl25, kl26, kl30, kl31, kl33, kl48, kl49, kl57, kl65, kl66, kl67, kl72, kl89, kl100, kl128, kl255]
  rw [kg_yes (kin_y (by omega) (by omega)), nI_clamp (by omega), e1, k_s1]
  by_cases a : tvt mt p = 72
  · rw [if_pos (congrArg nI a), if_pos (nI_le (h1 a) (by omega))]
    exact key
  · rw [if_neg (fun z => a ((nI_eq (by omega) (by omega)).1 z))]
    exact key
theorem read_l {n : Nat} {tb mt : Nat → Int32} (hX : TX n tb mt) : ∀ (m p fuel H C : Nat) (ho ch li si ih ye : Int32) (wr bi hm ki we rh rc : Nat → Int32), n - p ≤ m → p ≤ n → m < fuel → RDE H C ho ch li si ih ye wr bi hm ki we rh rc →
    ∃ r ho' ch' li' si' ih' ye' wr' bi' hm' ki' we' pl H' C' rh' rc', f_X3_readInto_20 (nI n) tb fuel ho ch li si ih ye wr bi hm ki we (nI p) = some (r, ho', ch', li', si', ih', ye', wr', bi', hm', ki', we') ∧ f_X6_readTown_40 (nI n) mt fuel (nI p) (nI H) (nI C) rh rc = some (r, pl, nI H', nI C', rh', rc') ∧ (r = -nI 9 → RDE H' C' ho' ch' li' si' ih' ye' wr' bi' hm' ki' we' rh' rc') := by
  have h48 := hX.1
  intro m
  induction m with
  | zero =>
    intro p fuel H C ho ch li si ih ye wr bi hm ki we rh rc h1 h2 h3 hR
    obtain ⟨d, rfl⟩ : ∃ d, fuel = d + 1 := ⟨fuel - 1, by omega⟩
    simp only [f_X3_readInto_20, f_X3_readInto_20_b, f_X6_readTown_40, f_X6_readTown_40_b, kl0, kl1, kl2, kl3, kl4, kl5, kl6, kl7, kl8, kl9, kl10, kl12, kl13, kl14, kl20, kl21, kl22, kl23, kl24, kl25, kl26, kl30, kl31, kl33, kl48, kl49, kl57, kl65, kl66, kl67, kl72, kl89, kl100, kl128, kl255]
    rw [if_pos (nI_le (by omega) (by omega)), if_pos (nI_le (by omega) (by omega))]
    exact ⟨_, _, _, _, _, _, _, _, _, _, _, _, _, _, _, _, _, rfl, rfl, fun _ => hR⟩
  | succ m ih0 =>
    intro p fuel H C ho ch li si ih ye wr bi hm ki we rh rc h1 h2 h3 hR
    obtain ⟨d, rfl⟩ : ∃ d, fuel = d + 1 := ⟨fuel - 1, by omega⟩
    by_cases hpn : p < n
    · have hR0 := hR
      obtain ⟨S, w, b, g, kd, hH, hC, -, rfl, rfl, -⟩ := hR
      obtain ⟨-, e2, e3⟩ := tvt_n hX hpn
      have bad : ∀ q, q < 100 → (nI q = -nI 9 → RDE H C (nI H) (nI C) li si ih ye wr bi hm ki we rh rc) := fun q hq z => absurd z (n9 (by omega))
      show ∃ r ho' ch' li' si' ih' ye' wr' bi' hm' ki' we' pl H' C' rh' rc', f_X3_readInto_20_b _ _ (f_X3_readInto_20 (nI n) tb d) _ _ _ _ _ _ _ _ _ _ _ _ = some (r, ho', ch', li', si', ih', ye', wr', bi', hm', ki', we') ∧ f_X6_readTown_40_b _ _ (f_X6_readTown_40 (nI n) mt d) _ _ _ _ _ = some (r, pl, nI H', nI C', rh', rc') ∧ _
      unfold f_X3_readInto_20_b f_X6_readTown_40_b
      simp only [kl0, kl1, kl2, kl3, kl4, kl5, kl6, kl7, kl8, kl9, kl10, kl12, kl13, kl14, kl20, kl21, kl22, kl23, kl24, kl25, kl26, kl30, kl31, kl33, kl48, kl49, kl57, kl65, kl66, kl67, kl72, kl89, kl100, kl128, kl255]
      rw [if_neg (nI_ge hpn (by omega)), if_neg (nI_ge hpn (by omega)), get_n (by decide) (by omega), kb1_some, e2]
      by_cases t72 : tvt mt p = 72
      · rw [if_pos (congrArg nI t72)]
        unfold f_X3_readInto_46
        simp only [kl0, kl1, kl2, kl3, kl4, kl5, kl6, kl7, kl8, kl9, kl10, kl12, kl13, kl14, kl20, kl21, kl22, kl23, kl24, kl25, kl26, kl30, kl31, kl33, kl48, kl49, kl57, kl65, kl66, kl67, kl72, kl89, kl100, kl128, kl255]
        rw [if_neg (show ¬ nI 1 = nI 0 by decide), fHs_n hX hH hpn, kb1_some]
        unfold f_X3_readInto_66 fHs
        simp only [kl0, kl1, kl2, kl3, kl4, kl5, kl6, kl7, kl8, kl9, kl10, kl12, kl13, kl14, kl20, kl21, kl22, kl23, kl24, kl25, kl26, kl30, kl31, kl33, kl48, kl49, kl57, kl65, kl66, kl67, kl72, kl89, kl100, kl128, kl255]
        by_cases cH : H < 3
        · rw [if_pos cH, part_h hX cH hpn t72]
          by_cases a : frm n (tvt mt) (p + 1) 48 49 = true
          · have a1 := frm_y a
            rw [if_pos a, if_pos a]
            by_cases b : frm n (tvt mt) (p + 2) 49 57 = true
            · have b1 := frm_y b
              obtain ⟨si', wr', g1, g2⟩ := house_add hR0 cH (s := tvt mt (p + 1) - 48) (v := tvt mt (p + 2) - 48) (by omega) (by omega)
              rw [if_pos b, if_pos b, if_pos rfl, if_neg (show ¬ nI 1 = nI 0 by decide), k_s1, nI_add p 2, fig_c hX (by omega) (by omega), kb1_some, fig_c hX (by omega) (by omega), kb1_some, g1, kb1_some, kb1_some]
              unfold f_X3_readInto_129
              simp only [kl0, kl1, kl2, kl3, kl4, kl5, kl6, kl7, kl8, kl9, kl10, kl12, kl13, kl14, kl20, kl21, kl22, kl23, kl24, kl25, kl26, kl30, kl31, kl33, kl48, kl49, kl57, kl65, kl66, kl67, kl72, kl89, kl100, kl128, kl255]
              rw [if_neg (show ¬ nI 1 = nI 0 by decide), if_neg (show ¬ nI 1 = nI 0 by decide), nI_add p 3]
              exact ih0 (p + 3) d (H + 1) C _ _ _ _ _ _ _ _ _ _ _ _ _ (by omega) (by omega) (by omega) g2
            · rw [if_neg b, if_neg b, if_neg (n9 (by omega)), kb1_some]
              exact ⟨_, _, _, _, _, _, _, _, _, _, _, _, _, H, C, _, _, rfl, rfl, bad _ (by omega)⟩
          · rw [if_neg a, if_neg a, if_neg (n9 (by omega)), kb1_some]
            exact ⟨_, _, _, _, _, _, _, _, _, _, _, _, _, H, C, _, _, rfl, rfl, bad _ (by omega)⟩
        · rw [if_neg cH, if_neg (n9 (by omega)), part_0 hX hH hC hpn (fun _ => by omega) (fun z => by omega), kb1_some]
          exact ⟨_, _, _, _, _, _, _, _, _, _, _, _, _, H, C, _, _, rfl, rfl, bad _ (by omega)⟩
      · rw [if_neg (fun z => t72 ((nI_eq (by omega) (by omega)).1 z))]
        unfold f_X3_readInto_46
        simp only [kl0, kl1, kl2, kl3, kl4, kl5, kl6, kl7, kl8, kl9, kl10, kl12, kl13, kl14, kl20, kl21, kl22, kl23, kl24, kl25, kl26, kl30, kl31, kl33, kl48, kl49, kl57, kl65, kl66, kl67, kl72, kl89, kl100, kl128, kl255, if_true]
        rw [fCs_n hX hH hC hpn, kb1_some]
        unfold f_X3_readInto_66 fCs
        simp only [kl0, kl1, kl2, kl3, kl4, kl5, kl6, kl7, kl8, kl9, kl10, kl12, kl13, kl14, kl20, kl21, kl22, kl23, kl24, kl25, kl26, kl30, kl31, kl33, kl48, kl49, kl57, kl65, kl66, kl67, kl72, kl89, kl100, kl128, kl255]
        by_cases t67 : tvt mt p = 67
        · have f67 : frm n (tvt mt) p 67 67 = true := decide_eq_true ⟨hpn, by omega, by omega⟩
          rw [if_pos f67]
          by_cases cH : H = 0
          · rw [if_pos cH, if_neg (n9 (by omega)), part_0 hX hH hC hpn (fun z => absurd z t72) (fun _ => Or.inl cH), kb1_some]
            exact ⟨_, _, _, _, _, _, _, _, _, _, _, _, _, H, C, _, _, rfl, rfl, bad _ (by omega)⟩
          · rw [if_neg cH]
            by_cases cC : C < 6
            · rw [if_pos cC, part_c hX hH (by omega) cC hpn t67]
              by_cases a : frm n (tvt mt) (p + 1) 48 57 = true
              · have a1 := frm_y a
                rw [if_pos a, if_pos a]
                by_cases b : frm n (tvt mt) (p + 2) 48 (48 + H - 1) = true
                · have b1 := frm_y b
                  rw [if_pos b, if_pos b]
                  by_cases c : frm n (tvt mt) (p + 3) 48 51 = true
                  · have c1 := frm_y c
                    obtain ⟨li', bi', hm', ki', we', g1, g2⟩ := child_add hR0 cC (x := tvt mt (p + 1) - 48) (y := tvt mt (p + 2) - 48) (z := tvt mt (p + 3) - 48) (by omega) (by omega) (by omega)
                    rw [if_pos c, if_pos c, if_pos rfl, if_pos trivial, k_s1, nI_add p 2, nI_add p 3, fig_c hX (p := p + 1) (by omega) (by omega), kb1_some, fig_c hX (p := p + 2) (by omega) (by omega), kb1_some, fig_c hX (p := p + 3) (by omega) (by omega), kb1_some, g1, kb1_some, kb1_some]
                    unfold f_X3_readInto_129
                    simp only [kl0, kl1, kl2, kl3, kl4, kl5, kl6, kl7, kl8, kl9, kl10, kl12, kl13, kl14, kl20, kl21, kl22, kl23, kl24, kl25, kl26, kl30, kl31, kl33, kl48, kl49, kl57, kl65, kl66, kl67, kl72, kl89, kl100, kl128, kl255, if_true]
                    rw [if_neg (show ¬ nI 1 = nI 0 by decide), nI_add p 4]
                    exact ih0 (p + 4) d H (C + 1) _ _ _ _ _ _ _ _ _ _ _ _ _ (by omega) (by omega) (by omega) g2
                  · rw [if_neg c, if_neg c, if_neg (n9 (by omega)), kb1_some]
                    exact ⟨_, _, _, _, _, _, _, _, _, _, _, _, _, H, C, _, _, rfl, rfl, bad _ (by omega)⟩
                · rw [if_neg b, if_neg b, if_neg (n9 (by omega)), kb1_some]
                  exact ⟨_, _, _, _, _, _, _, _, _, _, _, _, _, H, C, _, _, rfl, rfl, bad _ (by omega)⟩
              · rw [if_neg a, if_neg a, if_neg (n9 (by omega)), kb1_some]
                exact ⟨_, _, _, _, _, _, _, _, _, _, _, _, _, H, C, _, _, rfl, rfl, bad _ (by omega)⟩
            · rw [if_neg cC, if_neg (n9 (by omega)), part_0 hX hH hC hpn (fun z => absurd z t72) (fun _ => Or.inr (by omega)), kb1_some]
              exact ⟨_, _, _, _, _, _, _, _, _, _, _, _, _, H, C, _, _, rfl, rfl, bad _ (by omega)⟩
        · have f67 : ¬ frm n (tvt mt) p 67 67 = true := fun z => by have := frm_y z; omega
          rw [if_neg f67, if_neg (n9 (by omega)), part_0 hX hH hC hpn (fun z => absurd z t72) (fun z => absurd z t67), kb1_some]
          exact ⟨_, _, _, _, _, _, _, _, _, _, _, _, _, H, C, _, _, rfl, rfl, bad _ (by omega)⟩
    · simp only [f_X3_readInto_20, f_X3_readInto_20_b, f_X6_readTown_40, f_X6_readTown_40_b, kl0, kl1, kl2, kl3, kl4, kl5, kl6, kl7, kl8, kl9, kl10, kl12, kl13, kl14, kl20, kl21, kl22, kl23, kl24, kl25, kl26, kl30, kl31, kl33, kl48, kl49, kl57, kl65, kl66, kl67, kl72, kl89, kl100, kl128, kl255]
      rw [if_pos (nI_le (by omega) (by omega)), if_pos (nI_le (by omega) (by omega))]
      exact ⟨_, _, _, _, _, _, _, _, _, _, _, _, _, _, _, _, _, rfl, rfl, fun _ => hR⟩
theorem read_n {n : Nat} {tb mt : Nat → Int32} (hX : TX n tb mt) (d1 d2 d3 d4 d5 d6 : Int32) (e1 e2 e3 e4 e5 : Nat → Int32) (pl rH rC : Int32) (rh rc : Nat → Int32) :
    ∃ r ho' ch' li' si' ih' ye' wr' bi' hm' ki' we' pl' H' C' rh' rc', f_X3_readInto (nI n) tb d1 d2 d3 d4 d5 d6 e1 e2 e3 e4 e5 = some (r, ho', ch', li', si', ih', ye', wr', bi', hm', ki', we') ∧ f_X6_readTown (nI n) mt pl rH rC rh rc = some (r, pl', nI H', nI C', rh', rc') ∧ (r = -nI 9 → RDE H' C' ho' ch' li' si' ih' ye' wr' bi' hm' ki' we' rh' rc') := by
  have h48 := hX.1
  have hR : RDE 0 0 (nI 0) (nI 0) (nI 0) (nI 0) (nI 0) (nI 0) e1 e2 e3 e4 e5 rh rc := ⟨0, fun _ => 0, fun _ => 0, fun _ => 0, fun _ => 0, by omega, by omega, by decide, rfl, rfl, rfl, rfl, rfl, rfl, fun i hi => by omega, fun i hi => by omega⟩
  have bad : (nI 0 = -nI 9 → RDE 0 0 (nI 0) (nI 0) (nI 0) (nI 0) (nI 0) (nI 0) e1 e2 e3 e4 e5 rh rc) := fun _ => hR
  unfold f_X3_readInto f_X6_readTown f_X4_clear
  simp only [kl0, kl1, kl2, kl3, kl4, kl5, kl6, kl7, kl8, kl9, kl10, kl12, kl13, kl14, kl20, kl21, kl22, kl23, kl24, kl25, kl26, kl30, kl31, kl33, kl48, kl49, kl57, kl65, kl66, kl67, kl72, kl89, kl100, kl128, kl255]
  rw [kb1_some]
  dsimp only
  rw [isFrom_n hX (by omega) (by omega) (by omega), kb1_some, ki0]
  by_cases h0 : n = 0
  · subst h0
    rw [if_neg (show ¬ frm 0 (tvt mt) 0 89 89 = true from fun z => by have := (frm_y z).1; omega), if_pos rfl]
    exact ⟨_, _, _, _, _, _, _, _, _, _, _, _, _, 0, 0, _, _, rfl, rfl, bad⟩
  · obtain ⟨a1, -, a3⟩ := tvt_n hX (i := 0) (by omega)
    rw [if_neg (fun z => h0 ((nI_eq (by omega) (by omega)).1 z)), a1]
    by_cases a : tvt mt 0 = 89
    · rw [if_pos (show frm n (tvt mt) 0 89 89 = true from decide_eq_true ⟨by omega, by omega, by omega⟩), if_pos (congrArg nI a)]
      exact read_l hX n 1 1000 0 0 _ _ _ _ _ _ _ _ _ _ _ _ _ (by omega) (by omega) (by omega) hR
    · rw [if_neg (show ¬ frm n (tvt mt) 0 89 89 = true from fun z => by have := frm_y z; omega), if_neg (fun z => a ((nI_eq (by omega) (by omega)).1 z))]
      exact ⟨_, _, _, _, _, _, _, _, _, _, _, _, _, 0, 0, _, _, rfl, rfl, bad⟩
theorem cmd_fault {n : Nat} {tb mt : Nat → Int32} (hX : TX n tb mt) (d1 d2 d3 d4 d5 d6 : Int32) (e1 e2 e3 e4 e5 : Nat → Int32) (th pl rH rC : Int32) (rh rc : Nat → Int32) :
    ∃ r d1' d2' d3' d4' d5' d6' e1' e2' e3' e4' e5' th' pl' rH' rC' rh' rc', f_X5_fault (nI n) tb d1 d2 d3 d4 d5 d6 e1 e2 e3 e4 e5 = some (r, d1', d2', d3', d4', d5', d6', e1', e2', e3', e4', e5') ∧ f_X6_fault (nI n) mt th pl rH rC rh rc = some (r, th', pl', rH', rC', rh', rc') := by
  obtain ⟨r, ho', ch', li', si', ih', ye', wr', bi', hm', ki', we', pl', H', C', rh', rc', g1, g2, -⟩ := read_n hX d1 d2 d3 d4 d5 d6 e1 e2 e3 e4 e5 pl rH rC rh rc
  unfold f_X5_fault f_X6_fault
  rw [g1, g2, kb1_some, kb1_some]
  exact ⟨_, _, _, _, _, _, _, _, _, _, _, _, _, _, _, _, _, _, rfl, rfl⟩
