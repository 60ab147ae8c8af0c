/-! MATH 7: the acts kept for undo -/
theorem k_s1 (a : Nat) : nI a + nI 1 = nI (a + 1) := nI_add a 1
theorem k_p1 (n : Nat) : nI (n + 1) - nI 1 = nI n := by rw [← kl1]; exact nI_pred n
theorem k_mul (a b : Nat) : nI a * nI b = nI (a * b) := (Int32.ofNat_mul a b).symm
theorem drop_l (g : Nat → Int32) : ∀ (m c fuel : Nat) (f : Nat → Int32), c + m = 14 → m < fuel → 1 ≤ c → (∀ i, i + 1 < c → f i = g (i + 1)) → (∀ i, c ≤ i → f i = g i) → ∃ f', f_X1_dropFirst_2 14 fuel f (nI c) = some f' ∧ ∀ i, i < 13 → f' i = g (i + 1) := by
  intro m
  induction m with
  | zero =>
    intro c fuel f hc hf h0 h1 h2
    obtain ⟨k, rfl⟩ : ∃ k, fuel = k + 1 := ⟨fuel - 1, by omega⟩
    refine ⟨f, ?_, fun i hi => h1 i (by omega)⟩
    simp only [f_X1_dropFirst_2, f_X1_dropFirst_2_b]
    rw [if_pos (show Int32.ofNat 14 ≤ nI c from nI_le (by omega) (by omega))]
  | succ m ih =>
    intro c fuel f hc hf h0 h1 h2
    obtain ⟨k, rfl⟩ : ∃ k, fuel = k + 1 := ⟨fuel - 1, by omega⟩
    obtain ⟨d, rfl⟩ : ∃ d, c = d + 1 := ⟨c - 1, by omega⟩
    simp only [f_X1_dropFirst_2, f_X1_dropFirst_2_b, kl1]
    rw [if_neg (show ¬ Int32.ofNat 14 ≤ nI (d + 1) from nI_ge (by omega) (by omega)), kg_yes (kin_y (by omega) (by omega)), k_p1, kg_yes (kin_y (by omega) (by omega)), nI_clamp (by omega), nI_clamp (by omega), k_s1]
    refine ih (d + 1 + 1) k _ (by omega) (by omega) (by omega) (fun i hi => ?_) (fun i hi => ?_)
    · by_cases e : i = d
      · subst e; rw [upd_s]; exact h2 _ (by omega)
      · rw [upd_n e]; exact h1 i (by omega)
    · rw [upd_n (show i ≠ d by omega)]; exact h2 i (by omega)
theorem drop_n (g : Nat → Int32) : ∃ f', f_X1_dropFirst 14 g = some f' ∧ ∀ i, i < 13 → f' i = g (i + 1) := by
  unfold f_X1_dropFirst
  rw [kl1]
  exact drop_l g 13 1 1000 g (by omega) (by omega) (by omega) (fun i hi => by omega) (fun i _ => rfl)
/-- the class's add, either way -/
theorem add_n {na : Nat} (h : na ≤ 14) (wt wh bf : Nat → Int32) (w x y : Int32) : ∃ wt' wh' bf', f_X0_add (nI na) wt wh bf w x y = some (nI ((if na = 14 then 13 else na) + 1), wt', wh', bf') ∧
    (∀ i, i < (if na = 14 then 13 else na) → wt' i = wt (i + if na = 14 then 1 else 0) ∧ wh' i = wh (i + if na = 14 then 1 else 0) ∧ bf' i = bf (i + if na = 14 then 1 else 0)) ∧
    wt' (if na = 14 then 13 else na) = w ∧ wh' (if na = 14 then 13 else na) = x ∧ bf' (if na = 14 then 13 else na) = y := by
  unfold f_X0_add
  by_cases e : na = 14
  · subst e
    obtain ⟨a, a1, a2⟩ := drop_n wt
    obtain ⟨b, b1, b2⟩ := drop_n wh
    obtain ⟨c, c1, c2⟩ := drop_n bf
    simp only [if_true, kl14, kl1]
    rw [if_neg (nI_nlt (Nat.le_refl 14) (by omega)), a1, kb1_some, b1, kb1_some, c1, kb1_some, k_p1 13]
    unfold f_X0_add_40
    rw [set_n (by decide) (by omega), kb1_some, set_n (by decide) (by omega), kb1_some, set_n (by decide) (by omega), kb1_some, kl1, k_s1]
    refine ⟨_, _, _, rfl, fun i hi => ?_, upd_s, upd_s, upd_s⟩
    rw [upd_n (by omega), upd_n (by omega), upd_n (by omega)]
    exact ⟨a2 i hi, b2 i hi, c2 i hi⟩
  · simp only [if_neg e, kl14]
    rw [if_pos (nI_lt (by omega) (by omega))]
    unfold f_X0_add_40
    rw [set_n (by decide) (by omega), kb1_some, set_n (by decide) (by omega), kb1_some, set_n (by decide) (by omega), kb1_some, kl1, k_s1]
    refine ⟨_, _, _, rfl, fun i hi => ?_, upd_s, upd_s, upd_s⟩
    rw [upd_n (by omega), upd_n (by omega), upd_n (by omega)]
    exact ⟨rfl, rfl, rfl⟩
/-- the reference's note -/
theorem note51_l {P b : Nat → Int32} {a : Nat} (ha : a ≤ 13) : ∀ (m c fuel : Nat) (f : Nat → Int32), c + m = 33 → m < fuel → (∀ k, k < c → f (33 * a + k) = P k) → (∀ i, i < 33 * a → f i = b i) → ∃ f', f_X6_note_51 P fuel (nI a) f (nI c) = some (nI (a + 1), f') ∧ (∀ k, k < 33 → f' (33 * a + k) = P k) ∧ (∀ i, i < 33 * a → f' i = b i) := by
  intro m
  induction m with
  | zero =>
    intro c fuel f hc hf h1 h2
    obtain ⟨k, rfl⟩ : ∃ k, fuel = k + 1 := ⟨fuel - 1, by omega⟩
    refine ⟨f, ?_, fun i hi => h1 i (by omega), h2⟩
    simp only [f_X6_note_51, f_X6_note_51_b, kl33, kl1]
    rw [if_pos (nI_le (by omega) (by omega)), k_s1]
  | succ m ih =>
    intro c fuel f hc hf h1 h2
    obtain ⟨k, rfl⟩ : ∃ k, fuel = k + 1 := ⟨fuel - 1, by omega⟩
    simp only [f_X6_note_51, f_X6_note_51_b, kl33, kl1]
    rw [if_neg (nI_ge (by omega) (by omega)), kg_yes (kin_y (by omega) (by omega)), k_mul, nI_add, kg_yes (kin_y (by omega) (by omega)), nI_clamp (by omega), nI_clamp (by omega), k_s1]
    refine ih (c + 1) k _ (by omega) (by omega) (fun i hi => ?_) (fun i hi => ?_)
    · by_cases e : i = c
      · subst e; rw [upd_s]
      · rw [upd_n (by omega)]; exact h1 i (by omega)
    · rw [upd_n (by omega)]; exact h2 i hi
theorem kl429 : (429 : Int32) = nI 429 := Int32.toInt_inj.mp (by decide)
theorem note11_l {P b : Nat → Int32} : ∀ (m c fuel : Nat) (f : Nat → Int32), c + m = 429 → m < fuel → (∀ i, i < c → f i = b (i + 33)) → (∀ i, c ≤ i → f i = b i) → ∃ f', f_X6_note_11 P fuel (nI 14) f (nI c) = some (nI 14, f') ∧ (∀ k, k < 33 → f' (429 + k) = P k) ∧ (∀ i, i < 429 → f' i = b (i + 33)) := by
  intro m
  induction m with
  | zero =>
    intro c fuel f hc hf h1 h2
    obtain ⟨k, rfl⟩ : ∃ k, fuel = k + 1 := ⟨fuel - 1, by omega⟩
    simp only [f_X6_note_11, f_X6_note_11_b, kl429, kl1, kl0]
    rw [if_pos (nI_le (by omega) (by omega)), k_p1 13]
    obtain ⟨f', h3, h4, h5⟩ := note51_l (P := P) (b := fun i => b (i + 33)) (a := 13) (by omega) 33 0 1000 f (by omega) (by omega) (fun k hk => by omega) (fun i hi => h1 i (by omega))
    exact ⟨f', h3, h4, h5⟩
  | succ m ih =>
    intro c fuel f hc hf h1 h2
    obtain ⟨k, rfl⟩ : ∃ k, fuel = k + 1 := ⟨fuel - 1, by omega⟩
    simp only [f_X6_note_11, f_X6_note_11_b, kl429, kl1, kl33]
    rw [if_neg (nI_ge (by omega) (by omega)), nI_add, kg_yes (kin_y (by omega) (by omega)), kg_yes (kin_y (by omega) (by omega)), nI_clamp (by omega), nI_clamp (by omega), k_s1]
    refine ih (c + 1) k _ (by omega) (by omega) (fun i hi => ?_) (fun i hi => ?_)
    · by_cases e : i = c
      · subst e; rw [upd_s]; exact h2 _ (by omega)
      · rw [upd_n e]; exact h1 i (by omega)
    · rw [upd_n (by omega)]; exact h2 i (by omega)
theorem note_n {na : Nat} (h : na ≤ 14) (P b : Nat → Int32) : ∃ b', f_X6_note P (nI na) b = some (nI ((if na = 14 then 13 else na) + 1), b') ∧
    (∀ k, k < 33 → b' (33 * (if na = 14 then 13 else na) + k) = P k) ∧ (∀ i, i < 33 * (if na = 14 then 13 else na) → b' i = b (i + if na = 14 then 33 else 0)) := by
  unfold f_X6_note
  simp only [kl14, kl0]
  by_cases e : na = 14
  · subst e
    simp only [if_true]
    obtain ⟨f', h3, h4, h5⟩ := note11_l (P := P) (b := b) 429 0 1000 b (by omega) (by omega) (fun i hi => by omega) (fun i _ => rfl)
    exact ⟨f', h3, h4, h5⟩
  · simp only [if_neg e]
    rw [if_neg (fun q => e ((nI_eq (by omega) (by omega)).1 q))]
    obtain ⟨f', h3, h4, h5⟩ := note51_l (P := P) (b := b) (a := na) (by omega) 33 0 1000 b (by omega) (by omega) (fun k hk => by omega) (fun i _ => rfl)
    exact ⟨f', h3, h4, h5⟩
/-- one act's row takes page Y back to page X -/
def DL (hs : Nat) (wo : Nat → Nat) (w x y : Int32) (X Y : Nat → Nat) : Prop :=
  ∀ (ho ch li si ih ye : Int32) (wr bi hm ki we wt wh bf : Nat → Int32) (n : Nat), TR hs wo Y ho ch li si ih ye wr bi hm ki we → n < 14 → wt n = w → wh n = x → bf n = y →
    ∃ ch' li' si' ih' ye' hm' we', f_X0_takeLastBack wt wh bf wr (nI (n + 1)) ch li si ih ye hm we = some (nI n, ch', li', si', ih', ye', hm', we') ∧ TR hs wo X ho ch' li' si' ih' ye' wr bi hm' ki we'
def AC (hs T na : Nat) (wo A : Nat → Nat) (wt wh bf bk : Nat → Int32) : Prop :=
  na ≤ 14 ∧ ∃ Bk : Nat → Nat → Nat, (∀ i, i < na → VA hs T (Bk i) ∧ ∀ k, k < 33 → bk (33 * i + k) = nI (Bk i k)) ∧ (∀ i, i < na → DL hs wo (wt i) (wh i) (bf i) (Bk i) (Bk (i + 1))) ∧ Bk na = A
theorem VA.mono {hs T S : Nat} {A : Nat → Nat} (h : VA hs T A) (hTS : T ≤ S) (hS : S ≤ 600) : VA hs S A := by
  obtain ⟨h1, h2, h3, h4, h5, h6, h7, h8⟩ := h
  exact ⟨h1, hS, h3, h4, h5, h6, by omega, fun c hc => ⟨by have := (h8 c hc).1; omega, (h8 c hc).2.1, by have := (h8 c hc).2.2.1; omega, (h8 c hc).2.2.2⟩⟩
theorem AC.mono {hs T S na : Nat} {wo A : Nat → Nat} {wt wh bf bk : Nat → Int32} (h : AC hs T na wo A wt wh bf bk) (hTS : T ≤ S) (hS : S ≤ 600) : AC hs S na wo A wt wh bf bk := by
  obtain ⟨h1, Bk, h2, h3, h4⟩ := h
  exact ⟨h1, Bk, fun i hi => ⟨(h2 i hi).1.mono hTS hS, (h2 i hi).2⟩, h3, h4⟩
theorem acts_step {hs T na : Nat} {wo A A' : Nat → Nat} {wt wh bf bk P : Nat → Int32} {w x y : Int32} (h : AC hs T na wo A wt wh bf bk) (hV : VA hs T A) (hP : PG A P) (hD : DL hs wo w x y A A') :
    ∃ na' wt' wh' bf' bk', f_X0_add (nI na) wt wh bf w x y = some (nI na', wt', wh', bf') ∧ f_X6_note P (nI na) bk = some (nI na', bk') ∧ AC hs T na' wo A' wt' wh' bf' bk' := by
  obtain ⟨h1, Bk, h2, h3, h4⟩ := h
  obtain ⟨wt', wh', bf', a1, a2, a3, a4, a5⟩ := add_n h1 wt wh bf w x y
  obtain ⟨bk', b1, b2, b3⟩ := note_n h1 P bk
  refine ⟨_, wt', wh', bf', bk', a1, b1, ?_⟩
  generalize hn : (if na = 14 then 13 else na) = n at *
  generalize hs1 : (if na = 14 then 1 else 0) = s at *
  have e33 : (if na = 14 then 33 else 0) = 33 * s := by rw [← hs1]; split <;> rfl
  rw [e33] at b3
  have hns : n + s = na ∧ n ≤ 13 := by
    by_cases e : na = 14
    · rw [if_pos e] at hn hs1; omega
    · rw [if_neg e] at hn hs1; omega
  refine ⟨by omega, fun i => if i ≤ n then Bk (i + s) else A', fun i hi => ?_, fun i hi => ?_, ?_⟩
  · dsimp only
    rw [if_pos (by omega)]
    by_cases e : i = n
    · subst e
      rw [hns.1, h4]
      exact ⟨hV, fun k hk => by rw [b2 k hk]; exact hP k hk⟩
    · refine ⟨(h2 _ (by omega)).1, fun k hk => ?_⟩
      rw [b3 _ (by omega), ← (h2 (i + s) (by omega)).2 k hk]
      congr 1
      omega
  · dsimp only
    rw [if_pos (by omega)]
    by_cases e : i = n
    · subst e
      rw [if_neg (by omega), a3, a4, a5, hns.1, h4]
      exact hD
    · rw [if_pos (by omega), (a2 i (by omega)).1, (a2 i (by omega)).2.1, (a2 i (by omega)).2.2]
      have := h3 (i + s) (by omega)
      rw [show i + s + 1 = i + 1 + s by omega] at this
      exact this
  · dsimp only
    rw [if_neg (by omega)]
/-- undo -/
theorem undo_rl {b : Nat → Int32} {a : Nat} (ha : a ≤ 13) {th : Int32} : ∀ (m c fuel : Nat) (f : Nat → Int32), c + m = 33 → m < fuel → (∀ k, k < c → f k = b (33 * a + k)) → ∃ f', f_X6_undo_27 b fuel th (nI a) f (nI c) = some (nI a, th, nI a, f') ∧ (∀ k, k < 33 → f' k = b (33 * a + k)) := by
  intro m
  induction m with
  | zero =>
    intro c fuel f hc hf h1
    obtain ⟨k, rfl⟩ : ∃ k, fuel = k + 1 := ⟨fuel - 1, by omega⟩
    refine ⟨f, ?_, fun i hi => h1 i (by omega)⟩
    simp only [f_X6_undo_27, f_X6_undo_27_b, kl33, kl1]
    rw [if_pos (nI_le (by omega) (by omega))]
  | succ m ih =>
    intro c fuel f hc hf h1
    obtain ⟨k, rfl⟩ : ∃ k, fuel = k + 1 := ⟨fuel - 1, by omega⟩
    simp only [f_X6_undo_27, f_X6_undo_27_b, kl33, kl1]
    rw [if_neg (nI_ge (by omega) (by omega)), k_mul, nI_add, kg_yes (kin_y (by omega) (by omega)), kg_yes (kin_y (by omega) (by omega)), nI_clamp (by omega), nI_clamp (by omega), k_s1]
    refine ih (c + 1) k _ (by omega) (by omega) (fun i hi => ?_)
    by_cases e : i = c
    · subst e; rw [upd_s]
    · rw [upd_n e]; exact h1 i (by omega)
theorem cmd_undo {hs T na : Nat} {wo A : Nat → Nat} {wt wh bf bk P : Nat → Int32} (h : AC hs T na wo A wt wh bf bk) (hV : VA hs T A) (hP : PG A P)
    {ho ch li si ih ye : Int32} {wr bi hm ki we : Nat → Int32} (hT : TR hs wo A ho ch li si ih ye wr bi hm ki we) (th : Int32) :
    ∃ r na' A' ch' li' si' ih' ye' hm' we' th' P', f_X5_undo wr wt wh bf ch li si ih ye hm we (nI na) = some (r, ch', li', si', ih', ye', hm', we', nI na') ∧ f_X6_undo bk th (nI na) P = some (r, th', nI na', P') ∧ AC hs T na' wo A' wt wh bf bk ∧ VA hs T A' ∧ PG A' P' ∧ TR hs wo A' ho ch' li' si' ih' ye' wr bi hm' ki we' := by
  unfold f_X5_undo f_X6_undo
  obtain ⟨h1, Bk, h2, h3, h4⟩ := h
  rcases Nat.eq_zero_or_pos na with e | e
  · subst e
    rw [if_neg (show ¬ 0 < nI 0 by decide), if_pos (show nI 0 = 0 by decide)]
    exact ⟨_, 0, A, ch, li, si, ih, ye, hm, we, _, P, rfl, rfl, ⟨h1, Bk, h2, h3, h4⟩, hV, hP, hT⟩
  · obtain ⟨n, rfl⟩ : ∃ n, na = n + 1 := ⟨na - 1, by omega⟩
    have hd := h3 n (by omega)
    rw [h4] at hd
    obtain ⟨ch', li', si', ih', ye', hm', we', d1, d2⟩ := hd ho ch li si ih ye wr bi hm ki we wt wh bf n hT (by omega) rfl rfl rfl
    obtain ⟨P', p1, p2⟩ := undo_rl (b := bk) (a := n) (by omega) (th := nI 0) 33 0 1000 P (by omega) (by omega) (fun k hk => by omega)
    have b2 := h2 n (by omega)
    rw [if_pos (show 0 < nI (n + 1) from nI_lt (a := 0) (by omega) (by omega)), if_neg (nI_ne0 (by omega) (by omega)), d1, kb1_some, kl0, kl1, k_p1, p1]
    exact ⟨_, n, Bk n, ch', li', si', ih', ye', hm', we', _, P', rfl, rfl, ⟨by omega, Bk, fun i hi => h2 i (by omega), fun i hi => h3 i (by omega), rfl⟩, b2.1, fun k hk => by rw [p2 k hk]; exact b2.2 k hk, d2⟩
