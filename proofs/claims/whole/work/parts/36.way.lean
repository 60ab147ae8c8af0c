/-! MATH 16: way: the least of the good sets -/
def lss (a b : Nat) : Prop := pcn a < pcn b ∨ (pcn a = pcn b ∧ a ≤ b)
def bst (ok : Nat → Bool) : Nat → Option Nat
  | 0 => none
  | k + 1 => if ok k = true then (match bst ok k with | none => some k | some b => if pcn k < pcn b then some k else some b) else bst ok k
theorem bst_s (ok : Nat → Bool) (k : Nat) : bst ok (k + 1) = if ok k = true then (match bst ok k with | none => some k | some b => if pcn k < pcn b then some k else some b) else bst ok k := rfl
theorem bst_ok (ok : Nat → Bool) : ∀ n, (∀ b, bst ok n = some b → b < n ∧ ok b = true ∧ ∀ s, s < n → ok s = true → lss b s) ∧ (bst ok n = none → ∀ s, s < n → ok s = false)
  | 0 => ⟨fun b h => by simp [bst] at h, fun _ s hs => absurd hs (Nat.not_lt_zero s)⟩
  | k + 1 => by
    obtain ⟨h1, h2⟩ := bst_ok ok k
    rw [bst_s]
    by_cases q : ok k = true
    · rw [if_pos q]
      cases e : bst ok k with
      | none =>
        dsimp only
        refine ⟨fun b hb => ?_, fun h => by cases h⟩
        cases hb
        refine ⟨Nat.lt_succ_self _, q, fun s hs ho => ?_⟩
        rcases Nat.lt_succ_iff_lt_or_eq.mp hs with h | h
        · rw [h2 e s h] at ho; exact absurd ho (by decide)
        · exact Or.inr ⟨by rw [h], by omega⟩
      | some d =>
        dsimp only
        obtain ⟨d1, d2, d3⟩ := h1 d e
        by_cases w : pcn k < pcn d
        · rw [if_pos w]
          refine ⟨fun b hb => ?_, fun h => by cases h⟩
          cases hb
          refine ⟨Nat.lt_succ_self _, q, fun s hs ho => ?_⟩
          rcases Nat.lt_succ_iff_lt_or_eq.mp hs with h | h
          · rcases d3 s h ho with z | z
            · exact Or.inl (by omega)
            · exact Or.inl (by omega)
          · exact Or.inr ⟨by rw [h], by omega⟩
        · rw [if_neg w]
          refine ⟨fun b hb => ?_, fun h => by cases h⟩
          cases hb
          refine ⟨by omega, d2, fun s hs ho => ?_⟩
          rcases Nat.lt_succ_iff_lt_or_eq.mp hs with h | h
          · exact d3 s h ho
          · subst h
            unfold lss
            omega
    · rw [if_neg q]
      refine ⟨fun b hb => ?_, fun h s hs => ?_⟩
      · obtain ⟨d1, d2, d3⟩ := h1 b hb
        refine ⟨by omega, d2, fun s hs ho => ?_⟩
        rcases Nat.lt_succ_iff_lt_or_eq.mp hs with z | z
        · exact d3 s z ho
        · rw [z] at ho; exact absurd ho q
      · rcases Nat.lt_succ_iff_lt_or_eq.mp hs with z | z
        · exact h2 h s z
        · rw [z]; exact (Bool.not_eq_true _).mp q
def cbs (R : Nat) (ok : Nat → Bool) : Nat → Nat
  | 0 => R
  | k + 1 => if ok k = true ∧ pcn k < pcn (cbs R ok k) then k else cbs R ok k
theorem cbs_s (R : Nat) (ok : Nat → Bool) (k : Nat) : cbs R ok (k + 1) = if ok k = true ∧ pcn k < pcn (cbs R ok k) then k else cbs R ok k := rfl
theorem cbs_ok {R : Nat} {ok : Nat → Bool} (hR : ok R = true) (hl : ∀ s, ok s = true → s ≠ R → pcn s < pcn R) : ∀ n, ok (cbs R ok n) = true ∧ (cbs R ok n = R ∨ (cbs R ok n < n ∧ cbs R ok n ≠ R)) ∧ ∀ s, s < n → ok s = true → lss (cbs R ok n) s
  | 0 => ⟨hR, Or.inl rfl, fun s hs => absurd hs (Nat.not_lt_zero s)⟩
  | k + 1 => by
    obtain ⟨h1, h2, h3⟩ := cbs_ok hR hl k
    rw [cbs_s]
    by_cases q : ok k = true ∧ pcn k < pcn (cbs R ok k)
    · rw [if_pos q]
      refine ⟨q.1, ?_, fun s hs ho => ?_⟩
      · by_cases e : k = R
        · exact Or.inl e
        · exact Or.inr ⟨Nat.lt_succ_self _, e⟩
      · rcases Nat.lt_succ_iff_lt_or_eq.mp hs with z | z
        · rcases h3 s z ho with w | w
          · exact Or.inl (by omega)
          · exact Or.inl (by omega)
        · exact Or.inr ⟨by rw [z], by omega⟩
    · rw [if_neg q]
      refine ⟨h1, ?_, fun s hs ho => ?_⟩
      · rcases h2 with z | z
        · exact Or.inl z
        · exact Or.inr ⟨by omega, z.2⟩
      · rcases Nat.lt_succ_iff_lt_or_eq.mp hs with z | z
        · exact h3 s z ho
        · subst z
          have hn : ¬ pcn s < pcn (cbs R ok s) := fun w => q ⟨ho, w⟩
          rcases h2 with z | z
          · rw [z] at hn ⊢
            by_cases e : s = R
            · exact Or.inr ⟨by rw [e], by omega⟩
            · exact absurd (hl s ho e) hn
          · unfold lss
            omega
theorem pcn_sub : ∀ a, a < 128 → ∀ b, b < 128 → adn a b = 0 → a ≠ b → pcn a < pcn b := by decide +kernel
