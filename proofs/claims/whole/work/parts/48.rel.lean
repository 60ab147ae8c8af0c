/-! MATH 28: the whole relation; steps through the law's body -/
theorem ite_i {α : Type} {c : Prop} [Decidable c] {x y r : α} (h1 : c → x = r) (h2 : ¬ c → y = r) : (if c then x else y) = r := by
  by_cases h : c
  · rw [if_pos h]; exact h1 h
  · rw [if_neg h]; exact h2 h
theorem if_i {α : Type} {c : Prop} [Decidable c] {x y r : α} (h : c) (h1 : x = r) : (if c then x else y) = r := by rw [if_pos h]; exact h1
theorem el_i {α : Type} {c : Prop} [Decidable c] {x y r : α} (h : ¬ c) (h1 : y = r) : (if c then x else y) = r := by rw [if_neg h]; exact h1
theorem kg_i {ρ : Type} {b : Bool} {k r : Option ρ} (h : b = true) (h1 : k = r) : kg b k = r := by rw [kg_yes h]; exact h1
theorem kb_i {α ρ : Type} {o : Option α} {k : α → Option ρ} {x : α} {r : Option ρ} (h : o = some x) (h1 : k x = r) : kb1 o k = r := by rw [h]; exact h1
theorem cmd_gets2 {hs T na : Nat} {wo : Nat → Nat} {ho ch li si ih ye : Int32} {wr bi hm ki we wt wh bf P bk mw : Nat → Int32} (hS : ST hs T wo na ho ch li si ih ye wr bi hm ki we wt wh bf P bk) (hwo : WO hs wo) (hmw : WM hs wo mw) (th x : Int32) :
    ∃ r th', f_X5_gets ch li si ih wr bi hm ki we x = some r ∧ f_X6_gets (nI hs) mw P th x = some (r, th') := by
  obtain ⟨A, hV, hTR, hP, hA⟩ := hS
  obtain ⟨-, rfl, rfl, rfl, rfl, -, q7, q8, q9⟩ := hTR
  obtain ⟨r, h1, h2⟩ := cmd_gets hV hwo q8 q9 q7 hP hmw th x
  exact ⟨r, _, h1, h2⟩
theorem cmd_undo2 {hs T na : Nat} {wo : Nat → Nat} {ho ch li si ih ye : Int32} {wr bi hm ki we wt wh bf P bk : Nat → Int32} (hS : ST hs T wo na ho ch li si ih ye wr bi hm ki we wt wh bf P bk) (th : Int32) :
    ∃ r na' ch' li' si' ih' ye' hm' we' th' P', f_X5_undo wr wt wh bf ch li si ih ye hm we (nI na) = some (r, ch', li', si', ih', ye', hm', we', nI na') ∧ f_X6_undo bk th (nI na) P = some (r, th', nI na', P') ∧ ST hs T wo na' ho ch' li' si' ih' ye' wr bi hm' ki we' wt wh bf P' bk := by
  obtain ⟨A, hV, hTR, hP, hA⟩ := hS
  obtain ⟨r, na', A', ch', li', si', ih', ye', hm', we', th', P', h1, h2, h3, h4, h5, h6⟩ := cmd_undo hA hV hP hTR th
  exact ⟨r, na', ch', li', si', ih', ye', hm', we', th', P', h1, h2, A', h4, h6, h5, h3⟩
theorem cmd_seed (sd v : Int64) (th : Int32) : ∃ th', f_X5_seed sd v = some (sd, v) ∧ f_X6_seed th sd v = some (sd, th', v) ∧ lg_cmp sd sd = 0 := by
  refine ⟨_, rfl, rfl, ?_⟩
  have h : ¬ sd > sd := Int64.lt_irrefl
  unfold lg_cmp
  rw [if_neg h, if_pos rfl]
