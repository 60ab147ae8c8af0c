theorem sg_X5_unsee : kSig yX5_unsee wsX5_unsee cX5_unsee 2 (some .int) RX5 0 := ⟨⟨_, rfl⟩, rfl, by decide, by decide +kernel, by decide +kernel, by decide +kernel⟩
abbrev rm_X5_unsee : Room := { frames := 0, cells := 0, slots := 0, locals := 0 }
set_option maxRecDepth 20000 in
theorem in_X5_unsee_X2 : ∀ w ∈ u_ws RX2 TX2 4, w ∈ wsX5_unsee := by decide +kernel
set_option maxRecDepth 20000 in
theorem in_X5_unsee_X5 : ∀ w ∈ u_ws RX5 TX5 9, w ∈ wsX5_unsee := by decide +kernel
set_option maxHeartbeats 4000000 in
set_option maxRecDepth 100000 in
theorem c_X5_unsee (l : Launch) (dC : Nat → ClassId) (dI : Nat → Nat → Nat) (cI cZ : ClassId) (a_o a_o_text a_o_now a_o_trial a_o_firstSlot a_o_secondSlot a_o_acts a_o_seen a_o_seen_house a_o_seen_child a_o_seen_lived : Nat) (v_o_keptSlots : Int32) (v_o_seedNow : Int64) (v_o_seen_count : Int32)  (u : Int32 × Int32) (hf : f_X5_unsee v_o_seen_count = some u) : kMi l yX5_unsee wsX5_unsee rm_X5_unsee (dC, dI) (kTy cI cZ) [.ref a_o] [(a_o, .inr (5, [.ref a_o_text, .ref a_o_now, .ref a_o_trial, .ref a_o_firstSlot, .ref a_o_secondSlot, .int v_o_keptSlots, .ref a_o_acts, .ref a_o_seen, .long v_o_seedNow])), (a_o_seen, .inr (2, [.ref a_o_seen_house, .ref a_o_seen_child, .ref a_o_seen_lived, .int v_o_seen_count]))] [(a_o, .inr (5, [.ref a_o_text, .ref a_o_now, .ref a_o_trial, .ref a_o_firstSlot, .ref a_o_secondSlot, .int v_o_keptSlots, .ref a_o_acts, .ref a_o_seen, .long v_o_seedNow])), (a_o_seen, .inr (2, [.ref a_o_seen_house, .ref a_o_seen_child, .ref a_o_seen_lived, .int u.2]))] u.1 := by
  refine kMi_of sg_X5_unsee ⟨rfl, rfl⟩ (Nat.le_of_ble_eq_true rfl) ?_
  intro p e s m args below meth c A H0 Q hx hb hml hown hts hK hN hA hend H locs ls hP hD hS hl
  have hl : lv_has ls 2 [(0, .ref a_o)] := hl
  have hk42 := hts (.fieldLink RX5 42 "YoungestHouse" "seen" "LYoungestHouse$Sightings;") (by decide +kernel)
  have hk86 := va_Nw.use (A := args) rfl (hN (.fieldLinkNest RX5 86 RX2 "count" "I" RX5) (by decide +kernel))
  unfold f_X5_unsee at hf
  refine lv_aload_n hx hb dX5_unsee_0 rfl (lv_at hl 0 rfl) ?_
  refine va_get (D := (dC, dI)) (ci := 5) (v := .ref a_o_seen) (C := RX5) (T := TX5) (N := 9) hx hb hts in_X5_unsee_X5 hown hK hP 0 rfl rfl 7 (by decide) hk42 (fun _ h9 => h9) rfl dX5_unsee_1 ?_
  refine va_getN (D := (dC, dI)) (ci := 2) (v := .int v_o_seen_count) (C := RX2) (T := TX2) (N := 4) hx hb hts in_X5_unsee_X2 hown hK hP 1 rfl rfl 3 (by decide) hk86 (fun _ h9 => h9) rfl dX5_unsee_4 ?_
  refine lv_istore_n (lv' := [(1, .int v_o_seen_count), (0, .ref a_o)]) hx hb dX5_unsee_7 rfl hl (by decide) rfl (fun ls hl => ?_)
  refine lv_aload_n hx hb dX5_unsee_8 rfl (lv_at hl 1 rfl) ?_
  refine va_get (D := (dC, dI)) (ci := 5) (v := .ref a_o_seen) (C := RX5) (T := TX5) (N := 9) hx hb hts in_X5_unsee_X5 hown hK hP 0 rfl rfl 7 (by decide) hk42 (fun _ h9 => h9) rfl dX5_unsee_9 ?_
  refine lv_iconst (v := (0 : Int32)) hx hb dX5_unsee_12 (by decide) ?_
  refine va_putN (D := (dC, dI)) (ci := 2) (v := .int (0 : Int32)) (ty := .int) (C := RX2) (T := TX2) (N := 4) hx hb hts in_X5_unsee_X2 tyX2 tyX2_ok nmX2 hown hK hP hD hS 1 rfl rfl 3 (by decide) hk86 (fun _ h9 => h9) rfl (by decide +kernel) rfl rfl (Nat.le_of_ble_eq_true rfl) dX5_unsee_13 (fun H locs hP hD hS => ?_)
  have hP : va_P (dC, dI) vwCl [(a_o, .inr (5, [.ref a_o_text, .ref a_o_now, .ref a_o_trial, .ref a_o_firstSlot, .ref a_o_secondSlot, .int v_o_keptSlots, .ref a_o_acts, .ref a_o_seen, .long v_o_seedNow])), (a_o_seen, .inr (2, [.ref a_o_seen_house, .ref a_o_seen_child, .ref a_o_seen_lived, .int (0 : Int32)]))] H := hP
  have hD : va_D A [(a_o, .inr (5, [.ref a_o_text, .ref a_o_now, .ref a_o_trial, .ref a_o_firstSlot, .ref a_o_secondSlot, .int v_o_keptSlots, .ref a_o_acts, .ref a_o_seen, .long v_o_seedNow])), (a_o_seen, .inr (2, [.ref a_o_seen_house, .ref a_o_seen_child, .ref a_o_seen_lived, .int (0 : Int32)]))] := hD
  refine lv_iload_n hx hb dX5_unsee_16 rfl (lv_at hl 0 rfl) ?_
  cases hf
  exact hend _ _ _ _ dX5_unsee_17 rfl hP hS
