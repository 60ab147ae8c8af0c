theorem sg_X5_wipe : kSig yX5_wipe wsX5_wipe cX5_wipe 2 (some .int) RX5 0 := ⟨⟨_, rfl⟩, rfl, by decide, by decide +kernel, by decide +kernel, by decide +kernel⟩
abbrev rm_X5_wipe : Room := { frames := 0, cells := 0, slots := 0, locals := 0 }
set_option maxRecDepth 20000 in
theorem in_X5_wipe_X3 : ∀ w ∈ u_ws RX3 TX3 2, w ∈ wsX5_wipe := by decide +kernel
set_option maxRecDepth 20000 in
theorem in_X5_wipe_X5 : ∀ w ∈ u_ws RX5 TX5 9, w ∈ wsX5_wipe := by decide +kernel
set_option maxHeartbeats 4000000 in
set_option maxRecDepth 100000 in
theorem c_X5_wipe (l : Launch) (dC : Nat → ClassId) (dI : Nat → Nat → Nat) (cI cZ : ClassId) (a_o a_o_text a_o_now a_o_trial a_o_firstSlot a_o_secondSlot a_o_acts a_o_seen a_o_text_bytes : Nat) (v_o_keptSlots : Int32) (v_o_seedNow : Int64) (v_o_text_length : Int32)  (u : Int32 × Int32) (hf : f_X5_wipe v_o_text_length = some u) : kMi l yX5_wipe wsX5_wipe rm_X5_wipe (dC, dI) (kTy cI cZ) [.ref a_o] [(a_o, .inr (5, [.ref a_o_text, .ref a_o_now, .ref a_o_trial, .ref a_o_firstSlot, .ref a_o_secondSlot, .int v_o_keptSlots, .ref a_o_acts, .ref a_o_seen, .long v_o_seedNow])), (a_o_text, .inr (3, [.ref a_o_text_bytes, .int v_o_text_length]))] [(a_o, .inr (5, [.ref a_o_text, .ref a_o_now, .ref a_o_trial, .ref a_o_firstSlot, .ref a_o_secondSlot, .int v_o_keptSlots, .ref a_o_acts, .ref a_o_seen, .long v_o_seedNow])), (a_o_text, .inr (3, [.ref a_o_text_bytes, .int u.2]))] u.1 := by
  refine kMi_of sg_X5_wipe ⟨rfl, rfl⟩ (Nat.le_of_ble_eq_true rfl) ?_
  intro p e s m args below meth c A H0 Q hx hb hml hown hts hK hN hA hend H locs ls hP hD hS hl
  have hl : lv_has ls 2 [(0, .ref a_o)] := hl
  have hk10 := hts (.fieldLink RX5 10 "YoungestHouse" "text" "LYoungestHouse$Text;") (by decide +kernel)
  have hk46 := va_Nw.use (A := args) rfl (hN (.fieldLinkNest RX5 46 RX3 "length" "I" RX5) (by decide +kernel))
  unfold f_X5_wipe at hf
  refine lv_aload_n hx hb dX5_wipe_0 rfl (lv_at hl 0 rfl) ?_
  refine va_get (D := (dC, dI)) (ci := 5) (v := .ref a_o_text) (C := RX5) (T := TX5) (N := 9) hx hb hts in_X5_wipe_X5 hown hK hP 0 rfl rfl 0 (by decide) hk10 (fun _ h9 => h9) rfl dX5_wipe_1 ?_
  refine va_getN (D := (dC, dI)) (ci := 3) (v := .int v_o_text_length) (C := RX3) (T := TX3) (N := 2) hx hb hts in_X5_wipe_X3 hown hK hP 1 rfl rfl 1 (by decide) hk46 (fun _ h9 => h9) rfl dX5_wipe_4 ?_
  refine lv_istore_n (lv' := [(1, .int v_o_text_length), (0, .ref a_o)]) hx hb dX5_wipe_7 rfl hl (by decide) rfl (fun ls hl => ?_)
  refine lv_aload_n hx hb dX5_wipe_8 rfl (lv_at hl 1 rfl) ?_
  refine va_get (D := (dC, dI)) (ci := 5) (v := .ref a_o_text) (C := RX5) (T := TX5) (N := 9) hx hb hts in_X5_wipe_X5 hown hK hP 0 rfl rfl 0 (by decide) hk10 (fun _ h9 => h9) rfl dX5_wipe_9 ?_
  refine lv_iconst (v := (0 : Int32)) hx hb dX5_wipe_12 (by decide) ?_
  refine va_putN (D := (dC, dI)) (ci := 3) (v := .int (0 : Int32)) (ty := .int) (C := RX3) (T := TX3) (N := 2) hx hb hts in_X5_wipe_X3 tyX3 tyX3_ok nmX3 hown hK hP hD hS 1 rfl rfl 1 (by decide) hk46 (fun _ h9 => h9) rfl (by decide +kernel) rfl rfl (Nat.le_of_ble_eq_true rfl) dX5_wipe_13 (fun H locs hP hD hS => ?_)
  have hP : va_P (dC, dI) vwCl [(a_o, .inr (5, [.ref a_o_text, .ref a_o_now, .ref a_o_trial, .ref a_o_firstSlot, .ref a_o_secondSlot, .int v_o_keptSlots, .ref a_o_acts, .ref a_o_seen, .long v_o_seedNow])), (a_o_text, .inr (3, [.ref a_o_text_bytes, .int (0 : Int32)]))] H := hP
  have hD : va_D A [(a_o, .inr (5, [.ref a_o_text, .ref a_o_now, .ref a_o_trial, .ref a_o_firstSlot, .ref a_o_secondSlot, .int v_o_keptSlots, .ref a_o_acts, .ref a_o_seen, .long v_o_seedNow])), (a_o_text, .inr (3, [.ref a_o_text_bytes, .int (0 : Int32)]))] := hD
  refine lv_iload_n hx hb dX5_wipe_16 rfl (lv_at hl 0 rfl) ?_
  cases hf
  exact hend _ _ _ _ dX5_wipe_17 rfl hP hS
