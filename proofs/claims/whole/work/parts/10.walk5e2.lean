theorem sg_X5_seed : kSig yX5_seed wsX5_seed cX5_seed 5 (some .long) RX5 1 := ⟨⟨_, rfl⟩, rfl, by decide, by decide +kernel, by decide +kernel, by decide +kernel⟩
abbrev rm_X5_seed : Room := { frames := 0, cells := 0, slots := 0, locals := 0 }
set_option maxRecDepth 20000 in
theorem in_X5_seed_X5 : ∀ w ∈ u_ws RX5 TX5 9, w ∈ wsX5_seed := by decide +kernel
set_option maxHeartbeats 4000000 in
set_option maxRecDepth 100000 in
theorem c_X5_seed (l : Launch) (dC : Nat → ClassId) (dI : Nat → Nat → Nat) (cI cZ : ClassId) (a_o a_o_text a_o_now a_o_trial a_o_firstSlot a_o_secondSlot a_o_acts a_o_seen : Nat) (v_o_keptSlots : Int32) (v_o_seedNow : Int64) (x1 : Int64) (u : Int64 × Int64) (hf : f_X5_seed v_o_seedNow x1 = some u) : kMl l yX5_seed wsX5_seed rm_X5_seed (dC, dI) (kTy cI cZ) [.ref a_o, .long x1] [(a_o, .inr (5, [.ref a_o_text, .ref a_o_now, .ref a_o_trial, .ref a_o_firstSlot, .ref a_o_secondSlot, .int v_o_keptSlots, .ref a_o_acts, .ref a_o_seen, .long v_o_seedNow]))] [(a_o, .inr (5, [.ref a_o_text, .ref a_o_now, .ref a_o_trial, .ref a_o_firstSlot, .ref a_o_secondSlot, .int v_o_keptSlots, .ref a_o_acts, .ref a_o_seen, .long u.2]))] u.1 := by
  refine kMl_of sg_X5_seed ⟨rfl, rfl⟩ (Nat.le_of_ble_eq_true rfl) ?_
  intro p e s m args below meth c A H0 Q hx hb hml hown hts hK hN hA hend H locs ls hP hD hS hl
  have hl : lv_has ls 5 [(0, .ref a_o), (1, .long x1)] := hl
  have hk210 := hts (.fieldLink RX5 210 "YoungestHouse" "seedNow" "J") (by decide +kernel)
  unfold f_X5_seed at hf
  refine lv_aload_n hx hb dX5_seed_0 rfl (lv_at hl 0 rfl) ?_
  refine va_get (D := (dC, dI)) (ci := 5) (v := .long v_o_seedNow) (C := RX5) (T := TX5) (N := 9) hx hb hts in_X5_seed_X5 hown hK hP 0 rfl rfl 8 (by decide) hk210 (fun _ h9 => h9) rfl dX5_seed_1 ?_
  refine lv_lstore_n (lv' := [(3, .long v_o_seedNow), (0, .ref a_o), (1, .long x1)]) hx hb dX5_seed_4 rfl hl (by decide) rfl (fun ls hl => ?_)
  refine lv_aload_n hx hb dX5_seed_5 rfl (lv_at hl 1 rfl) ?_
  refine lv_lload_n hx hb dX5_seed_6 rfl (lv_at hl 2 rfl) ?_
  refine va_put (D := (dC, dI)) (ci := 5) (v := .long x1) (ty := .long) (C := RX5) (T := TX5) (N := 9) hx hb hts in_X5_seed_X5 tyX5 tyX5_ok nmX5 hown hK hP hD hS 0 rfl rfl 8 (by decide) hk210 (fun _ h9 => h9) rfl (by decide +kernel) rfl rfl (Nat.le_of_ble_eq_true rfl) dX5_seed_7 (fun H locs hP hD hS => ?_)
  have hP : va_P (dC, dI) vwCl [(a_o, .inr (5, [.ref a_o_text, .ref a_o_now, .ref a_o_trial, .ref a_o_firstSlot, .ref a_o_secondSlot, .int v_o_keptSlots, .ref a_o_acts, .ref a_o_seen, .long x1]))] H := hP
  have hD : va_D A [(a_o, .inr (5, [.ref a_o_text, .ref a_o_now, .ref a_o_trial, .ref a_o_firstSlot, .ref a_o_secondSlot, .int v_o_keptSlots, .ref a_o_acts, .ref a_o_seen, .long x1]))] := hD
  refine lv_lload_n hx hb dX5_seed_10 rfl (lv_at hl 0 rfl) ?_
  cases hf
  exact hend _ _ _ _ dX5_seed_11 hP hS
