theorem sg_X5_write : kSig yX5_write wsX5_write cX5_write 2 (some .int) RX5 1 := ⟨⟨_, rfl⟩, rfl, by decide, by decide +kernel, by decide +kernel, by decide +kernel⟩
abbrev rm_X5_write : Room := { frames := 2, cells := 0, slots := 0, locals := 43 }
set_option maxRecDepth 20000 in
theorem in_X5_write_X3 : ∀ w ∈ u_ws RX3 TX3 2, w ∈ wsX5_write := by decide +kernel
set_option maxRecDepth 20000 in
theorem in_X5_write_X5 : ∀ w ∈ u_ws RX5 TX5 9, w ∈ wsX5_write := by decide +kernel
set_option maxHeartbeats 4000000 in
set_option maxRecDepth 100000 in
theorem c_X5_write (l : Launch) (dC : Nat → ClassId) (dI : Nat → Nat → Nat) (cI cZ : ClassId) (a_o a_o_text a_o_now a_o_trial a_o_firstSlot a_o_secondSlot a_o_acts a_o_seen a_o_text_bytes a_o_text_bytes_cells : Nat) (v_o_keptSlots : Int32) (v_o_seedNow : Int64) (v_o_text_length : Int32) (f_o_text_bytes_cells : Nat → Int32) (x1 : Int32) (u : Int32 × Int32 × (Nat → Int32)) (hf : f_X5_write v_o_text_length f_o_text_bytes_cells x1 = some u) : kMi l yX5_write wsX5_write rm_X5_write (dC, dI) (kTy cI cZ) [.ref a_o, .int x1] [(a_o, .inr (5, [.ref a_o_text, .ref a_o_now, .ref a_o_trial, .ref a_o_firstSlot, .ref a_o_secondSlot, .int v_o_keptSlots, .ref a_o_acts, .ref a_o_seen, .long v_o_seedNow])), (a_o_text, .inr (3, [.ref a_o_text_bytes, .int v_o_text_length])), (a_o_text_bytes, .inr (1, [.ref a_o_text_bytes_cells])), (a_o_text_bytes_cells, .inl (cI, 48, .inl f_o_text_bytes_cells))] [(a_o, .inr (5, [.ref a_o_text, .ref a_o_now, .ref a_o_trial, .ref a_o_firstSlot, .ref a_o_secondSlot, .int v_o_keptSlots, .ref a_o_acts, .ref a_o_seen, .long v_o_seedNow])), (a_o_text, .inr (3, [.ref a_o_text_bytes, .int u.2.1])), (a_o_text_bytes, .inr (1, [.ref a_o_text_bytes_cells])), (a_o_text_bytes_cells, .inl (cI, 48, .inl u.2.2))] u.1 := by
  refine kMi_of sg_X5_write ⟨rfl, rfl⟩ (Nat.le_of_ble_eq_true rfl) ?_
  intro p e s m args below meth c A H0 Q hx hb hml hown hts hK hN hA hend H locs ls hP hD hS hl
  have hl : lv_has ls 2 [(0, .ref a_o), (1, .int x1)] := hl
  have hk10 := hts (.fieldLink RX5 10 "YoungestHouse" "text" "LYoungestHouse$Text;") (by decide +kernel)
  have hk46 := va_Nw.use (A := args) rfl (hN (.fieldLinkNest RX5 46 RX3 "length" "I" RX5) (by decide +kernel))
  unfold f_X5_write at hf
  refine lv_iload_n hx hb dX5_write_0 rfl (lv_at hl 1 rfl) ?_
  refine lv_if_lt (tgt := 11) hx hb dX5_write_1 (by decide) (fun c1 => ?_) (fun c1 => ?_)
  · replace hf := kt c1 hf
    refine lv_bipush (v := (-2 : Int32)) hx hb dX5_write_11 (by decide) ?_
    cases hf
    exact hend _ _ _ _ dX5_write_13 rfl hP hS
  · replace hf := kf c1 hf
    refine lv_iload_n hx hb dX5_write_4 rfl (lv_at hl 1 rfl) ?_
    refine lv_sipush (v := (255 : Int32)) hx hb dX5_write_5 (by decide) ?_
    refine lv_icmp_le (tgt := 14) hx hb dX5_write_8 (by decide) (fun c2 => ?_) (fun c2 => ?_)
    · replace hf := kt c2 hf
      refine lv_aload_n hx hb dX5_write_14 rfl (lv_at hl 0 rfl) ?_
      refine va_get (D := (dC, dI)) (ci := 5) (v := .ref a_o_text) (C := RX5) (T := TX5) (N := 9) hx hb hts in_X5_write_X5 hown hK hP 0 rfl rfl 0 (by decide) hk10 (fun _ h9 => h9) rfl dX5_write_15 ?_
      refine va_getN (D := (dC, dI)) (ci := 3) (v := .int v_o_text_length) (C := RX3) (T := TX3) (N := 2) hx hb hts in_X5_write_X3 hown hK hP 1 rfl rfl 1 (by decide) hk46 (fun _ h9 => h9) rfl dX5_write_18 ?_
      refine lv_bipush (v := (48 : Int32)) hx hb dX5_write_21 (by decide) ?_
      refine lv_icmp_lt (tgt := 29) hx hb dX5_write_23 (by decide) (fun c3 => ?_) (fun c3 => ?_)
      · replace hf := kt c3 hf
        refine lv_aload_n hx hb dX5_write_29 rfl (lv_at hl 0 rfl) ?_
        refine va_get (D := (dC, dI)) (ci := 5) (v := .ref a_o_text) (C := RX5) (T := TX5) (N := 9) hx hb hts in_X5_write_X5 hown hK hP 0 rfl rfl 0 (by decide) hk10 (fun _ h9 => h9) rfl dX5_write_30 ?_
        refine lv_iload_n hx hb dX5_write_33 rfl (lv_at hl 1 rfl) ?_
        obtain ⟨u4, hu4, hf⟩ := kb1_e hf
        refine kc_i (wn := [(a_o, .inr (5, [.ref a_o_text, .ref a_o_now, .ref a_o_trial, .ref a_o_firstSlot, .ref a_o_secondSlot, .int v_o_keptSlots, .ref a_o_acts, .ref a_o_seen, .long v_o_seedNow])), (a_o_text, .inr (3, [.ref a_o_text_bytes, .int u4.2.1])), (a_o_text_bytes, .inr (1, [.ref a_o_text_bytes_cells])), (a_o_text_bytes_cells, .inl (cI, 48, .inl u4.2.2))]) (wr := [(a_o, .inr (5, [.ref a_o_text, .ref a_o_now, .ref a_o_trial, .ref a_o_firstSlot, .ref a_o_secondSlot, .int v_o_keptSlots, .ref a_o_acts, .ref a_o_seen, .long v_o_seedNow]))]) (kr_V (As := [.int x1]) (rest := []) ⟨hx, hb, hml, hown, hts⟩ hK hN hP hD hl.1 (c_X3_append l dC dI cI cZ a_o_text a_o_text_bytes a_o_text_bytes_cells v_o_text_length f_o_text_bytes_cells x1 u4 hu4 H.size) sg_X3_append ⟨rfl, rfl⟩ ⟨Nat.le_of_ble_eq_true rfl, Nat.le_of_ble_eq_true rfl⟩ gX5_write_X3_append 1 rfl rfl rfl [1, 2, 3] (by decide +kernel) rfl rfl rfl (Nat.le_of_ble_eq_true rfl) dX5_write_34 ⟨Nat.zero_le _, Nat.zero_le _⟩) hA hP hD hS [1, 2, 3] [0] 4 rfl rfl rfl rfl rfl (by decide +kernel) (by decide +kernel) rfl (fun H locs hP hD hS => ?_)
        cases hf
        exact hend _ _ _ _ dX5_write_37 rfl hP hS
      · replace hf := kf c3 hf
        refine lv_bipush (v := (-4 : Int32)) hx hb dX5_write_26 (by decide) ?_
        cases hf
        exact hend _ _ _ _ dX5_write_28 rfl hP hS
    · replace hf := kf c2 hf
      refine lv_bipush (v := (-2 : Int32)) hx hb dX5_write_11 (by decide) ?_
      cases hf
      exact hend _ _ _ _ dX5_write_13 rfl hP hS
