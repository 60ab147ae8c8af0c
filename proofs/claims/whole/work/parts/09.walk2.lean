theorem sg_X0_add : kSig yX0_add wsX0_add cX0_add 4 none RX0 3 := ⟨⟨_, rfl⟩, rfl, by decide, by decide +kernel, by decide +kernel, by decide +kernel⟩
abbrev rm_X0_add : Room := { frames := 1, cells := 0, slots := 0, locals := 22 }
set_option maxRecDepth 20000 in
theorem in_X0_add_X0 : ∀ w ∈ u_ws RX0 TX0 4, w ∈ wsX0_add := by decide +kernel
set_option maxHeartbeats 4000000 in
set_option maxRecDepth 100000 in
theorem c_X0_add (l : Launch) (dC : Nat → ClassId) (dI : Nat → Nat → Nat) (cI cZ : ClassId) (a_o a_o_what a_o_which a_o_before a_o_what_cells a_o_which_cells a_o_before_cells : Nat) (v_o_count : Int32) (f_o_what_cells : Nat → Int32) (f_o_which_cells : Nat → Int32) (f_o_before_cells : Nat → Int32) (x1 : Int32) (x2 : Int32) (x3 : Int32) (u : Int32 × (Nat → Int32) × (Nat → Int32) × (Nat → Int32)) (hf : f_X0_add v_o_count f_o_what_cells f_o_which_cells f_o_before_cells x1 x2 x3 = some u) : kMv l yX0_add wsX0_add rm_X0_add (dC, dI) (kTy cI cZ) [.ref a_o, .int x1, .int x2, .int x3] [(a_o, .inr (0, [.ref a_o_what, .ref a_o_which, .ref a_o_before, .int v_o_count])), (a_o_what, .inr (1, [.ref a_o_what_cells])), (a_o_what_cells, .inl (cI, 14, .inl f_o_what_cells)), (a_o_which, .inr (1, [.ref a_o_which_cells])), (a_o_which_cells, .inl (cI, 14, .inl f_o_which_cells)), (a_o_before, .inr (1, [.ref a_o_before_cells])), (a_o_before_cells, .inl (cI, 14, .inl f_o_before_cells))] [(a_o, .inr (0, [.ref a_o_what, .ref a_o_which, .ref a_o_before, .int u.1])), (a_o_what, .inr (1, [.ref a_o_what_cells])), (a_o_what_cells, .inl (cI, 14, .inl u.2.1)), (a_o_which, .inr (1, [.ref a_o_which_cells])), (a_o_which_cells, .inl (cI, 14, .inl u.2.2.1)), (a_o_before, .inr (1, [.ref a_o_before_cells])), (a_o_before_cells, .inl (cI, 14, .inl u.2.2.2))]  := by
  refine kMv_of sg_X0_add ⟨rfl, rfl⟩ (Nat.le_of_ble_eq_true rfl) ?_
  intro p e s m args below meth c A H0 Q hx hb hml hown hts hK hN hA hend H locs ls hP hD hS hl
  have hl : lv_has ls 4 [(0, .ref a_o), (1, .int x1), (2, .int x2), (3, .int x3)] := hl
  have hk14 := hts (.fieldLink RX0 14 "YoungestHouse$Acts" "what" "LYoungestHouse$Row;") (by decide +kernel)
  have hk20 := hts (.fieldLink RX0 20 "YoungestHouse$Acts" "which" "LYoungestHouse$Row;") (by decide +kernel)
  have hk23 := hts (.fieldLink RX0 23 "YoungestHouse$Acts" "before" "LYoungestHouse$Row;") (by decide +kernel)
  have hk26 := hts (.fieldLink RX0 26 "YoungestHouse$Acts" "count" "I") (by decide +kernel)
  have J_40 : ∀ (v_o_count : Int32) (f_o_what_cells : Nat → Int32) (f_o_which_cells : Nat → Int32) (f_o_before_cells : Nat → Int32) (H : Heap) (locs : List Loc) (ls : Array Slot), va_P (dC, dI) vwCl [(a_o, .inr (0, [.ref a_o_what, .ref a_o_which, .ref a_o_before, .int v_o_count])), (a_o_what, .inr (1, [.ref a_o_what_cells])), (a_o_what_cells, .inl (cI, 14, .inl f_o_what_cells)), (a_o_which, .inr (1, [.ref a_o_which_cells])), (a_o_which_cells, .inl (cI, 14, .inl f_o_which_cells)), (a_o_before, .inr (1, [.ref a_o_before_cells])), (a_o_before_cells, .inl (cI, 14, .inl f_o_before_cells))] H → va_D A [(a_o, .inr (0, [.ref a_o_what, .ref a_o_which, .ref a_o_before, .int v_o_count])), (a_o_what, .inr (1, [.ref a_o_what_cells])), (a_o_what_cells, .inl (cI, 14, .inl f_o_what_cells)), (a_o_which, .inr (1, [.ref a_o_which_cells])), (a_o_which_cells, .inl (cI, 14, .inl f_o_which_cells)), (a_o_before, .inr (1, [.ref a_o_before_cells])), (a_o_before_cells, .inl (cI, 14, .inl f_o_before_cells))] → va_S A H0 H locs → lv_has ls 4 [(0, .ref a_o), (1, .int x1), (2, .int x2), (3, .int x3)] → f_X0_add_40 x1 x2 x3 v_o_count f_o_what_cells f_o_which_cells f_o_before_cells = some u → W p l e rm_X0_add s m args below meth c H locs 0 0 Q (F0 m 40 ls []) := by
    intro v_o_count f_o_what_cells f_o_which_cells f_o_before_cells H locs ls hP hD hS hl hf
    unfold f_X0_add_40 at hf
    refine lv_aload_n hx hb dX0_add_40 rfl (lv_at hl 0 rfl) ?_
    refine va_get (D := (dC, dI)) (ci := 0) (v := .ref a_o_what) (C := RX0) (T := TX0) (N := 4) hx hb hts in_X0_add_X0 hown hK hP 0 rfl rfl 0 (by decide) hk14 (fun _ h9 => h9) rfl dX0_add_41 ?_
    refine lv_aload_n hx hb dX0_add_44 rfl (lv_at hl 0 rfl) ?_
    refine va_get (D := (dC, dI)) (ci := 0) (v := .int v_o_count) (C := RX0) (T := TX0) (N := 4) hx hb hts in_X0_add_X0 hown hK hP 0 rfl rfl 3 (by decide) hk26 (fun _ h9 => h9) rfl dX0_add_45 ?_
    refine lv_iload_n hx hb dX0_add_48 rfl (lv_at hl 1 rfl) ?_
    obtain ⟨u1, hu1, hf⟩ := kb1_e hf
    refine kc_v (wn := [(a_o, .inr (0, [.ref a_o_what, .ref a_o_which, .ref a_o_before, .int v_o_count])), (a_o_what, .inr (1, [.ref a_o_what_cells])), (a_o_what_cells, .inl (cI, 14, .inl u1)), (a_o_which, .inr (1, [.ref a_o_which_cells])), (a_o_which_cells, .inl (cI, 14, .inl f_o_which_cells)), (a_o_before, .inr (1, [.ref a_o_before_cells])), (a_o_before_cells, .inl (cI, 14, .inl f_o_before_cells))]) (kr_V (As := [.int v_o_count, .int x1]) (rest := []) ⟨hx, hb, hml, hown, hts⟩ hK hN hP hD hl.1 (c_X1_set l dC dI cI cZ a_o_what a_o_what_cells 14 f_o_what_cells v_o_count x1 u1 hu1 H.size) sg_X1_set ⟨rfl, rfl⟩ ⟨Nat.le_of_ble_eq_true rfl, Nat.le_of_ble_eq_true rfl⟩ gX0_add_X1_set 1 rfl rfl rfl [1, 2] (by decide) rfl rfl rfl (Nat.le_of_ble_eq_true rfl) dX0_add_49 ⟨Nat.zero_le _, Nat.zero_le _⟩) hA hP hD hS [1, 2] rfl rfl rfl (fun H locs hP hD hS => ?_)
    refine lv_aload_n hx hb dX0_add_52 rfl (lv_at hl 0 rfl) ?_
    refine va_get (D := (dC, dI)) (ci := 0) (v := .ref a_o_which) (C := RX0) (T := TX0) (N := 4) hx hb hts in_X0_add_X0 hown hK hP 0 rfl rfl 1 (by decide) hk20 (fun _ h9 => h9) rfl dX0_add_53 ?_
    refine lv_aload_n hx hb dX0_add_56 rfl (lv_at hl 0 rfl) ?_
    refine va_get (D := (dC, dI)) (ci := 0) (v := .int v_o_count) (C := RX0) (T := TX0) (N := 4) hx hb hts in_X0_add_X0 hown hK hP 0 rfl rfl 3 (by decide) hk26 (fun _ h9 => h9) rfl dX0_add_57 ?_
    refine lv_iload_n hx hb dX0_add_60 rfl (lv_at hl 2 rfl) ?_
    obtain ⟨u2, hu2, hf⟩ := kb1_e hf
    refine kc_v (wn := [(a_o, .inr (0, [.ref a_o_what, .ref a_o_which, .ref a_o_before, .int v_o_count])), (a_o_what, .inr (1, [.ref a_o_what_cells])), (a_o_what_cells, .inl (cI, 14, .inl u1)), (a_o_which, .inr (1, [.ref a_o_which_cells])), (a_o_which_cells, .inl (cI, 14, .inl u2)), (a_o_before, .inr (1, [.ref a_o_before_cells])), (a_o_before_cells, .inl (cI, 14, .inl f_o_before_cells))]) (kr_V (As := [.int v_o_count, .int x2]) (rest := []) ⟨hx, hb, hml, hown, hts⟩ hK hN hP hD hl.1 (c_X1_set l dC dI cI cZ a_o_which a_o_which_cells 14 f_o_which_cells v_o_count x2 u2 hu2 H.size) sg_X1_set ⟨rfl, rfl⟩ ⟨Nat.le_of_ble_eq_true rfl, Nat.le_of_ble_eq_true rfl⟩ gX0_add_X1_set 3 rfl rfl rfl [3, 4] (by decide) rfl rfl rfl (Nat.le_of_ble_eq_true rfl) dX0_add_61 ⟨Nat.zero_le _, Nat.zero_le _⟩) hA hP hD hS [3, 4] rfl rfl rfl (fun H locs hP hD hS => ?_)
    refine lv_aload_n hx hb dX0_add_64 rfl (lv_at hl 0 rfl) ?_
    refine va_get (D := (dC, dI)) (ci := 0) (v := .ref a_o_before) (C := RX0) (T := TX0) (N := 4) hx hb hts in_X0_add_X0 hown hK hP 0 rfl rfl 2 (by decide) hk23 (fun _ h9 => h9) rfl dX0_add_65 ?_
    refine lv_aload_n hx hb dX0_add_68 rfl (lv_at hl 0 rfl) ?_
    refine va_get (D := (dC, dI)) (ci := 0) (v := .int v_o_count) (C := RX0) (T := TX0) (N := 4) hx hb hts in_X0_add_X0 hown hK hP 0 rfl rfl 3 (by decide) hk26 (fun _ h9 => h9) rfl dX0_add_69 ?_
    refine lv_iload_n hx hb dX0_add_72 rfl (lv_at hl 3 rfl) ?_
    obtain ⟨u3, hu3, hf⟩ := kb1_e hf
    refine kc_v (wn := [(a_o, .inr (0, [.ref a_o_what, .ref a_o_which, .ref a_o_before, .int v_o_count])), (a_o_what, .inr (1, [.ref a_o_what_cells])), (a_o_what_cells, .inl (cI, 14, .inl u1)), (a_o_which, .inr (1, [.ref a_o_which_cells])), (a_o_which_cells, .inl (cI, 14, .inl u2)), (a_o_before, .inr (1, [.ref a_o_before_cells])), (a_o_before_cells, .inl (cI, 14, .inl u3))]) (kr_V (As := [.int v_o_count, .int x3]) (rest := []) ⟨hx, hb, hml, hown, hts⟩ hK hN hP hD hl.1 (c_X1_set l dC dI cI cZ a_o_before a_o_before_cells 14 f_o_before_cells v_o_count x3 u3 hu3 H.size) sg_X1_set ⟨rfl, rfl⟩ ⟨Nat.le_of_ble_eq_true rfl, Nat.le_of_ble_eq_true rfl⟩ gX0_add_X1_set 5 rfl rfl rfl [5, 6] (by decide) rfl rfl rfl (Nat.le_of_ble_eq_true rfl) dX0_add_73 ⟨Nat.zero_le _, Nat.zero_le _⟩) hA hP hD hS [5, 6] rfl rfl rfl (fun H locs hP hD hS => ?_)
    refine lv_aload_n hx hb dX0_add_76 rfl (lv_at hl 0 rfl) ?_
    refine lv_dup hx hb dX0_add_77 rfl ?_
    refine va_get (D := (dC, dI)) (ci := 0) (v := .int v_o_count) (C := RX0) (T := TX0) (N := 4) hx hb hts in_X0_add_X0 hown hK hP 0 rfl rfl 3 (by decide) hk26 (fun _ h9 => h9) rfl dX0_add_78 ?_
    refine lv_iconst (v := (1 : Int32)) hx hb dX0_add_81 (by decide) ?_
    refine lv_iadd hx hb dX0_add_82 ?_
    refine va_put (D := (dC, dI)) (ci := 0) (v := .int (v_o_count + (1 : Int32))) (ty := .int) (C := RX0) (T := TX0) (N := 4) hx hb hts in_X0_add_X0 tyX0 tyX0_ok nmX0 hown hK hP hD hS 0 rfl rfl 3 (by decide) hk26 (fun _ h9 => h9) rfl (by decide +kernel) rfl rfl (Nat.le_of_ble_eq_true rfl) dX0_add_83 (fun H locs hP hD hS => ?_)
    have hP : va_P (dC, dI) vwCl [(a_o, .inr (0, [.ref a_o_what, .ref a_o_which, .ref a_o_before, .int (v_o_count + (1 : Int32))])), (a_o_what, .inr (1, [.ref a_o_what_cells])), (a_o_what_cells, .inl (cI, 14, .inl u1)), (a_o_which, .inr (1, [.ref a_o_which_cells])), (a_o_which_cells, .inl (cI, 14, .inl u2)), (a_o_before, .inr (1, [.ref a_o_before_cells])), (a_o_before_cells, .inl (cI, 14, .inl u3))] H := hP
    have hD : va_D A [(a_o, .inr (0, [.ref a_o_what, .ref a_o_which, .ref a_o_before, .int (v_o_count + (1 : Int32))])), (a_o_what, .inr (1, [.ref a_o_what_cells])), (a_o_what_cells, .inl (cI, 14, .inl u1)), (a_o_which, .inr (1, [.ref a_o_which_cells])), (a_o_which_cells, .inl (cI, 14, .inl u2)), (a_o_before, .inr (1, [.ref a_o_before_cells])), (a_o_before_cells, .inl (cI, 14, .inl u3))] := hD
    cases hf
    exact hend _ _ _ _ dX0_add_86 hP hS
  unfold f_X0_add at hf
  refine lv_aload_n hx hb dX0_add_0 rfl (lv_at hl 0 rfl) ?_
  refine va_get (D := (dC, dI)) (ci := 0) (v := .int v_o_count) (C := RX0) (T := TX0) (N := 4) hx hb hts in_X0_add_X0 hown hK hP 0 rfl rfl 3 (by decide) hk26 (fun _ h9 => h9) rfl dX0_add_1 ?_
  refine lv_bipush (v := (14 : Int32)) hx hb dX0_add_4 (by decide) ?_
  refine lv_icmp_lt (tgt := 40) hx hb dX0_add_6 (by decide) (fun c4 => ?_) (fun c4 => ?_)
  · replace hf := kt c4 hf
    exact J_40 v_o_count f_o_what_cells f_o_which_cells f_o_before_cells H locs ls hP hD hS (lv_sub hl [0, 1, 2, 3] rfl) hf
  · replace hf := kf c4 hf
    refine lv_aload_n hx hb dX0_add_9 rfl (lv_at hl 0 rfl) ?_
    refine va_get (D := (dC, dI)) (ci := 0) (v := .ref a_o_what) (C := RX0) (T := TX0) (N := 4) hx hb hts in_X0_add_X0 hown hK hP 0 rfl rfl 0 (by decide) hk14 (fun _ h9 => h9) rfl dX0_add_10 ?_
    obtain ⟨u5, hu5, hf⟩ := kb1_e hf
    refine kc_v (wn := [(a_o, .inr (0, [.ref a_o_what, .ref a_o_which, .ref a_o_before, .int v_o_count])), (a_o_what, .inr (1, [.ref a_o_what_cells])), (a_o_what_cells, .inl (cI, 14, .inl u5)), (a_o_which, .inr (1, [.ref a_o_which_cells])), (a_o_which_cells, .inl (cI, 14, .inl f_o_which_cells)), (a_o_before, .inr (1, [.ref a_o_before_cells])), (a_o_before_cells, .inl (cI, 14, .inl f_o_before_cells))]) (kr_V (As := []) (rest := []) ⟨hx, hb, hml, hown, hts⟩ hK hN hP hD hl.1 (c_X1_dropFirst l dC dI cI cZ a_o_what a_o_what_cells 14 f_o_what_cells u5 hu5 H.size) sg_X1_dropFirst ⟨rfl, rfl⟩ ⟨Nat.le_of_ble_eq_true rfl, Nat.le_of_ble_eq_true rfl⟩ gX0_add_X1_dropFirst 1 rfl rfl rfl [1, 2] (by decide) rfl rfl rfl (Nat.le_of_ble_eq_true rfl) dX0_add_13 ⟨Nat.zero_le _, Nat.zero_le _⟩) hA hP hD hS [1, 2] rfl rfl rfl (fun H locs hP hD hS => ?_)
    refine lv_aload_n hx hb dX0_add_16 rfl (lv_at hl 0 rfl) ?_
    refine va_get (D := (dC, dI)) (ci := 0) (v := .ref a_o_which) (C := RX0) (T := TX0) (N := 4) hx hb hts in_X0_add_X0 hown hK hP 0 rfl rfl 1 (by decide) hk20 (fun _ h9 => h9) rfl dX0_add_17 ?_
    obtain ⟨u6, hu6, hf⟩ := kb1_e hf
    refine kc_v (wn := [(a_o, .inr (0, [.ref a_o_what, .ref a_o_which, .ref a_o_before, .int v_o_count])), (a_o_what, .inr (1, [.ref a_o_what_cells])), (a_o_what_cells, .inl (cI, 14, .inl u5)), (a_o_which, .inr (1, [.ref a_o_which_cells])), (a_o_which_cells, .inl (cI, 14, .inl u6)), (a_o_before, .inr (1, [.ref a_o_before_cells])), (a_o_before_cells, .inl (cI, 14, .inl f_o_before_cells))]) (kr_V (As := []) (rest := []) ⟨hx, hb, hml, hown, hts⟩ hK hN hP hD hl.1 (c_X1_dropFirst l dC dI cI cZ a_o_which a_o_which_cells 14 f_o_which_cells u6 hu6 H.size) sg_X1_dropFirst ⟨rfl, rfl⟩ ⟨Nat.le_of_ble_eq_true rfl, Nat.le_of_ble_eq_true rfl⟩ gX0_add_X1_dropFirst 3 rfl rfl rfl [3, 4] (by decide) rfl rfl rfl (Nat.le_of_ble_eq_true rfl) dX0_add_20 ⟨Nat.zero_le _, Nat.zero_le _⟩) hA hP hD hS [3, 4] rfl rfl rfl (fun H locs hP hD hS => ?_)
    refine lv_aload_n hx hb dX0_add_23 rfl (lv_at hl 0 rfl) ?_
    refine va_get (D := (dC, dI)) (ci := 0) (v := .ref a_o_before) (C := RX0) (T := TX0) (N := 4) hx hb hts in_X0_add_X0 hown hK hP 0 rfl rfl 2 (by decide) hk23 (fun _ h9 => h9) rfl dX0_add_24 ?_
    obtain ⟨u7, hu7, hf⟩ := kb1_e hf
    refine kc_v (wn := [(a_o, .inr (0, [.ref a_o_what, .ref a_o_which, .ref a_o_before, .int v_o_count])), (a_o_what, .inr (1, [.ref a_o_what_cells])), (a_o_what_cells, .inl (cI, 14, .inl u5)), (a_o_which, .inr (1, [.ref a_o_which_cells])), (a_o_which_cells, .inl (cI, 14, .inl u6)), (a_o_before, .inr (1, [.ref a_o_before_cells])), (a_o_before_cells, .inl (cI, 14, .inl u7))]) (kr_V (As := []) (rest := []) ⟨hx, hb, hml, hown, hts⟩ hK hN hP hD hl.1 (c_X1_dropFirst l dC dI cI cZ a_o_before a_o_before_cells 14 f_o_before_cells u7 hu7 H.size) sg_X1_dropFirst ⟨rfl, rfl⟩ ⟨Nat.le_of_ble_eq_true rfl, Nat.le_of_ble_eq_true rfl⟩ gX0_add_X1_dropFirst 5 rfl rfl rfl [5, 6] (by decide) rfl rfl rfl (Nat.le_of_ble_eq_true rfl) dX0_add_27 ⟨Nat.zero_le _, Nat.zero_le _⟩) hA hP hD hS [5, 6] rfl rfl rfl (fun H locs hP hD hS => ?_)
    refine lv_aload_n hx hb dX0_add_30 rfl (lv_at hl 0 rfl) ?_
    refine lv_dup hx hb dX0_add_31 rfl ?_
    refine va_get (D := (dC, dI)) (ci := 0) (v := .int v_o_count) (C := RX0) (T := TX0) (N := 4) hx hb hts in_X0_add_X0 hown hK hP 0 rfl rfl 3 (by decide) hk26 (fun _ h9 => h9) rfl dX0_add_32 ?_
    refine lv_iconst (v := (1 : Int32)) hx hb dX0_add_35 (by decide) ?_
    refine lv_isub hx hb dX0_add_36 ?_
    refine va_put (D := (dC, dI)) (ci := 0) (v := .int (v_o_count - (1 : Int32))) (ty := .int) (C := RX0) (T := TX0) (N := 4) hx hb hts in_X0_add_X0 tyX0 tyX0_ok nmX0 hown hK hP hD hS 0 rfl rfl 3 (by decide) hk26 (fun _ h9 => h9) rfl (by decide +kernel) rfl rfl (Nat.le_of_ble_eq_true rfl) dX0_add_37 (fun H locs hP hD hS => ?_)
    have hP : va_P (dC, dI) vwCl [(a_o, .inr (0, [.ref a_o_what, .ref a_o_which, .ref a_o_before, .int (v_o_count - (1 : Int32))])), (a_o_what, .inr (1, [.ref a_o_what_cells])), (a_o_what_cells, .inl (cI, 14, .inl u5)), (a_o_which, .inr (1, [.ref a_o_which_cells])), (a_o_which_cells, .inl (cI, 14, .inl u6)), (a_o_before, .inr (1, [.ref a_o_before_cells])), (a_o_before_cells, .inl (cI, 14, .inl u7))] H := hP
    have hD : va_D A [(a_o, .inr (0, [.ref a_o_what, .ref a_o_which, .ref a_o_before, .int (v_o_count - (1 : Int32))])), (a_o_what, .inr (1, [.ref a_o_what_cells])), (a_o_what_cells, .inl (cI, 14, .inl u5)), (a_o_which, .inr (1, [.ref a_o_which_cells])), (a_o_which_cells, .inl (cI, 14, .inl u6)), (a_o_before, .inr (1, [.ref a_o_before_cells])), (a_o_before_cells, .inl (cI, 14, .inl u7))] := hD
    exact J_40 (v_o_count - (1 : Int32)) u5 u6 u7 H locs ls hP hD hS (lv_sub hl [0, 1, 2, 3] rfl) hf
theorem sg_X4_dropLastChild : kSig yX4_dropLastChild wsX4_dropLastChild cX4_dropLastChild 1 none RX4 0 := ⟨⟨_, rfl⟩, rfl, by decide, by decide +kernel, by decide +kernel, by decide +kernel⟩
abbrev rm_X4_dropLastChild : Room := { frames := 1, cells := 0, slots := 0, locals := 20 }
set_option maxRecDepth 20000 in
theorem in_X4_dropLastChild_X4 : ∀ w ∈ u_ws RX4 TX4 11, w ∈ wsX4_dropLastChild := by decide +kernel
set_option maxHeartbeats 4000000 in
set_option maxRecDepth 100000 in
theorem c_X4_dropLastChild (l : Launch) (dC : Nat → ClassId) (dI : Nat → Nat → Nat) (cI cZ : ClassId) (a_o a_o_worth a_o_birth a_o_home a_o_kind a_o_wealth : Nat) (v_o_houses : Int32) (v_o_children : Int32) (v_o_living : Int32) (v_o_sideBits : Int32) (v_o_inherited : Int32) (v_o_theYear : Int32)  (u : Int32 × Int32) (hf : f_X4_dropLastChild v_o_children v_o_living = some u) : kMv l yX4_dropLastChild wsX4_dropLastChild rm_X4_dropLastChild (dC, dI) (kTy cI cZ) [.ref a_o] [(a_o, .inr (4, [.int v_o_houses, .int v_o_children, .int v_o_living, .int v_o_sideBits, .int v_o_inherited, .int v_o_theYear, .ref a_o_worth, .ref a_o_birth, .ref a_o_home, .ref a_o_kind, .ref a_o_wealth]))] [(a_o, .inr (4, [.int v_o_houses, .int u.1, .int u.2, .int v_o_sideBits, .int v_o_inherited, .int v_o_theYear, .ref a_o_worth, .ref a_o_birth, .ref a_o_home, .ref a_o_kind, .ref a_o_wealth]))]  := by
  refine kMv_of sg_X4_dropLastChild ⟨rfl, rfl⟩ (Nat.le_of_ble_eq_true rfl) ?_
  intro p e s m args below meth c A H0 Q hx hb hml hown hts hK hN hA hend H locs ls hP hD hS hl
  have hl : lv_has ls 1 [(0, .ref a_o)] := hl
  have hk36 := hts (.fieldLink RX4 36 "YoungestHouse$Town" "children" "I") (by decide +kernel)
  have hk39 := hts (.fieldLink RX4 39 "YoungestHouse$Town" "living" "I") (by decide +kernel)
  unfold f_X4_dropLastChild at hf
  refine lv_aload_n hx hb dX4_dropLastChild_0 rfl (lv_at hl 0 rfl) ?_
  refine lv_dup hx hb dX4_dropLastChild_1 rfl ?_
  refine va_get (D := (dC, dI)) (ci := 4) (v := .int v_o_children) (C := RX4) (T := TX4) (N := 11) hx hb hts in_X4_dropLastChild_X4 hown hK hP 0 rfl rfl 1 (by decide) hk36 (fun _ h9 => h9) rfl dX4_dropLastChild_2 ?_
  refine lv_iconst (v := (1 : Int32)) hx hb dX4_dropLastChild_5 (by decide) ?_
  refine lv_isub hx hb dX4_dropLastChild_6 ?_
  refine va_put (D := (dC, dI)) (ci := 4) (v := .int (v_o_children - (1 : Int32))) (ty := .int) (C := RX4) (T := TX4) (N := 11) hx hb hts in_X4_dropLastChild_X4 tyX4 tyX4_ok nmX4 hown hK hP hD hS 0 rfl rfl 1 (by decide) hk36 (fun _ h9 => h9) rfl (by decide +kernel) rfl rfl (Nat.le_of_ble_eq_true rfl) dX4_dropLastChild_7 (fun H locs hP hD hS => ?_)
  have hP : va_P (dC, dI) vwCl [(a_o, .inr (4, [.int v_o_houses, .int (v_o_children - (1 : Int32)), .int v_o_living, .int v_o_sideBits, .int v_o_inherited, .int v_o_theYear, .ref a_o_worth, .ref a_o_birth, .ref a_o_home, .ref a_o_kind, .ref a_o_wealth]))] H := hP
  have hD : va_D A [(a_o, .inr (4, [.int v_o_houses, .int (v_o_children - (1 : Int32)), .int v_o_living, .int v_o_sideBits, .int v_o_inherited, .int v_o_theYear, .ref a_o_worth, .ref a_o_birth, .ref a_o_home, .ref a_o_kind, .ref a_o_wealth]))] := hD
  refine lv_aload_n hx hb dX4_dropLastChild_10 rfl (lv_at hl 0 rfl) ?_
  refine lv_dup hx hb dX4_dropLastChild_11 rfl ?_
  refine va_get (D := (dC, dI)) (ci := 4) (v := .int v_o_living) (C := RX4) (T := TX4) (N := 11) hx hb hts in_X4_dropLastChild_X4 hown hK hP 0 rfl rfl 2 (by decide) hk39 (fun _ h9 => h9) rfl dX4_dropLastChild_12 ?_
  refine lv_aload_n hx hb dX4_dropLastChild_15 rfl (lv_at hl 0 rfl) ?_
  refine va_get (D := (dC, dI)) (ci := 4) (v := .int (v_o_children - (1 : Int32))) (C := RX4) (T := TX4) (N := 11) hx hb hts in_X4_dropLastChild_X4 hown hK hP 0 rfl rfl 1 (by decide) hk36 (fun _ h9 => h9) rfl dX4_dropLastChild_16 ?_
  obtain ⟨u1, hu1, hf⟩ := kb1_e hf
  refine kc_i (wn := [(a_o, .inr (4, [.int v_o_houses, .int (v_o_children - (1 : Int32)), .int v_o_living, .int v_o_sideBits, .int v_o_inherited, .int v_o_theYear, .ref a_o_worth, .ref a_o_birth, .ref a_o_home, .ref a_o_kind, .ref a_o_wealth]))]) (kr_N (host := RX5) (As := [.int (v_o_children - (1 : Int32))]) (rest := [.int v_o_living, .ref a_o]) ⟨hx, hb, hml, hown, hts⟩ hK hN hP hD hl.1 (c_X5_bit l dC dI cI cZ (v_o_children - (1 : Int32)) u1 hu1 H.size) sg_X5_bit ⟨rfl, rfl⟩ ⟨Nat.le_of_ble_eq_true rfl, Nat.le_of_ble_eq_true rfl⟩ gX4_dropLastChild_X5_bit_n67 (by decide +kernel) (by decide +kernel) (by decide +kernel) [] (by decide) rfl rfl rfl (Nat.le_of_ble_eq_true rfl) dX4_dropLastChild_19 ⟨Nat.zero_le _, Nat.zero_le _⟩) hA hP hD hS [] rfl rfl rfl (fun H locs hP hD hS => ?_)
  refine lv_iconst (v := (-1 : Int32)) hx hb dX4_dropLastChild_22 (by decide) ?_
  refine lv_ixor hx hb dX4_dropLastChild_23 ?_
  refine lv_iand hx hb dX4_dropLastChild_24 ?_
  refine va_put (D := (dC, dI)) (ci := 4) (v := .int (v_o_living &&& (u1 ^^^ (-1 : Int32)))) (ty := .int) (C := RX4) (T := TX4) (N := 11) hx hb hts in_X4_dropLastChild_X4 tyX4 tyX4_ok nmX4 hown hK hP hD hS 0 rfl rfl 2 (by decide) hk39 (fun _ h9 => h9) rfl (by decide +kernel) rfl rfl (Nat.le_of_ble_eq_true rfl) dX4_dropLastChild_25 (fun H locs hP hD hS => ?_)
  have hP : va_P (dC, dI) vwCl [(a_o, .inr (4, [.int v_o_houses, .int (v_o_children - (1 : Int32)), .int (v_o_living &&& (u1 ^^^ (-1 : Int32))), .int v_o_sideBits, .int v_o_inherited, .int v_o_theYear, .ref a_o_worth, .ref a_o_birth, .ref a_o_home, .ref a_o_kind, .ref a_o_wealth]))] H := hP
  have hD : va_D A [(a_o, .inr (4, [.int v_o_houses, .int (v_o_children - (1 : Int32)), .int (v_o_living &&& (u1 ^^^ (-1 : Int32))), .int v_o_sideBits, .int v_o_inherited, .int v_o_theYear, .ref a_o_worth, .ref a_o_birth, .ref a_o_home, .ref a_o_kind, .ref a_o_wealth]))] := hD
  cases hf
  exact hend _ _ _ _ dX4_dropLastChild_28 hP hS
theorem sg_X4_flipLife : kSig yX4_flipLife wsX4_flipLife cX4_flipLife 2 none RX4 1 := ⟨⟨_, rfl⟩, rfl, by decide, by decide +kernel, by decide +kernel, by decide +kernel⟩
abbrev rm_X4_flipLife : Room := { frames := 1, cells := 0, slots := 0, locals := 20 }
set_option maxRecDepth 20000 in
theorem in_X4_flipLife_X4 : ∀ w ∈ u_ws RX4 TX4 11, w ∈ wsX4_flipLife := by decide +kernel
set_option maxHeartbeats 4000000 in
set_option maxRecDepth 100000 in
theorem c_X4_flipLife (l : Launch) (dC : Nat → ClassId) (dI : Nat → Nat → Nat) (cI cZ : ClassId) (a_o a_o_worth a_o_birth a_o_home a_o_kind a_o_wealth : Nat) (v_o_houses : Int32) (v_o_children : Int32) (v_o_living : Int32) (v_o_sideBits : Int32) (v_o_inherited : Int32) (v_o_theYear : Int32) (x1 : Int32) (u : Int32) (hf : f_X4_flipLife v_o_living x1 = some u) : kMv l yX4_flipLife wsX4_flipLife rm_X4_flipLife (dC, dI) (kTy cI cZ) [.ref a_o, .int x1] [(a_o, .inr (4, [.int v_o_houses, .int v_o_children, .int v_o_living, .int v_o_sideBits, .int v_o_inherited, .int v_o_theYear, .ref a_o_worth, .ref a_o_birth, .ref a_o_home, .ref a_o_kind, .ref a_o_wealth]))] [(a_o, .inr (4, [.int v_o_houses, .int v_o_children, .int u, .int v_o_sideBits, .int v_o_inherited, .int v_o_theYear, .ref a_o_worth, .ref a_o_birth, .ref a_o_home, .ref a_o_kind, .ref a_o_wealth]))]  := by
  refine kMv_of sg_X4_flipLife ⟨rfl, rfl⟩ (Nat.le_of_ble_eq_true rfl) ?_
  intro p e s m args below meth c A H0 Q hx hb hml hown hts hK hN hA hend H locs ls hP hD hS hl
  have hl : lv_has ls 2 [(0, .ref a_o), (1, .int x1)] := hl
  have hk39 := hts (.fieldLink RX4 39 "YoungestHouse$Town" "living" "I") (by decide +kernel)
  unfold f_X4_flipLife at hf
  refine lv_aload_n hx hb dX4_flipLife_0 rfl (lv_at hl 0 rfl) ?_
  refine lv_dup hx hb dX4_flipLife_1 rfl ?_
  refine va_get (D := (dC, dI)) (ci := 4) (v := .int v_o_living) (C := RX4) (T := TX4) (N := 11) hx hb hts in_X4_flipLife_X4 hown hK hP 0 rfl rfl 2 (by decide) hk39 (fun _ h9 => h9) rfl dX4_flipLife_2 ?_
  refine lv_iload_n hx hb dX4_flipLife_5 rfl (lv_at hl 1 rfl) ?_
  obtain ⟨u1, hu1, hf⟩ := kb1_e hf
  refine kc_i (wn := [(a_o, .inr (4, [.int v_o_houses, .int v_o_children, .int v_o_living, .int v_o_sideBits, .int v_o_inherited, .int v_o_theYear, .ref a_o_worth, .ref a_o_birth, .ref a_o_home, .ref a_o_kind, .ref a_o_wealth]))]) (kr_N (host := RX5) (As := [.int x1]) (rest := [.int v_o_living, .ref a_o]) ⟨hx, hb, hml, hown, hts⟩ hK hN hP hD hl.1 (c_X5_bit l dC dI cI cZ x1 u1 hu1 H.size) sg_X5_bit ⟨rfl, rfl⟩ ⟨Nat.le_of_ble_eq_true rfl, Nat.le_of_ble_eq_true rfl⟩ gX4_flipLife_X5_bit_n67 (by decide +kernel) (by decide +kernel) (by decide +kernel) [] (by decide) rfl rfl rfl (Nat.le_of_ble_eq_true rfl) dX4_flipLife_6 ⟨Nat.zero_le _, Nat.zero_le _⟩) hA hP hD hS [] rfl rfl rfl (fun H locs hP hD hS => ?_)
  refine lv_ixor hx hb dX4_flipLife_9 ?_
  refine va_put (D := (dC, dI)) (ci := 4) (v := .int (v_o_living ^^^ u1)) (ty := .int) (C := RX4) (T := TX4) (N := 11) hx hb hts in_X4_flipLife_X4 tyX4 tyX4_ok nmX4 hown hK hP hD hS 0 rfl rfl 2 (by decide) hk39 (fun _ h9 => h9) rfl (by decide +kernel) rfl rfl (Nat.le_of_ble_eq_true rfl) dX4_flipLife_10 (fun H locs hP hD hS => ?_)
  have hP : va_P (dC, dI) vwCl [(a_o, .inr (4, [.int v_o_houses, .int v_o_children, .int (v_o_living ^^^ u1), .int v_o_sideBits, .int v_o_inherited, .int v_o_theYear, .ref a_o_worth, .ref a_o_birth, .ref a_o_home, .ref a_o_kind, .ref a_o_wealth]))] H := hP
  have hD : va_D A [(a_o, .inr (4, [.int v_o_houses, .int v_o_children, .int (v_o_living ^^^ u1), .int v_o_sideBits, .int v_o_inherited, .int v_o_theYear, .ref a_o_worth, .ref a_o_birth, .ref a_o_home, .ref a_o_kind, .ref a_o_wealth]))] := hD
  cases hf
  exact hend _ _ _ _ dX4_flipLife_13 hP hS
theorem sg_X4_flipSide : kSig yX4_flipSide wsX4_flipSide cX4_flipSide 2 none RX4 1 := ⟨⟨_, rfl⟩, rfl, by decide, by decide +kernel, by decide +kernel, by decide +kernel⟩
abbrev rm_X4_flipSide : Room := { frames := 1, cells := 0, slots := 0, locals := 20 }
set_option maxRecDepth 20000 in
theorem in_X4_flipSide_X4 : ∀ w ∈ u_ws RX4 TX4 11, w ∈ wsX4_flipSide := by decide +kernel
set_option maxHeartbeats 4000000 in
set_option maxRecDepth 100000 in
theorem c_X4_flipSide (l : Launch) (dC : Nat → ClassId) (dI : Nat → Nat → Nat) (cI cZ : ClassId) (a_o a_o_worth a_o_birth a_o_home a_o_kind a_o_wealth : Nat) (v_o_houses : Int32) (v_o_children : Int32) (v_o_living : Int32) (v_o_sideBits : Int32) (v_o_inherited : Int32) (v_o_theYear : Int32) (x1 : Int32) (u : Int32) (hf : f_X4_flipSide v_o_sideBits x1 = some u) : kMv l yX4_flipSide wsX4_flipSide rm_X4_flipSide (dC, dI) (kTy cI cZ) [.ref a_o, .int x1] [(a_o, .inr (4, [.int v_o_houses, .int v_o_children, .int v_o_living, .int v_o_sideBits, .int v_o_inherited, .int v_o_theYear, .ref a_o_worth, .ref a_o_birth, .ref a_o_home, .ref a_o_kind, .ref a_o_wealth]))] [(a_o, .inr (4, [.int v_o_houses, .int v_o_children, .int v_o_living, .int u, .int v_o_inherited, .int v_o_theYear, .ref a_o_worth, .ref a_o_birth, .ref a_o_home, .ref a_o_kind, .ref a_o_wealth]))]  := by
  refine kMv_of sg_X4_flipSide ⟨rfl, rfl⟩ (Nat.le_of_ble_eq_true rfl) ?_
  intro p e s m args below meth c A H0 Q hx hb hml hown hts hK hN hA hend H locs ls hP hD hS hl
  have hl : lv_has ls 2 [(0, .ref a_o), (1, .int x1)] := hl
  have hk42 := hts (.fieldLink RX4 42 "YoungestHouse$Town" "sideBits" "I") (by decide +kernel)
  unfold f_X4_flipSide at hf
  refine lv_aload_n hx hb dX4_flipSide_0 rfl (lv_at hl 0 rfl) ?_
  refine lv_dup hx hb dX4_flipSide_1 rfl ?_
  refine va_get (D := (dC, dI)) (ci := 4) (v := .int v_o_sideBits) (C := RX4) (T := TX4) (N := 11) hx hb hts in_X4_flipSide_X4 hown hK hP 0 rfl rfl 3 (by decide) hk42 (fun _ h9 => h9) rfl dX4_flipSide_2 ?_
  refine lv_iload_n hx hb dX4_flipSide_5 rfl (lv_at hl 1 rfl) ?_
  obtain ⟨u1, hu1, hf⟩ := kb1_e hf
  refine kc_i (wn := [(a_o, .inr (4, [.int v_o_houses, .int v_o_children, .int v_o_living, .int v_o_sideBits, .int v_o_inherited, .int v_o_theYear, .ref a_o_worth, .ref a_o_birth, .ref a_o_home, .ref a_o_kind, .ref a_o_wealth]))]) (kr_N (host := RX5) (As := [.int x1]) (rest := [.int v_o_sideBits, .ref a_o]) ⟨hx, hb, hml, hown, hts⟩ hK hN hP hD hl.1 (c_X5_bit l dC dI cI cZ x1 u1 hu1 H.size) sg_X5_bit ⟨rfl, rfl⟩ ⟨Nat.le_of_ble_eq_true rfl, Nat.le_of_ble_eq_true rfl⟩ gX4_flipSide_X5_bit_n67 (by decide +kernel) (by decide +kernel) (by decide +kernel) [] (by decide) rfl rfl rfl (Nat.le_of_ble_eq_true rfl) dX4_flipSide_6 ⟨Nat.zero_le _, Nat.zero_le _⟩) hA hP hD hS [] rfl rfl rfl (fun H locs hP hD hS => ?_)
  refine lv_ixor hx hb dX4_flipSide_9 ?_
  refine va_put (D := (dC, dI)) (ci := 4) (v := .int (v_o_sideBits ^^^ u1)) (ty := .int) (C := RX4) (T := TX4) (N := 11) hx hb hts in_X4_flipSide_X4 tyX4 tyX4_ok nmX4 hown hK hP hD hS 0 rfl rfl 3 (by decide) hk42 (fun _ h9 => h9) rfl (by decide +kernel) rfl rfl (Nat.le_of_ble_eq_true rfl) dX4_flipSide_10 (fun H locs hP hD hS => ?_)
  have hP : va_P (dC, dI) vwCl [(a_o, .inr (4, [.int v_o_houses, .int v_o_children, .int v_o_living, .int (v_o_sideBits ^^^ u1), .int v_o_inherited, .int v_o_theYear, .ref a_o_worth, .ref a_o_birth, .ref a_o_home, .ref a_o_kind, .ref a_o_wealth]))] H := hP
  have hD : va_D A [(a_o, .inr (4, [.int v_o_houses, .int v_o_children, .int v_o_living, .int (v_o_sideBits ^^^ u1), .int v_o_inherited, .int v_o_theYear, .ref a_o_worth, .ref a_o_birth, .ref a_o_home, .ref a_o_kind, .ref a_o_wealth]))] := hD
  cases hf
  exact hend _ _ _ _ dX4_flipSide_13 hP hS
theorem sg_X4_partOf : kSig yX4_partOf wsX4_partOf cX4_partOf 3 (some .int) RX4 2 := ⟨⟨_, rfl⟩, rfl, by decide, by decide +kernel, by decide +kernel, by decide +kernel⟩
abbrev rm_X4_partOf : Room := { frames := 1, cells := 0, slots := 0, locals := 21 }
set_option maxRecDepth 20000 in
theorem in_X4_partOf_X4 : ∀ w ∈ u_ws RX4 TX4 11, w ∈ wsX4_partOf := by decide +kernel
set_option maxHeartbeats 4000000 in
set_option maxRecDepth 100000 in
theorem c_X4_partOf (l : Launch) (dC : Nat → ClassId) (dI : Nat → Nat → Nat) (cI cZ : ClassId) (a_o a_o_worth a_o_birth a_o_home a_o_kind a_o_wealth a_o_worth_cells : Nat) (v_o_houses : Int32) (v_o_children : Int32) (v_o_living : Int32) (v_o_sideBits : Int32) (v_o_inherited : Int32) (v_o_theYear : Int32) (f_o_worth_cells : Nat → Int32) (x1 : Int32) (x2 : Int32) (u : Int32) (hf : f_X4_partOf f_o_worth_cells x1 x2 = some u) : kMi l yX4_partOf wsX4_partOf rm_X4_partOf (dC, dI) (kTy cI cZ) [.ref a_o, .int x1, .int x2] [(a_o, .inr (4, [.int v_o_houses, .int v_o_children, .int v_o_living, .int v_o_sideBits, .int v_o_inherited, .int v_o_theYear, .ref a_o_worth, .ref a_o_birth, .ref a_o_home, .ref a_o_kind, .ref a_o_wealth])), (a_o_worth, .inr (1, [.ref a_o_worth_cells])), (a_o_worth_cells, .inl (cI, 3, .inl f_o_worth_cells))] [(a_o, .inr (4, [.int v_o_houses, .int v_o_children, .int v_o_living, .int v_o_sideBits, .int v_o_inherited, .int v_o_theYear, .ref a_o_worth, .ref a_o_birth, .ref a_o_home, .ref a_o_kind, .ref a_o_wealth])), (a_o_worth, .inr (1, [.ref a_o_worth_cells])), (a_o_worth_cells, .inl (cI, 3, .inl f_o_worth_cells))] u := by
  refine kMi_of sg_X4_partOf ⟨rfl, rfl⟩ (Nat.le_of_ble_eq_true rfl) ?_
  intro p e s m args below meth c A H0 Q hx hb hml hown hts hK hN hA hend H locs ls hP hD hS hl
  have hl : lv_has ls 3 [(0, .ref a_o), (1, .int x1), (2, .int x2)] := hl
  have hk14 := hts (.fieldLink RX4 14 "YoungestHouse$Town" "worth" "LYoungestHouse$Row;") (by decide +kernel)
  unfold f_X4_partOf at hf
  refine lv_iload_n hx hb dX4_partOf_0 rfl (lv_at hl 2 rfl) ?_
  refine lv_if_ne (tgt := 8) hx hb dX4_partOf_1 (by decide) (fun c1 => ?_) (fun c1 => ?_)
  · replace hf := kf c1 hf
    refine lv_aload_n hx hb dX4_partOf_8 rfl (lv_at hl 0 rfl) ?_
    refine va_get (D := (dC, dI)) (ci := 4) (v := .ref a_o_worth) (C := RX4) (T := TX4) (N := 11) hx hb hts in_X4_partOf_X4 hown hK hP 0 rfl rfl 6 (by decide) hk14 (fun _ h9 => h9) rfl dX4_partOf_9 ?_
    refine lv_iload_n hx hb dX4_partOf_12 rfl (lv_at hl 1 rfl) ?_
    obtain ⟨u2, hu2, hf⟩ := kb1_e hf
    refine kc_i (wn := [(a_o, .inr (4, [.int v_o_houses, .int v_o_children, .int v_o_living, .int v_o_sideBits, .int v_o_inherited, .int v_o_theYear, .ref a_o_worth, .ref a_o_birth, .ref a_o_home, .ref a_o_kind, .ref a_o_wealth])), (a_o_worth, .inr (1, [.ref a_o_worth_cells])), (a_o_worth_cells, .inl (cI, 3, .inl f_o_worth_cells))]) (kr_V (As := [.int x1]) (rest := []) ⟨hx, hb, hml, hown, hts⟩ hK hN hP hD hl.1 (c_X1_get l dC dI cI cZ a_o_worth a_o_worth_cells 3 f_o_worth_cells x1 u2 hu2 H.size) sg_X1_get ⟨rfl, rfl⟩ ⟨Nat.le_of_ble_eq_true rfl, Nat.le_of_ble_eq_true rfl⟩ gX4_partOf_X1_get 1 rfl rfl rfl [1, 2] (by decide) rfl rfl rfl (Nat.le_of_ble_eq_true rfl) dX4_partOf_13 ⟨Nat.zero_le _, Nat.zero_le _⟩) hA hP hD hS [1, 2] rfl rfl rfl (fun H locs hP hD hS => ?_)
    refine lv_iload_n hx hb dX4_partOf_16 rfl (lv_at hl 2 rfl) ?_
    obtain ⟨u3, hu3, hf⟩ := kb1_e hf
    refine kc_i (wn := [(a_o, .inr (4, [.int v_o_houses, .int v_o_children, .int v_o_living, .int v_o_sideBits, .int v_o_inherited, .int v_o_theYear, .ref a_o_worth, .ref a_o_birth, .ref a_o_home, .ref a_o_kind, .ref a_o_wealth])), (a_o_worth, .inr (1, [.ref a_o_worth_cells])), (a_o_worth_cells, .inl (cI, 3, .inl f_o_worth_cells))]) (kr_T (As := [.int x2]) (rest := [.int u2]) ⟨hx, hb, hml, hown, hts⟩ hK hN hP hD hl.1 (c_J6_bitCount_0f7a4 l dC dI cI cZ x2 u3 hu3 H.size) sg_J6_bitCount_0f7a4 ⟨rfl, rfl⟩ ⟨Nat.le_of_ble_eq_true rfl, Nat.le_of_ble_eq_true rfl⟩ gX4_partOf_J6_bitCount_0f7a4 [] (by decide) rfl rfl rfl (Nat.le_of_ble_eq_true rfl) dX4_partOf_17 ⟨Nat.zero_le _, Nat.zero_le _⟩) hA hP hD hS [] rfl rfl rfl (fun H locs hP hD hS => ?_)
    obtain ⟨hg4, hf⟩ := kg_e hf
    refine lv_idiv hx hb dX4_partOf_20 (knz_e hg4) ?_
    cases hf
    exact hend _ _ _ _ dX4_partOf_21 rfl hP hS
  · replace hf := kt c1 hf
    refine lv_iconst (v := (0 : Int32)) hx hb dX4_partOf_4 (by decide) ?_
    refine lv_goto (tgt := 21) hx hb dX4_partOf_5 (by decide) ?_
    cases hf
    exact hend _ _ _ _ dX4_partOf_21 rfl hP hS
theorem sg_X4_enrich : kSig yX4_enrich wsX4_enrich cX4_enrich 4 none RX4 2 := ⟨⟨_, rfl⟩, rfl, by decide, by decide +kernel, by decide +kernel, by decide +kernel⟩
abbrev rm_X4_enrich : Room := { frames := 1, cells := 0, slots := 0, locals := 22 }
set_option maxRecDepth 20000 in
theorem in_X4_enrich_X4 : ∀ w ∈ u_ws RX4 TX4 11, w ∈ wsX4_enrich := by decide +kernel
set_option maxHeartbeats 4000000 in
set_option maxRecDepth 100000 in
theorem c_X4_enrich (l : Launch) (dC : Nat → ClassId) (dI : Nat → Nat → Nat) (cI cZ : ClassId) (a_o a_o_worth a_o_birth a_o_home a_o_kind a_o_wealth a_o_wealth_cells : Nat) (v_o_houses : Int32) (v_o_children : Int32) (v_o_living : Int32) (v_o_sideBits : Int32) (v_o_inherited : Int32) (v_o_theYear : Int32) (f_o_wealth_cells : Nat → Int32) (x1 : Int32) (x2 : Int32) (u : (Nat → Int32)) (hf : f_X4_enrich v_o_children f_o_wealth_cells x1 x2 = some u) : kMv l yX4_enrich wsX4_enrich rm_X4_enrich (dC, dI) (kTy cI cZ) [.ref a_o, .int x1, .int x2] [(a_o, .inr (4, [.int v_o_houses, .int v_o_children, .int v_o_living, .int v_o_sideBits, .int v_o_inherited, .int v_o_theYear, .ref a_o_worth, .ref a_o_birth, .ref a_o_home, .ref a_o_kind, .ref a_o_wealth])), (a_o_wealth, .inr (1, [.ref a_o_wealth_cells])), (a_o_wealth_cells, .inl (cI, 7, .inl f_o_wealth_cells))] [(a_o, .inr (4, [.int v_o_houses, .int v_o_children, .int v_o_living, .int v_o_sideBits, .int v_o_inherited, .int v_o_theYear, .ref a_o_worth, .ref a_o_birth, .ref a_o_home, .ref a_o_kind, .ref a_o_wealth])), (a_o_wealth, .inr (1, [.ref a_o_wealth_cells])), (a_o_wealth_cells, .inl (cI, 7, .inl u))]  := by
  refine kMv_of sg_X4_enrich ⟨rfl, rfl⟩ (Nat.le_of_ble_eq_true rfl) ?_
  intro p e s m args below meth c A H0 Q hx hb hml hown hts hK hN hA hend H locs ls hP hD hS hl
  have hl : lv_has ls 4 [(0, .ref a_o), (1, .int x1), (2, .int x2)] := hl
  have hk29 := hts (.fieldLink RX4 29 "YoungestHouse$Town" "wealth" "LYoungestHouse$Row;") (by decide +kernel)
  have hk36 := hts (.fieldLink RX4 36 "YoungestHouse$Town" "children" "I") (by decide +kernel)
  have J_2 : ∀ (n_2 : Nat), ∀ (f_o_wealth_cells : Nat → Int32) (x3 : Int32) (H : Heap) (locs : List Loc) (ls : Array Slot), va_P (dC, dI) vwCl [(a_o, .inr (4, [.int v_o_houses, .int v_o_children, .int v_o_living, .int v_o_sideBits, .int v_o_inherited, .int v_o_theYear, .ref a_o_worth, .ref a_o_birth, .ref a_o_home, .ref a_o_kind, .ref a_o_wealth])), (a_o_wealth, .inr (1, [.ref a_o_wealth_cells])), (a_o_wealth_cells, .inl (cI, 7, .inl f_o_wealth_cells))] H → va_D A [(a_o, .inr (4, [.int v_o_houses, .int v_o_children, .int v_o_living, .int v_o_sideBits, .int v_o_inherited, .int v_o_theYear, .ref a_o_worth, .ref a_o_birth, .ref a_o_home, .ref a_o_kind, .ref a_o_wealth])), (a_o_wealth, .inr (1, [.ref a_o_wealth_cells])), (a_o_wealth_cells, .inl (cI, 7, .inl f_o_wealth_cells))] → va_S A H0 H locs → lv_has ls 4 [(0, .ref a_o), (1, .int x1), (2, .int x2), (3, .int x3)] → f_X4_enrich_2 v_o_children x1 x2 n_2 f_o_wealth_cells x3 = some u → W p l e rm_X4_enrich s m args below meth c H locs 0 0 Q (F0 m 2 ls []) := by
    intro n_2
    induction n_2 with
    | zero => intro f_o_wealth_cells x3 H locs ls hP hD hS hl hf; exact nomatch hf
    | succ n_2 ih_2 =>
      intro f_o_wealth_cells x3 H locs ls hP hD hS hl hf
      have hf : f_X4_enrich_2_b v_o_children x1 x2 (f_X4_enrich_2 v_o_children x1 x2 n_2) f_o_wealth_cells x3 = some u := hf
      unfold f_X4_enrich_2_b at hf
      refine lv_iload_n hx hb dX4_enrich_2 rfl (lv_at hl 3 rfl) ?_
      refine lv_aload_n hx hb dX4_enrich_3 rfl (lv_at hl 0 rfl) ?_
      refine va_get (D := (dC, dI)) (ci := 4) (v := .int v_o_children) (C := RX4) (T := TX4) (N := 11) hx hb hts in_X4_enrich_X4 hown hK hP 0 rfl rfl 1 (by decide) hk36 (fun _ h9 => h9) rfl dX4_enrich_4 ?_
      refine lv_icmp_ge (tgt := 42) hx hb dX4_enrich_7 (by decide) (fun c1 => ?_) (fun c1 => ?_)
      · replace hf := kt c1 hf
        cases hf
        exact hend _ _ _ _ dX4_enrich_42 hP hS
      · replace hf := kf c1 hf
        refine lv_iload_n hx hb dX4_enrich_10 rfl (lv_at hl 1 rfl) ?_
        refine lv_iload_n hx hb dX4_enrich_11 rfl (lv_at hl 3 rfl) ?_
        obtain ⟨u2, hu2, hf⟩ := kb1_e hf
        refine kc_i (wn := [(a_o, .inr (4, [.int v_o_houses, .int v_o_children, .int v_o_living, .int v_o_sideBits, .int v_o_inherited, .int v_o_theYear, .ref a_o_worth, .ref a_o_birth, .ref a_o_home, .ref a_o_kind, .ref a_o_wealth])), (a_o_wealth, .inr (1, [.ref a_o_wealth_cells])), (a_o_wealth_cells, .inl (cI, 7, .inl f_o_wealth_cells))]) (kr_N (host := RX5) (As := [.int x1, .int x3]) (rest := []) ⟨hx, hb, hml, hown, hts⟩ hK hN hP hD hl.1 (c_X5_isIn l dC dI cI cZ x1 x3 u2 hu2 H.size) sg_X5_isIn ⟨rfl, rfl⟩ ⟨Nat.le_of_ble_eq_true rfl, Nat.le_of_ble_eq_true rfl⟩ gX4_enrich_X5_isIn_n59 (by decide +kernel) (by decide +kernel) (by decide +kernel) [] (by decide) rfl rfl rfl (Nat.le_of_ble_eq_true rfl) dX4_enrich_12 ⟨Nat.zero_le _, Nat.zero_le _⟩) hA hP hD hS [] rfl rfl rfl (fun H locs hP hD hS => ?_)
        refine lv_if_eq (tgt := 36) hx hb dX4_enrich_15 (by decide) (fun c3 => ?_) (fun c3 => ?_)
        · replace hf := kt c3 hf
          refine lv_iinc (v := (x3 + (1 : Int32))) (lv' := [(3, .int (x3 + (1 : Int32))), (0, .ref a_o), (1, .int x1), (2, .int x2)]) hx hb dX4_enrich_36 hl (k := 3) rfl rfl (by decide) rfl (fun ls hl => ?_)
          refine lv_goto (tgt := 2) hx hb dX4_enrich_39 (by decide) ?_
          exact ih_2 f_o_wealth_cells (x3 + (1 : Int32)) H locs ls hP hD hS (lv_sub hl [1, 2, 3, 0] rfl) hf
        · replace hf := kf c3 hf
          refine lv_aload_n hx hb dX4_enrich_18 rfl (lv_at hl 0 rfl) ?_
          refine va_get (D := (dC, dI)) (ci := 4) (v := .ref a_o_wealth) (C := RX4) (T := TX4) (N := 11) hx hb hts in_X4_enrich_X4 hown hK hP 0 rfl rfl 10 (by decide) hk29 (fun _ h9 => h9) rfl dX4_enrich_19 ?_
          refine lv_iload_n hx hb dX4_enrich_22 rfl (lv_at hl 3 rfl) ?_
          refine lv_aload_n hx hb dX4_enrich_23 rfl (lv_at hl 0 rfl) ?_
          refine va_get (D := (dC, dI)) (ci := 4) (v := .ref a_o_wealth) (C := RX4) (T := TX4) (N := 11) hx hb hts in_X4_enrich_X4 hown hK hP 0 rfl rfl 10 (by decide) hk29 (fun _ h9 => h9) rfl dX4_enrich_24 ?_
          refine lv_iload_n hx hb dX4_enrich_27 rfl (lv_at hl 3 rfl) ?_
          obtain ⟨u4, hu4, hf⟩ := kb1_e hf
          refine kc_i (wn := [(a_o, .inr (4, [.int v_o_houses, .int v_o_children, .int v_o_living, .int v_o_sideBits, .int v_o_inherited, .int v_o_theYear, .ref a_o_worth, .ref a_o_birth, .ref a_o_home, .ref a_o_kind, .ref a_o_wealth])), (a_o_wealth, .inr (1, [.ref a_o_wealth_cells])), (a_o_wealth_cells, .inl (cI, 7, .inl f_o_wealth_cells))]) (kr_V (As := [.int x3]) (rest := [.int x3, .ref a_o_wealth]) ⟨hx, hb, hml, hown, hts⟩ hK hN hP hD hl.1 (c_X1_get l dC dI cI cZ a_o_wealth a_o_wealth_cells 7 f_o_wealth_cells x3 u4 hu4 H.size) sg_X1_get ⟨rfl, rfl⟩ ⟨Nat.le_of_ble_eq_true rfl, Nat.le_of_ble_eq_true rfl⟩ gX4_enrich_X1_get 1 rfl rfl rfl [1, 2] (by decide) rfl rfl rfl (Nat.le_of_ble_eq_true rfl) dX4_enrich_28 ⟨Nat.zero_le _, Nat.zero_le _⟩) hA hP hD hS [1, 2] rfl rfl rfl (fun H locs hP hD hS => ?_)
          refine lv_iload_n hx hb dX4_enrich_31 rfl (lv_at hl 2 rfl) ?_
          refine lv_iadd hx hb dX4_enrich_32 ?_
          obtain ⟨u5, hu5, hf⟩ := kb1_e hf
          refine kc_v (wn := [(a_o, .inr (4, [.int v_o_houses, .int v_o_children, .int v_o_living, .int v_o_sideBits, .int v_o_inherited, .int v_o_theYear, .ref a_o_worth, .ref a_o_birth, .ref a_o_home, .ref a_o_kind, .ref a_o_wealth])), (a_o_wealth, .inr (1, [.ref a_o_wealth_cells])), (a_o_wealth_cells, .inl (cI, 7, .inl u5))]) (kr_V (As := [.int x3, .int (u4 + x2)]) (rest := []) ⟨hx, hb, hml, hown, hts⟩ hK hN hP hD hl.1 (c_X1_set l dC dI cI cZ a_o_wealth a_o_wealth_cells 7 f_o_wealth_cells x3 (u4 + x2) u5 hu5 H.size) sg_X1_set ⟨rfl, rfl⟩ ⟨Nat.le_of_ble_eq_true rfl, Nat.le_of_ble_eq_true rfl⟩ gX4_enrich_X1_set 1 rfl rfl rfl [1, 2] (by decide) rfl rfl rfl (Nat.le_of_ble_eq_true rfl) dX4_enrich_33 ⟨Nat.zero_le _, Nat.zero_le _⟩) hA hP hD hS [1, 2] rfl rfl rfl (fun H locs hP hD hS => ?_)
          refine lv_iinc (v := (x3 + (1 : Int32))) (lv' := [(3, .int (x3 + (1 : Int32))), (0, .ref a_o), (1, .int x1), (2, .int x2)]) hx hb dX4_enrich_36 hl (k := 3) rfl rfl (by decide) rfl (fun ls hl => ?_)
          refine lv_goto (tgt := 2) hx hb dX4_enrich_39 (by decide) ?_
          exact ih_2 u5 (x3 + (1 : Int32)) H locs ls hP hD hS (lv_sub hl [1, 2, 3, 0] rfl) hf
  unfold f_X4_enrich at hf
  refine lv_iconst (v := (0 : Int32)) hx hb dX4_enrich_0 (by decide) ?_
  refine lv_istore_n (lv' := [(3, .int (0 : Int32)), (0, .ref a_o), (1, .int x1), (2, .int x2)]) hx hb dX4_enrich_1 rfl hl (by decide) rfl (fun ls hl => ?_)
  exact J_2 1000 f_o_wealth_cells (0 : Int32) H locs ls hP hD hS (lv_sub hl [1, 2, 3, 0] rfl) hf
theorem sg_X4_takeBackFrom : kSig yX4_takeBackFrom wsX4_takeBackFrom cX4_takeBackFrom 3 none RX4 2 := ⟨⟨_, rfl⟩, rfl, by decide, by decide +kernel, by decide +kernel, by decide +kernel⟩
abbrev rm_X4_takeBackFrom : Room := { frames := 2, cells := 0, slots := 0, locals := 45 }
set_option maxRecDepth 20000 in
theorem in_X4_takeBackFrom_X4 : ∀ w ∈ u_ws RX4 TX4 11, w ∈ wsX4_takeBackFrom := by decide +kernel
set_option maxHeartbeats 4000000 in
set_option maxRecDepth 100000 in
theorem c_X4_takeBackFrom (l : Launch) (dC : Nat → ClassId) (dI : Nat → Nat → Nat) (cI cZ : ClassId) (a_o a_o_worth a_o_birth a_o_home a_o_kind a_o_wealth a_o_worth_cells a_o_wealth_cells : Nat) (v_o_houses : Int32) (v_o_children : Int32) (v_o_living : Int32) (v_o_sideBits : Int32) (v_o_inherited : Int32) (v_o_theYear : Int32) (f_o_worth_cells : Nat → Int32) (f_o_wealth_cells : Nat → Int32) (x1 : Int32) (x2 : Int32) (u : Int32 × (Nat → Int32)) (hf : f_X4_takeBackFrom v_o_children f_o_worth_cells v_o_inherited f_o_wealth_cells x1 x2 = some u) : kMv l yX4_takeBackFrom wsX4_takeBackFrom rm_X4_takeBackFrom (dC, dI) (kTy cI cZ) [.ref a_o, .int x1, .int x2] [(a_o, .inr (4, [.int v_o_houses, .int v_o_children, .int v_o_living, .int v_o_sideBits, .int v_o_inherited, .int v_o_theYear, .ref a_o_worth, .ref a_o_birth, .ref a_o_home, .ref a_o_kind, .ref a_o_wealth])), (a_o_worth, .inr (1, [.ref a_o_worth_cells])), (a_o_worth_cells, .inl (cI, 3, .inl f_o_worth_cells)), (a_o_wealth, .inr (1, [.ref a_o_wealth_cells])), (a_o_wealth_cells, .inl (cI, 7, .inl f_o_wealth_cells))] [(a_o, .inr (4, [.int v_o_houses, .int v_o_children, .int v_o_living, .int v_o_sideBits, .int u.1, .int v_o_theYear, .ref a_o_worth, .ref a_o_birth, .ref a_o_home, .ref a_o_kind, .ref a_o_wealth])), (a_o_worth, .inr (1, [.ref a_o_worth_cells])), (a_o_worth_cells, .inl (cI, 3, .inl f_o_worth_cells)), (a_o_wealth, .inr (1, [.ref a_o_wealth_cells])), (a_o_wealth_cells, .inl (cI, 7, .inl u.2))]  := by
  refine kMv_of sg_X4_takeBackFrom ⟨rfl, rfl⟩ (Nat.le_of_ble_eq_true rfl) ?_
  intro p e s m args below meth c A H0 Q hx hb hml hown hts hK hN hA hend H locs ls hP hD hS hl
  have hl : lv_has ls 3 [(0, .ref a_o), (1, .int x1), (2, .int x2)] := hl
  have hk45 := hts (.fieldLink RX4 45 "YoungestHouse$Town" "inherited" "I") (by decide +kernel)
  unfold f_X4_takeBackFrom at hf
  refine lv_aload_n hx hb dX4_takeBackFrom_0 rfl (lv_at hl 0 rfl) ?_
  refine lv_dup hx hb dX4_takeBackFrom_1 rfl ?_
  refine va_get (D := (dC, dI)) (ci := 4) (v := .int v_o_inherited) (C := RX4) (T := TX4) (N := 11) hx hb hts in_X4_takeBackFrom_X4 hown hK hP 0 rfl rfl 4 (by decide) hk45 (fun _ h9 => h9) rfl dX4_takeBackFrom_2 ?_
  refine lv_iload_n hx hb dX4_takeBackFrom_5 rfl (lv_at hl 1 rfl) ?_
  obtain ⟨u1, hu1, hf⟩ := kb1_e hf
  refine kc_i (wn := [(a_o, .inr (4, [.int v_o_houses, .int v_o_children, .int v_o_living, .int v_o_sideBits, .int v_o_inherited, .int v_o_theYear, .ref a_o_worth, .ref a_o_birth, .ref a_o_home, .ref a_o_kind, .ref a_o_wealth])), (a_o_worth, .inr (1, [.ref a_o_worth_cells])), (a_o_worth_cells, .inl (cI, 3, .inl f_o_worth_cells)), (a_o_wealth, .inr (1, [.ref a_o_wealth_cells])), (a_o_wealth_cells, .inl (cI, 7, .inl f_o_wealth_cells))]) (kr_N (host := RX5) (As := [.int x1]) (rest := [.int v_o_inherited, .ref a_o]) ⟨hx, hb, hml, hown, hts⟩ hK hN hP hD hl.1 (c_X5_bit l dC dI cI cZ x1 u1 hu1 H.size) sg_X5_bit ⟨rfl, rfl⟩ ⟨Nat.le_of_ble_eq_true rfl, Nat.le_of_ble_eq_true rfl⟩ gX4_takeBackFrom_X5_bit_n67 (by decide +kernel) (by decide +kernel) (by decide +kernel) [] (by decide) rfl rfl rfl (Nat.le_of_ble_eq_true rfl) dX4_takeBackFrom_6 ⟨Nat.zero_le _, Nat.zero_le _⟩) hA hP hD hS [] rfl rfl rfl (fun H locs hP hD hS => ?_)
  refine lv_iconst (v := (-1 : Int32)) hx hb dX4_takeBackFrom_9 (by decide) ?_
  refine lv_ixor hx hb dX4_takeBackFrom_10 ?_
  refine lv_iand hx hb dX4_takeBackFrom_11 ?_
  refine va_put (D := (dC, dI)) (ci := 4) (v := .int (v_o_inherited &&& (u1 ^^^ (-1 : Int32)))) (ty := .int) (C := RX4) (T := TX4) (N := 11) hx hb hts in_X4_takeBackFrom_X4 tyX4 tyX4_ok nmX4 hown hK hP hD hS 0 rfl rfl 4 (by decide) hk45 (fun _ h9 => h9) rfl (by decide +kernel) rfl rfl (Nat.le_of_ble_eq_true rfl) dX4_takeBackFrom_12 (fun H locs hP hD hS => ?_)
  have hP : va_P (dC, dI) vwCl [(a_o, .inr (4, [.int v_o_houses, .int v_o_children, .int v_o_living, .int v_o_sideBits, .int (v_o_inherited &&& (u1 ^^^ (-1 : Int32))), .int v_o_theYear, .ref a_o_worth, .ref a_o_birth, .ref a_o_home, .ref a_o_kind, .ref a_o_wealth])), (a_o_worth, .inr (1, [.ref a_o_worth_cells])), (a_o_worth_cells, .inl (cI, 3, .inl f_o_worth_cells)), (a_o_wealth, .inr (1, [.ref a_o_wealth_cells])), (a_o_wealth_cells, .inl (cI, 7, .inl f_o_wealth_cells))] H := hP
  have hD : va_D A [(a_o, .inr (4, [.int v_o_houses, .int v_o_children, .int v_o_living, .int v_o_sideBits, .int (v_o_inherited &&& (u1 ^^^ (-1 : Int32))), .int v_o_theYear, .ref a_o_worth, .ref a_o_birth, .ref a_o_home, .ref a_o_kind, .ref a_o_wealth])), (a_o_worth, .inr (1, [.ref a_o_worth_cells])), (a_o_worth_cells, .inl (cI, 3, .inl f_o_worth_cells)), (a_o_wealth, .inr (1, [.ref a_o_wealth_cells])), (a_o_wealth_cells, .inl (cI, 7, .inl f_o_wealth_cells))] := hD
  refine lv_aload_n hx hb dX4_takeBackFrom_15 rfl (lv_at hl 0 rfl) ?_
  refine lv_iload_n hx hb dX4_takeBackFrom_16 rfl (lv_at hl 2 rfl) ?_
  refine lv_aload_n hx hb dX4_takeBackFrom_17 rfl (lv_at hl 0 rfl) ?_
  refine lv_iload_n hx hb dX4_takeBackFrom_18 rfl (lv_at hl 1 rfl) ?_
  refine lv_iload_n hx hb dX4_takeBackFrom_19 rfl (lv_at hl 2 rfl) ?_
  obtain ⟨u2, hu2, hf⟩ := kb1_e hf
  refine kc_i (wn := [(a_o, .inr (4, [.int v_o_houses, .int v_o_children, .int v_o_living, .int v_o_sideBits, .int (v_o_inherited &&& (u1 ^^^ (-1 : Int32))), .int v_o_theYear, .ref a_o_worth, .ref a_o_birth, .ref a_o_home, .ref a_o_kind, .ref a_o_wealth])), (a_o_worth, .inr (1, [.ref a_o_worth_cells])), (a_o_worth_cells, .inl (cI, 3, .inl f_o_worth_cells)), (a_o_wealth, .inr (1, [.ref a_o_wealth_cells])), (a_o_wealth_cells, .inl (cI, 7, .inl f_o_wealth_cells))]) (kr_V (As := [.int x1, .int x2]) (rest := [.int x2, .ref a_o]) ⟨hx, hb, hml, hown, hts⟩ hK hN hP hD hl.1 (c_X4_partOf l dC dI cI cZ a_o a_o_worth a_o_birth a_o_home a_o_kind a_o_wealth a_o_worth_cells v_o_houses v_o_children v_o_living v_o_sideBits (v_o_inherited &&& (u1 ^^^ (-1 : Int32))) v_o_theYear f_o_worth_cells x1 x2 u2 hu2 H.size) sg_X4_partOf ⟨rfl, rfl⟩ ⟨Nat.le_of_ble_eq_true rfl, Nat.le_of_ble_eq_true rfl⟩ gX4_takeBackFrom_X4_partOf 0 rfl rfl rfl [0, 1, 2] (by decide) rfl rfl rfl (Nat.le_of_ble_eq_true rfl) dX4_takeBackFrom_20 ⟨Nat.zero_le _, Nat.zero_le _⟩) hA hP hD hS [0, 1, 2] rfl rfl rfl (fun H locs hP hD hS => ?_)
  refine lv_ineg hx hb dX4_takeBackFrom_23 ?_
  obtain ⟨u3, hu3, hf⟩ := kb1_e hf
  refine kc_v (wn := [(a_o, .inr (4, [.int v_o_houses, .int v_o_children, .int v_o_living, .int v_o_sideBits, .int (v_o_inherited &&& (u1 ^^^ (-1 : Int32))), .int v_o_theYear, .ref a_o_worth, .ref a_o_birth, .ref a_o_home, .ref a_o_kind, .ref a_o_wealth])), (a_o_worth, .inr (1, [.ref a_o_worth_cells])), (a_o_worth_cells, .inl (cI, 3, .inl f_o_worth_cells)), (a_o_wealth, .inr (1, [.ref a_o_wealth_cells])), (a_o_wealth_cells, .inl (cI, 7, .inl u3))]) (kr_V (As := [.int x2, .int (-u2)]) (rest := []) ⟨hx, hb, hml, hown, hts⟩ hK hN hP hD hl.1 (c_X4_enrich l dC dI cI cZ a_o a_o_worth a_o_birth a_o_home a_o_kind a_o_wealth a_o_wealth_cells v_o_houses v_o_children v_o_living v_o_sideBits (v_o_inherited &&& (u1 ^^^ (-1 : Int32))) v_o_theYear f_o_wealth_cells x2 (-u2) u3 hu3 H.size) sg_X4_enrich ⟨rfl, rfl⟩ ⟨Nat.le_of_ble_eq_true rfl, Nat.le_of_ble_eq_true rfl⟩ gX4_takeBackFrom_X4_enrich 0 rfl rfl rfl [0, 3, 4] (by decide) rfl rfl rfl (Nat.le_of_ble_eq_true rfl) dX4_takeBackFrom_24 ⟨Nat.zero_le _, Nat.zero_le _⟩) hA hP hD hS [0, 3, 4] rfl rfl rfl (fun H locs hP hD hS => ?_)
  cases hf
  exact hend _ _ _ _ dX4_takeBackFrom_27 hP hS
theorem sg_X0_takeLastBack : kSig yX0_takeLastBack wsX0_takeLastBack cX0_takeLastBack 4 none RX0 1 := ⟨⟨_, rfl⟩, rfl, by decide, by decide +kernel, by decide +kernel, by decide +kernel⟩
abbrev rm_X0_takeLastBack : Room := { frames := 3, cells := 0, slots := 0, locals := 67 }
set_option maxRecDepth 20000 in
theorem in_X0_takeLastBack_X0 : ∀ w ∈ u_ws RX0 TX0 4, w ∈ wsX0_takeLastBack := by decide +kernel
set_option maxRecDepth 20000 in
theorem in_X0_takeLastBack_X4 : ∀ w ∈ u_ws RX4 TX4 11, w ∈ wsX0_takeLastBack := by decide +kernel
set_option maxHeartbeats 4000000 in
set_option maxRecDepth 100000 in
theorem c_X0_takeLastBack (l : Launch) (dC : Nat → ClassId) (dI : Nat → Nat → Nat) (cI cZ : ClassId) (a_o a_o_what a_o_which a_o_before a_o_what_cells a_o_which_cells a_o_before_cells a_p1 a_p1_worth a_p1_birth a_p1_home a_p1_kind a_p1_wealth a_p1_worth_cells a_p1_home_cells a_p1_wealth_cells : Nat) (v_o_count : Int32) (f_o_what_cells : Nat → Int32) (f_o_which_cells : Nat → Int32) (f_o_before_cells : Nat → Int32) (v_p1_houses : Int32) (v_p1_children : Int32) (v_p1_living : Int32) (v_p1_sideBits : Int32) (v_p1_inherited : Int32) (v_p1_theYear : Int32) (f_p1_worth_cells : Nat → Int32) (f_p1_home_cells : Nat → Int32) (f_p1_wealth_cells : Nat → Int32)  (u : Int32 × Int32 × Int32 × Int32 × Int32 × Int32 × (Nat → Int32) × (Nat → Int32)) (hf : f_X0_takeLastBack f_o_what_cells f_o_which_cells f_o_before_cells f_p1_worth_cells v_o_count v_p1_children v_p1_living v_p1_sideBits v_p1_inherited v_p1_theYear f_p1_home_cells f_p1_wealth_cells = some u) : kMv l yX0_takeLastBack wsX0_takeLastBack rm_X0_takeLastBack (dC, dI) (kTy cI cZ) [.ref a_o, .ref a_p1] [(a_o, .inr (0, [.ref a_o_what, .ref a_o_which, .ref a_o_before, .int v_o_count])), (a_o_what, .inr (1, [.ref a_o_what_cells])), (a_o_what_cells, .inl (cI, 14, .inl f_o_what_cells)), (a_o_which, .inr (1, [.ref a_o_which_cells])), (a_o_which_cells, .inl (cI, 14, .inl f_o_which_cells)), (a_o_before, .inr (1, [.ref a_o_before_cells])), (a_o_before_cells, .inl (cI, 14, .inl f_o_before_cells)), (a_p1, .inr (4, [.int v_p1_houses, .int v_p1_children, .int v_p1_living, .int v_p1_sideBits, .int v_p1_inherited, .int v_p1_theYear, .ref a_p1_worth, .ref a_p1_birth, .ref a_p1_home, .ref a_p1_kind, .ref a_p1_wealth])), (a_p1_worth, .inr (1, [.ref a_p1_worth_cells])), (a_p1_worth_cells, .inl (cI, 3, .inl f_p1_worth_cells)), (a_p1_home, .inr (1, [.ref a_p1_home_cells])), (a_p1_home_cells, .inl (cI, 7, .inl f_p1_home_cells)), (a_p1_wealth, .inr (1, [.ref a_p1_wealth_cells])), (a_p1_wealth_cells, .inl (cI, 7, .inl f_p1_wealth_cells))] [(a_o, .inr (0, [.ref a_o_what, .ref a_o_which, .ref a_o_before, .int u.1])), (a_o_what, .inr (1, [.ref a_o_what_cells])), (a_o_what_cells, .inl (cI, 14, .inl f_o_what_cells)), (a_o_which, .inr (1, [.ref a_o_which_cells])), (a_o_which_cells, .inl (cI, 14, .inl f_o_which_cells)), (a_o_before, .inr (1, [.ref a_o_before_cells])), (a_o_before_cells, .inl (cI, 14, .inl f_o_before_cells)), (a_p1, .inr (4, [.int v_p1_houses, .int u.2.1, .int u.2.2.1, .int u.2.2.2.1, .int u.2.2.2.2.1, .int u.2.2.2.2.2.1, .ref a_p1_worth, .ref a_p1_birth, .ref a_p1_home, .ref a_p1_kind, .ref a_p1_wealth])), (a_p1_worth, .inr (1, [.ref a_p1_worth_cells])), (a_p1_worth_cells, .inl (cI, 3, .inl f_p1_worth_cells)), (a_p1_home, .inr (1, [.ref a_p1_home_cells])), (a_p1_home_cells, .inl (cI, 7, .inl u.2.2.2.2.2.2.1)), (a_p1_wealth, .inr (1, [.ref a_p1_wealth_cells])), (a_p1_wealth_cells, .inl (cI, 7, .inl u.2.2.2.2.2.2.2))]  := by
  refine kMv_of sg_X0_takeLastBack ⟨rfl, rfl⟩ (Nat.le_of_ble_eq_true rfl) ?_
  intro p e s m args below meth c A H0 Q hx hb hml hown hts hK hN hA hend H locs ls hP hD hS hl
  have hl : lv_has ls 4 [(0, .ref a_o), (1, .ref a_p1)] := hl
  have hk14 := hts (.fieldLink RX0 14 "YoungestHouse$Acts" "what" "LYoungestHouse$Row;") (by decide +kernel)
  have hk20 := hts (.fieldLink RX0 20 "YoungestHouse$Acts" "which" "LYoungestHouse$Row;") (by decide +kernel)
  have hk23 := hts (.fieldLink RX0 23 "YoungestHouse$Acts" "before" "LYoungestHouse$Row;") (by decide +kernel)
  have hk26 := hts (.fieldLink RX0 26 "YoungestHouse$Acts" "count" "I") (by decide +kernel)
  have hk49 := va_Nw.use (A := args) rfl (hN (.fieldLinkNest RX0 49 RX4 "home" "LYoungestHouse$Row;" RX5) (by decide +kernel))
  have hk58 := va_Nw.use (A := args) rfl (hN (.fieldLinkNest RX0 58 RX4 "theYear" "I" RX5) (by decide +kernel))
  unfold f_X0_takeLastBack at hf
  refine lv_aload_n hx hb dX0_takeLastBack_0 rfl (lv_at hl 0 rfl) ?_
  refine va_get (D := (dC, dI)) (ci := 0) (v := .int v_o_count) (C := RX0) (T := TX0) (N := 4) hx hb hts in_X0_takeLastBack_X0 hown hK hP 0 rfl rfl 3 (by decide) hk26 (fun _ h9 => h9) rfl dX0_takeLastBack_1 ?_
  refine lv_if_gt (tgt := 8) hx hb dX0_takeLastBack_4 (by decide) (fun c1 => ?_) (fun c1 => ?_)
  · replace hf := kt c1 hf
    refine lv_aload_n hx hb dX0_takeLastBack_8 rfl (lv_at hl 0 rfl) ?_
    refine lv_dup hx hb dX0_takeLastBack_9 rfl ?_
    refine va_get (D := (dC, dI)) (ci := 0) (v := .int v_o_count) (C := RX0) (T := TX0) (N := 4) hx hb hts in_X0_takeLastBack_X0 hown hK hP 0 rfl rfl 3 (by decide) hk26 (fun _ h9 => h9) rfl dX0_takeLastBack_10 ?_
    refine lv_iconst (v := (1 : Int32)) hx hb dX0_takeLastBack_13 (by decide) ?_
    refine lv_isub hx hb dX0_takeLastBack_14 ?_
    refine va_put (D := (dC, dI)) (ci := 0) (v := .int (v_o_count - (1 : Int32))) (ty := .int) (C := RX0) (T := TX0) (N := 4) hx hb hts in_X0_takeLastBack_X0 tyX0 tyX0_ok nmX0 hown hK hP hD hS 0 rfl rfl 3 (by decide) hk26 (fun _ h9 => h9) rfl (by decide +kernel) rfl rfl (Nat.le_of_ble_eq_true rfl) dX0_takeLastBack_15 (fun H locs hP hD hS => ?_)
    have hP : va_P (dC, dI) vwCl [(a_o, .inr (0, [.ref a_o_what, .ref a_o_which, .ref a_o_before, .int (v_o_count - (1 : Int32))])), (a_o_what, .inr (1, [.ref a_o_what_cells])), (a_o_what_cells, .inl (cI, 14, .inl f_o_what_cells)), (a_o_which, .inr (1, [.ref a_o_which_cells])), (a_o_which_cells, .inl (cI, 14, .inl f_o_which_cells)), (a_o_before, .inr (1, [.ref a_o_before_cells])), (a_o_before_cells, .inl (cI, 14, .inl f_o_before_cells)), (a_p1, .inr (4, [.int v_p1_houses, .int v_p1_children, .int v_p1_living, .int v_p1_sideBits, .int v_p1_inherited, .int v_p1_theYear, .ref a_p1_worth, .ref a_p1_birth, .ref a_p1_home, .ref a_p1_kind, .ref a_p1_wealth])), (a_p1_worth, .inr (1, [.ref a_p1_worth_cells])), (a_p1_worth_cells, .inl (cI, 3, .inl f_p1_worth_cells)), (a_p1_home, .inr (1, [.ref a_p1_home_cells])), (a_p1_home_cells, .inl (cI, 7, .inl f_p1_home_cells)), (a_p1_wealth, .inr (1, [.ref a_p1_wealth_cells])), (a_p1_wealth_cells, .inl (cI, 7, .inl f_p1_wealth_cells))] H := hP
    have hD : va_D A [(a_o, .inr (0, [.ref a_o_what, .ref a_o_which, .ref a_o_before, .int (v_o_count - (1 : Int32))])), (a_o_what, .inr (1, [.ref a_o_what_cells])), (a_o_what_cells, .inl (cI, 14, .inl f_o_what_cells)), (a_o_which, .inr (1, [.ref a_o_which_cells])), (a_o_which_cells, .inl (cI, 14, .inl f_o_which_cells)), (a_o_before, .inr (1, [.ref a_o_before_cells])), (a_o_before_cells, .inl (cI, 14, .inl f_o_before_cells)), (a_p1, .inr (4, [.int v_p1_houses, .int v_p1_children, .int v_p1_living, .int v_p1_sideBits, .int v_p1_inherited, .int v_p1_theYear, .ref a_p1_worth, .ref a_p1_birth, .ref a_p1_home, .ref a_p1_kind, .ref a_p1_wealth])), (a_p1_worth, .inr (1, [.ref a_p1_worth_cells])), (a_p1_worth_cells, .inl (cI, 3, .inl f_p1_worth_cells)), (a_p1_home, .inr (1, [.ref a_p1_home_cells])), (a_p1_home_cells, .inl (cI, 7, .inl f_p1_home_cells)), (a_p1_wealth, .inr (1, [.ref a_p1_wealth_cells])), (a_p1_wealth_cells, .inl (cI, 7, .inl f_p1_wealth_cells))] := hD
    refine lv_aload_n hx hb dX0_takeLastBack_18 rfl (lv_at hl 0 rfl) ?_
    refine va_get (D := (dC, dI)) (ci := 0) (v := .ref a_o_which) (C := RX0) (T := TX0) (N := 4) hx hb hts in_X0_takeLastBack_X0 hown hK hP 0 rfl rfl 1 (by decide) hk20 (fun _ h9 => h9) rfl dX0_takeLastBack_19 ?_
    refine lv_aload_n hx hb dX0_takeLastBack_22 rfl (lv_at hl 0 rfl) ?_
    refine va_get (D := (dC, dI)) (ci := 0) (v := .int (v_o_count - (1 : Int32))) (C := RX0) (T := TX0) (N := 4) hx hb hts in_X0_takeLastBack_X0 hown hK hP 0 rfl rfl 3 (by decide) hk26 (fun _ h9 => h9) rfl dX0_takeLastBack_23 ?_
    obtain ⟨u2, hu2, hf⟩ := kb1_e hf
    refine kc_i (wn := [(a_o, .inr (0, [.ref a_o_what, .ref a_o_which, .ref a_o_before, .int (v_o_count - (1 : Int32))])), (a_o_what, .inr (1, [.ref a_o_what_cells])), (a_o_what_cells, .inl (cI, 14, .inl f_o_what_cells)), (a_o_which, .inr (1, [.ref a_o_which_cells])), (a_o_which_cells, .inl (cI, 14, .inl f_o_which_cells)), (a_o_before, .inr (1, [.ref a_o_before_cells])), (a_o_before_cells, .inl (cI, 14, .inl f_o_before_cells)), (a_p1, .inr (4, [.int v_p1_houses, .int v_p1_children, .int v_p1_living, .int v_p1_sideBits, .int v_p1_inherited, .int v_p1_theYear, .ref a_p1_worth, .ref a_p1_birth, .ref a_p1_home, .ref a_p1_kind, .ref a_p1_wealth])), (a_p1_worth, .inr (1, [.ref a_p1_worth_cells])), (a_p1_worth_cells, .inl (cI, 3, .inl f_p1_worth_cells)), (a_p1_home, .inr (1, [.ref a_p1_home_cells])), (a_p1_home_cells, .inl (cI, 7, .inl f_p1_home_cells)), (a_p1_wealth, .inr (1, [.ref a_p1_wealth_cells])), (a_p1_wealth_cells, .inl (cI, 7, .inl f_p1_wealth_cells))]) (kr_V (As := [.int (v_o_count - (1 : Int32))]) (rest := []) ⟨hx, hb, hml, hown, hts⟩ hK hN hP hD hl.1 (c_X1_get l dC dI cI cZ a_o_which a_o_which_cells 14 f_o_which_cells (v_o_count - (1 : Int32)) u2 hu2 H.size) sg_X1_get ⟨rfl, rfl⟩ ⟨Nat.le_of_ble_eq_true rfl, Nat.le_of_ble_eq_true rfl⟩ gX0_takeLastBack_X1_get 3 rfl rfl rfl [3, 4] (by decide) rfl rfl rfl (Nat.le_of_ble_eq_true rfl) dX0_takeLastBack_26 ⟨Nat.zero_le _, Nat.zero_le _⟩) hA hP hD hS [3, 4] rfl rfl rfl (fun H locs hP hD hS => ?_)
    refine lv_istore_n (lv' := [(2, .int u2), (0, .ref a_o), (1, .ref a_p1)]) hx hb dX0_takeLastBack_29 rfl hl (by decide) rfl (fun ls hl => ?_)
    refine lv_aload_n hx hb dX0_takeLastBack_30 rfl (lv_at hl 1 rfl) ?_
    refine va_get (D := (dC, dI)) (ci := 0) (v := .ref a_o_before) (C := RX0) (T := TX0) (N := 4) hx hb hts in_X0_takeLastBack_X0 hown hK hP 0 rfl rfl 2 (by decide) hk23 (fun _ h9 => h9) rfl dX0_takeLastBack_31 ?_
    refine lv_aload_n hx hb dX0_takeLastBack_34 rfl (lv_at hl 1 rfl) ?_
    refine va_get (D := (dC, dI)) (ci := 0) (v := .int (v_o_count - (1 : Int32))) (C := RX0) (T := TX0) (N := 4) hx hb hts in_X0_takeLastBack_X0 hown hK hP 0 rfl rfl 3 (by decide) hk26 (fun _ h9 => h9) rfl dX0_takeLastBack_35 ?_
    obtain ⟨u3, hu3, hf⟩ := kb1_e hf
    refine kc_i (wn := [(a_o, .inr (0, [.ref a_o_what, .ref a_o_which, .ref a_o_before, .int (v_o_count - (1 : Int32))])), (a_o_what, .inr (1, [.ref a_o_what_cells])), (a_o_what_cells, .inl (cI, 14, .inl f_o_what_cells)), (a_o_which, .inr (1, [.ref a_o_which_cells])), (a_o_which_cells, .inl (cI, 14, .inl f_o_which_cells)), (a_o_before, .inr (1, [.ref a_o_before_cells])), (a_o_before_cells, .inl (cI, 14, .inl f_o_before_cells)), (a_p1, .inr (4, [.int v_p1_houses, .int v_p1_children, .int v_p1_living, .int v_p1_sideBits, .int v_p1_inherited, .int v_p1_theYear, .ref a_p1_worth, .ref a_p1_birth, .ref a_p1_home, .ref a_p1_kind, .ref a_p1_wealth])), (a_p1_worth, .inr (1, [.ref a_p1_worth_cells])), (a_p1_worth_cells, .inl (cI, 3, .inl f_p1_worth_cells)), (a_p1_home, .inr (1, [.ref a_p1_home_cells])), (a_p1_home_cells, .inl (cI, 7, .inl f_p1_home_cells)), (a_p1_wealth, .inr (1, [.ref a_p1_wealth_cells])), (a_p1_wealth_cells, .inl (cI, 7, .inl f_p1_wealth_cells))]) (kr_V (As := [.int (v_o_count - (1 : Int32))]) (rest := []) ⟨hx, hb, hml, hown, hts⟩ hK hN hP hD hl.1 (c_X1_get l dC dI cI cZ a_o_before a_o_before_cells 14 f_o_before_cells (v_o_count - (1 : Int32)) u3 hu3 H.size) sg_X1_get ⟨rfl, rfl⟩ ⟨Nat.le_of_ble_eq_true rfl, Nat.le_of_ble_eq_true rfl⟩ gX0_takeLastBack_X1_get 5 rfl rfl rfl [5, 6] (by decide) rfl rfl rfl (Nat.le_of_ble_eq_true rfl) dX0_takeLastBack_38 ⟨Nat.zero_le _, Nat.zero_le _⟩) hA hP hD hS [5, 6] rfl rfl rfl (fun H locs hP hD hS => ?_)
    refine lv_istore_n (lv' := [(3, .int u3), (2, .int u2), (0, .ref a_o), (1, .ref a_p1)]) hx hb dX0_takeLastBack_41 rfl hl (by decide) rfl (fun ls hl => ?_)
    refine lv_aload_n hx hb dX0_takeLastBack_42 rfl (lv_at hl 2 rfl) ?_
    refine va_get (D := (dC, dI)) (ci := 0) (v := .ref a_o_what) (C := RX0) (T := TX0) (N := 4) hx hb hts in_X0_takeLastBack_X0 hown hK hP 0 rfl rfl 0 (by decide) hk14 (fun _ h9 => h9) rfl dX0_takeLastBack_43 ?_
    refine lv_aload_n hx hb dX0_takeLastBack_46 rfl (lv_at hl 2 rfl) ?_
    refine va_get (D := (dC, dI)) (ci := 0) (v := .int (v_o_count - (1 : Int32))) (C := RX0) (T := TX0) (N := 4) hx hb hts in_X0_takeLastBack_X0 hown hK hP 0 rfl rfl 3 (by decide) hk26 (fun _ h9 => h9) rfl dX0_takeLastBack_47 ?_
    obtain ⟨u4, hu4, hf⟩ := kb1_e hf
    refine kc_i (wn := [(a_o, .inr (0, [.ref a_o_what, .ref a_o_which, .ref a_o_before, .int (v_o_count - (1 : Int32))])), (a_o_what, .inr (1, [.ref a_o_what_cells])), (a_o_what_cells, .inl (cI, 14, .inl f_o_what_cells)), (a_o_which, .inr (1, [.ref a_o_which_cells])), (a_o_which_cells, .inl (cI, 14, .inl f_o_which_cells)), (a_o_before, .inr (1, [.ref a_o_before_cells])), (a_o_before_cells, .inl (cI, 14, .inl f_o_before_cells)), (a_p1, .inr (4, [.int v_p1_houses, .int v_p1_children, .int v_p1_living, .int v_p1_sideBits, .int v_p1_inherited, .int v_p1_theYear, .ref a_p1_worth, .ref a_p1_birth, .ref a_p1_home, .ref a_p1_kind, .ref a_p1_wealth])), (a_p1_worth, .inr (1, [.ref a_p1_worth_cells])), (a_p1_worth_cells, .inl (cI, 3, .inl f_p1_worth_cells)), (a_p1_home, .inr (1, [.ref a_p1_home_cells])), (a_p1_home_cells, .inl (cI, 7, .inl f_p1_home_cells)), (a_p1_wealth, .inr (1, [.ref a_p1_wealth_cells])), (a_p1_wealth_cells, .inl (cI, 7, .inl f_p1_wealth_cells))]) (kr_V (As := [.int (v_o_count - (1 : Int32))]) (rest := []) ⟨hx, hb, hml, hown, hts⟩ hK hN hP hD hl.1 (c_X1_get l dC dI cI cZ a_o_what a_o_what_cells 14 f_o_what_cells (v_o_count - (1 : Int32)) u4 hu4 H.size) sg_X1_get ⟨rfl, rfl⟩ ⟨Nat.le_of_ble_eq_true rfl, Nat.le_of_ble_eq_true rfl⟩ gX0_takeLastBack_X1_get 1 rfl rfl rfl [1, 2] (by decide) rfl rfl rfl (Nat.le_of_ble_eq_true rfl) dX0_takeLastBack_50 ⟨Nat.zero_le _, Nat.zero_le _⟩) hA hP hD hS [1, 2] rfl rfl rfl (fun H locs hP hD hS => ?_)
    rcases Decidable.em (u4 = (0 : Int32)) with c5 | c5
    · replace hf := kt c5 hf
      refine lv_tableIn (off := 35) (tgt := 88) hx hb dX0_takeLastBack_53 (by rw [c5]; decide) (by rw [c5]; decide) (by rw [c5]; rfl) (by decide) ?_
      refine lv_aload_n hx hb dX0_takeLastBack_88 rfl (lv_at hl 3 rfl) ?_
      obtain ⟨u6, hu6, hf⟩ := kb1_e hf
      refine kc_v (wn := [(a_o, .inr (0, [.ref a_o_what, .ref a_o_which, .ref a_o_before, .int (v_o_count - (1 : Int32))])), (a_o_what, .inr (1, [.ref a_o_what_cells])), (a_o_what_cells, .inl (cI, 14, .inl f_o_what_cells)), (a_o_which, .inr (1, [.ref a_o_which_cells])), (a_o_which_cells, .inl (cI, 14, .inl f_o_which_cells)), (a_o_before, .inr (1, [.ref a_o_before_cells])), (a_o_before_cells, .inl (cI, 14, .inl f_o_before_cells)), (a_p1, .inr (4, [.int v_p1_houses, .int u6.1, .int u6.2, .int v_p1_sideBits, .int v_p1_inherited, .int v_p1_theYear, .ref a_p1_worth, .ref a_p1_birth, .ref a_p1_home, .ref a_p1_kind, .ref a_p1_wealth])), (a_p1_worth, .inr (1, [.ref a_p1_worth_cells])), (a_p1_worth_cells, .inl (cI, 3, .inl f_p1_worth_cells)), (a_p1_home, .inr (1, [.ref a_p1_home_cells])), (a_p1_home_cells, .inl (cI, 7, .inl f_p1_home_cells)), (a_p1_wealth, .inr (1, [.ref a_p1_wealth_cells])), (a_p1_wealth_cells, .inl (cI, 7, .inl f_p1_wealth_cells))]) (kr_V (As := []) (rest := []) ⟨hx, hb, hml, hown, hts⟩ hK hN hP hD hl.1 (c_X4_dropLastChild l dC dI cI cZ a_p1 a_p1_worth a_p1_birth a_p1_home a_p1_kind a_p1_wealth v_p1_houses v_p1_children v_p1_living v_p1_sideBits v_p1_inherited v_p1_theYear u6 hu6 H.size) sg_X4_dropLastChild ⟨rfl, rfl⟩ ⟨Nat.le_of_ble_eq_true rfl, Nat.le_of_ble_eq_true rfl⟩ gX0_takeLastBack_X4_dropLastChild 7 rfl rfl rfl [7] (by decide) rfl rfl rfl (Nat.le_of_ble_eq_true rfl) dX0_takeLastBack_89 ⟨Nat.zero_le _, Nat.zero_le _⟩) hA hP hD hS [7] rfl rfl rfl (fun H locs hP hD hS => ?_)
      refine lv_goto (tgt := 142) hx hb dX0_takeLastBack_92 (by decide) ?_
      cases hf
      exact hend _ _ _ _ dX0_takeLastBack_142 hP hS
    · replace hf := kf c5 hf
      rcases Decidable.em (u4 = (1 : Int32)) with c7 | c7
      · replace hf := kt c7 hf
        refine lv_tableIn (off := 42) (tgt := 95) hx hb dX0_takeLastBack_53 (by rw [c7]; decide) (by rw [c7]; decide) (by rw [c7]; rfl) (by decide) ?_
        refine lv_aload_n hx hb dX0_takeLastBack_95 rfl (lv_at hl 3 rfl) ?_
        refine lv_iload_n hx hb dX0_takeLastBack_96 rfl (lv_at hl 1 rfl) ?_
        obtain ⟨u8, hu8, hf⟩ := kb1_e hf
        refine kc_v (wn := [(a_o, .inr (0, [.ref a_o_what, .ref a_o_which, .ref a_o_before, .int (v_o_count - (1 : Int32))])), (a_o_what, .inr (1, [.ref a_o_what_cells])), (a_o_what_cells, .inl (cI, 14, .inl f_o_what_cells)), (a_o_which, .inr (1, [.ref a_o_which_cells])), (a_o_which_cells, .inl (cI, 14, .inl f_o_which_cells)), (a_o_before, .inr (1, [.ref a_o_before_cells])), (a_o_before_cells, .inl (cI, 14, .inl f_o_before_cells)), (a_p1, .inr (4, [.int v_p1_houses, .int v_p1_children, .int u8, .int v_p1_sideBits, .int v_p1_inherited, .int v_p1_theYear, .ref a_p1_worth, .ref a_p1_birth, .ref a_p1_home, .ref a_p1_kind, .ref a_p1_wealth])), (a_p1_worth, .inr (1, [.ref a_p1_worth_cells])), (a_p1_worth_cells, .inl (cI, 3, .inl f_p1_worth_cells)), (a_p1_home, .inr (1, [.ref a_p1_home_cells])), (a_p1_home_cells, .inl (cI, 7, .inl f_p1_home_cells)), (a_p1_wealth, .inr (1, [.ref a_p1_wealth_cells])), (a_p1_wealth_cells, .inl (cI, 7, .inl f_p1_wealth_cells))]) (kr_V (As := [.int u2]) (rest := []) ⟨hx, hb, hml, hown, hts⟩ hK hN hP hD hl.1 (c_X4_flipLife l dC dI cI cZ a_p1 a_p1_worth a_p1_birth a_p1_home a_p1_kind a_p1_wealth v_p1_houses v_p1_children v_p1_living v_p1_sideBits v_p1_inherited v_p1_theYear u2 u8 hu8 H.size) sg_X4_flipLife ⟨rfl, rfl⟩ ⟨Nat.le_of_ble_eq_true rfl, Nat.le_of_ble_eq_true rfl⟩ gX0_takeLastBack_X4_flipLife 7 rfl rfl rfl [7] (by decide) rfl rfl rfl (Nat.le_of_ble_eq_true rfl) dX0_takeLastBack_97 ⟨Nat.zero_le _, Nat.zero_le _⟩) hA hP hD hS [7] rfl rfl rfl (fun H locs hP hD hS => ?_)
        refine lv_goto (tgt := 142) hx hb dX0_takeLastBack_100 (by decide) ?_
        cases hf
        exact hend _ _ _ _ dX0_takeLastBack_142 hP hS
      · replace hf := kf c7 hf
        rcases Decidable.em (u4 = (2 : Int32)) with c9 | c9
        · replace hf := kt c9 hf
          refine lv_tableIn (off := 50) (tgt := 103) hx hb dX0_takeLastBack_53 (by rw [c9]; decide) (by rw [c9]; decide) (by rw [c9]; rfl) (by decide) ?_
          refine lv_aload_n hx hb dX0_takeLastBack_103 rfl (lv_at hl 3 rfl) ?_
          refine va_getN (D := (dC, dI)) (ci := 4) (v := .ref a_p1_home) (C := RX4) (T := TX4) (N := 11) hx hb hts in_X0_takeLastBack_X4 hown hK hP 7 rfl rfl 8 (by decide) hk49 (fun _ h9 => h9) rfl dX0_takeLastBack_104 ?_
          refine lv_iload_n hx hb dX0_takeLastBack_107 rfl (lv_at hl 1 rfl) ?_
          refine lv_iload_n hx hb dX0_takeLastBack_108 rfl (lv_at hl 0 rfl) ?_
          obtain ⟨u10, hu10, hf⟩ := kb1_e hf
          refine kc_v (wn := [(a_o, .inr (0, [.ref a_o_what, .ref a_o_which, .ref a_o_before, .int (v_o_count - (1 : Int32))])), (a_o_what, .inr (1, [.ref a_o_what_cells])), (a_o_what_cells, .inl (cI, 14, .inl f_o_what_cells)), (a_o_which, .inr (1, [.ref a_o_which_cells])), (a_o_which_cells, .inl (cI, 14, .inl f_o_which_cells)), (a_o_before, .inr (1, [.ref a_o_before_cells])), (a_o_before_cells, .inl (cI, 14, .inl f_o_before_cells)), (a_p1, .inr (4, [.int v_p1_houses, .int v_p1_children, .int v_p1_living, .int v_p1_sideBits, .int v_p1_inherited, .int v_p1_theYear, .ref a_p1_worth, .ref a_p1_birth, .ref a_p1_home, .ref a_p1_kind, .ref a_p1_wealth])), (a_p1_worth, .inr (1, [.ref a_p1_worth_cells])), (a_p1_worth_cells, .inl (cI, 3, .inl f_p1_worth_cells)), (a_p1_home, .inr (1, [.ref a_p1_home_cells])), (a_p1_home_cells, .inl (cI, 7, .inl u10)), (a_p1_wealth, .inr (1, [.ref a_p1_wealth_cells])), (a_p1_wealth_cells, .inl (cI, 7, .inl f_p1_wealth_cells))]) (kr_V (As := [.int u2, .int u3]) (rest := []) ⟨hx, hb, hml, hown, hts⟩ hK hN hP hD hl.1 (c_X1_set l dC dI cI cZ a_p1_home a_p1_home_cells 7 f_p1_home_cells u2 u3 u10 hu10 H.size) sg_X1_set ⟨rfl, rfl⟩ ⟨Nat.le_of_ble_eq_true rfl, Nat.le_of_ble_eq_true rfl⟩ gX0_takeLastBack_X1_set 10 rfl rfl rfl [10, 11] (by decide) rfl rfl rfl (Nat.le_of_ble_eq_true rfl) dX0_takeLastBack_109 ⟨Nat.zero_le _, Nat.zero_le _⟩) hA hP hD hS [10, 11] rfl rfl rfl (fun H locs hP hD hS => ?_)
          refine lv_goto (tgt := 142) hx hb dX0_takeLastBack_112 (by decide) ?_
          cases hf
          exact hend _ _ _ _ dX0_takeLastBack_142 hP hS
        · replace hf := kf c9 hf
          rcases Decidable.em (u4 = (3 : Int32)) with c11 | c11
          · replace hf := kt c11 hf
            refine lv_tableIn (off := 62) (tgt := 115) hx hb dX0_takeLastBack_53 (by rw [c11]; decide) (by rw [c11]; decide) (by rw [c11]; rfl) (by decide) ?_
            refine lv_aload_n hx hb dX0_takeLastBack_115 rfl (lv_at hl 3 rfl) ?_
            refine lv_iload_n hx hb dX0_takeLastBack_116 rfl (lv_at hl 1 rfl) ?_
            obtain ⟨u12, hu12, hf⟩ := kb1_e hf
            refine kc_v (wn := [(a_o, .inr (0, [.ref a_o_what, .ref a_o_which, .ref a_o_before, .int (v_o_count - (1 : Int32))])), (a_o_what, .inr (1, [.ref a_o_what_cells])), (a_o_what_cells, .inl (cI, 14, .inl f_o_what_cells)), (a_o_which, .inr (1, [.ref a_o_which_cells])), (a_o_which_cells, .inl (cI, 14, .inl f_o_which_cells)), (a_o_before, .inr (1, [.ref a_o_before_cells])), (a_o_before_cells, .inl (cI, 14, .inl f_o_before_cells)), (a_p1, .inr (4, [.int v_p1_houses, .int v_p1_children, .int v_p1_living, .int u12, .int v_p1_inherited, .int v_p1_theYear, .ref a_p1_worth, .ref a_p1_birth, .ref a_p1_home, .ref a_p1_kind, .ref a_p1_wealth])), (a_p1_worth, .inr (1, [.ref a_p1_worth_cells])), (a_p1_worth_cells, .inl (cI, 3, .inl f_p1_worth_cells)), (a_p1_home, .inr (1, [.ref a_p1_home_cells])), (a_p1_home_cells, .inl (cI, 7, .inl f_p1_home_cells)), (a_p1_wealth, .inr (1, [.ref a_p1_wealth_cells])), (a_p1_wealth_cells, .inl (cI, 7, .inl f_p1_wealth_cells))]) (kr_V (As := [.int u2]) (rest := []) ⟨hx, hb, hml, hown, hts⟩ hK hN hP hD hl.1 (c_X4_flipSide l dC dI cI cZ a_p1 a_p1_worth a_p1_birth a_p1_home a_p1_kind a_p1_wealth v_p1_houses v_p1_children v_p1_living v_p1_sideBits v_p1_inherited v_p1_theYear u2 u12 hu12 H.size) sg_X4_flipSide ⟨rfl, rfl⟩ ⟨Nat.le_of_ble_eq_true rfl, Nat.le_of_ble_eq_true rfl⟩ gX0_takeLastBack_X4_flipSide 7 rfl rfl rfl [7] (by decide) rfl rfl rfl (Nat.le_of_ble_eq_true rfl) dX0_takeLastBack_117 ⟨Nat.zero_le _, Nat.zero_le _⟩) hA hP hD hS [7] rfl rfl rfl (fun H locs hP hD hS => ?_)
            refine lv_goto (tgt := 142) hx hb dX0_takeLastBack_120 (by decide) ?_
            cases hf
            exact hend _ _ _ _ dX0_takeLastBack_142 hP hS
          · replace hf := kf c11 hf
            rcases Decidable.em (u4 = (4 : Int32)) with c13 | c13
            · replace hf := kt c13 hf
              refine lv_tableIn (off := 70) (tgt := 123) hx hb dX0_takeLastBack_53 (by rw [c13]; decide) (by rw [c13]; decide) (by rw [c13]; rfl) (by decide) ?_
              refine lv_aload_n hx hb dX0_takeLastBack_123 rfl (lv_at hl 3 rfl) ?_
              refine lv_iload_n hx hb dX0_takeLastBack_124 rfl (lv_at hl 1 rfl) ?_
              refine lv_iload_n hx hb dX0_takeLastBack_125 rfl (lv_at hl 0 rfl) ?_
              obtain ⟨u14, hu14, hf⟩ := kb1_e hf
              refine kc_v (wn := [(a_o, .inr (0, [.ref a_o_what, .ref a_o_which, .ref a_o_before, .int (v_o_count - (1 : Int32))])), (a_o_what, .inr (1, [.ref a_o_what_cells])), (a_o_what_cells, .inl (cI, 14, .inl f_o_what_cells)), (a_o_which, .inr (1, [.ref a_o_which_cells])), (a_o_which_cells, .inl (cI, 14, .inl f_o_which_cells)), (a_o_before, .inr (1, [.ref a_o_before_cells])), (a_o_before_cells, .inl (cI, 14, .inl f_o_before_cells)), (a_p1, .inr (4, [.int v_p1_houses, .int v_p1_children, .int v_p1_living, .int v_p1_sideBits, .int u14.1, .int v_p1_theYear, .ref a_p1_worth, .ref a_p1_birth, .ref a_p1_home, .ref a_p1_kind, .ref a_p1_wealth])), (a_p1_worth, .inr (1, [.ref a_p1_worth_cells])), (a_p1_worth_cells, .inl (cI, 3, .inl f_p1_worth_cells)), (a_p1_home, .inr (1, [.ref a_p1_home_cells])), (a_p1_home_cells, .inl (cI, 7, .inl f_p1_home_cells)), (a_p1_wealth, .inr (1, [.ref a_p1_wealth_cells])), (a_p1_wealth_cells, .inl (cI, 7, .inl u14.2))]) (kr_V (As := [.int u2, .int u3]) (rest := []) ⟨hx, hb, hml, hown, hts⟩ hK hN hP hD hl.1 (c_X4_takeBackFrom l dC dI cI cZ a_p1 a_p1_worth a_p1_birth a_p1_home a_p1_kind a_p1_wealth a_p1_worth_cells a_p1_wealth_cells v_p1_houses v_p1_children v_p1_living v_p1_sideBits v_p1_inherited v_p1_theYear f_p1_worth_cells f_p1_wealth_cells u2 u3 u14 hu14 H.size) sg_X4_takeBackFrom ⟨rfl, rfl⟩ ⟨Nat.le_of_ble_eq_true rfl, Nat.le_of_ble_eq_true rfl⟩ gX0_takeLastBack_X4_takeBackFrom 7 rfl rfl rfl [7, 8, 9, 12, 13] (by decide) rfl rfl rfl (Nat.le_of_ble_eq_true rfl) dX0_takeLastBack_126 ⟨Nat.zero_le _, Nat.zero_le _⟩) hA hP hD hS [7, 8, 9, 12, 13] rfl rfl rfl (fun H locs hP hD hS => ?_)
              refine lv_goto (tgt := 142) hx hb dX0_takeLastBack_129 (by decide) ?_
              cases hf
              exact hend _ _ _ _ dX0_takeLastBack_142 hP hS
            · replace hf := kf c13 hf
              have b0 := kst0 (u4).toInt
              have b1 := kst (k' := 1) b0 (lv_neT (a := 0) c5 rfl) (by decide)
              have b2 := kst (k' := 2) b1 (lv_neT (a := 1) c7 rfl) (by decide)
              have b3 := kst (k' := 3) b2 (lv_neT (a := 2) c9 rfl) (by decide)
              have b4 := kst (k' := 4) b3 (lv_neT (a := 3) c11 rfl) (by decide)
              have b5 := kst (k' := 5) b4 (lv_neT (a := 4) c13 rfl) (by decide)
              refine lv_tableOut (tgt := 132) hx hb dX0_takeLastBack_53 (kst_e (hi := 4) b5 (by decide)) (by decide) ?_
              refine lv_aload_n hx hb dX0_takeLastBack_132 rfl (lv_at hl 3 rfl) ?_
              refine lv_dup hx hb dX0_takeLastBack_133 rfl ?_
              refine va_getN (D := (dC, dI)) (ci := 4) (v := .int v_p1_theYear) (C := RX4) (T := TX4) (N := 11) hx hb hts in_X0_takeLastBack_X4 hown hK hP 7 rfl rfl 5 (by decide) hk58 (fun _ h9 => h9) rfl dX0_takeLastBack_134 ?_
              refine lv_iconst (v := (1 : Int32)) hx hb dX0_takeLastBack_137 (by decide) ?_
              refine lv_isub hx hb dX0_takeLastBack_138 ?_
              refine va_putN (D := (dC, dI)) (ci := 4) (v := .int (v_p1_theYear - (1 : Int32))) (ty := .int) (C := RX4) (T := TX4) (N := 11) hx hb hts in_X0_takeLastBack_X4 tyX4 tyX4_ok nmX4 hown hK hP hD hS 7 rfl rfl 5 (by decide) hk58 (fun _ h9 => h9) rfl (by decide +kernel) rfl rfl (Nat.le_of_ble_eq_true rfl) dX0_takeLastBack_139 (fun H locs hP hD hS => ?_)
              have hP : va_P (dC, dI) vwCl [(a_o, .inr (0, [.ref a_o_what, .ref a_o_which, .ref a_o_before, .int (v_o_count - (1 : Int32))])), (a_o_what, .inr (1, [.ref a_o_what_cells])), (a_o_what_cells, .inl (cI, 14, .inl f_o_what_cells)), (a_o_which, .inr (1, [.ref a_o_which_cells])), (a_o_which_cells, .inl (cI, 14, .inl f_o_which_cells)), (a_o_before, .inr (1, [.ref a_o_before_cells])), (a_o_before_cells, .inl (cI, 14, .inl f_o_before_cells)), (a_p1, .inr (4, [.int v_p1_houses, .int v_p1_children, .int v_p1_living, .int v_p1_sideBits, .int v_p1_inherited, .int (v_p1_theYear - (1 : Int32)), .ref a_p1_worth, .ref a_p1_birth, .ref a_p1_home, .ref a_p1_kind, .ref a_p1_wealth])), (a_p1_worth, .inr (1, [.ref a_p1_worth_cells])), (a_p1_worth_cells, .inl (cI, 3, .inl f_p1_worth_cells)), (a_p1_home, .inr (1, [.ref a_p1_home_cells])), (a_p1_home_cells, .inl (cI, 7, .inl f_p1_home_cells)), (a_p1_wealth, .inr (1, [.ref a_p1_wealth_cells])), (a_p1_wealth_cells, .inl (cI, 7, .inl f_p1_wealth_cells))] H := hP
              have hD : va_D A [(a_o, .inr (0, [.ref a_o_what, .ref a_o_which, .ref a_o_before, .int (v_o_count - (1 : Int32))])), (a_o_what, .inr (1, [.ref a_o_what_cells])), (a_o_what_cells, .inl (cI, 14, .inl f_o_what_cells)), (a_o_which, .inr (1, [.ref a_o_which_cells])), (a_o_which_cells, .inl (cI, 14, .inl f_o_which_cells)), (a_o_before, .inr (1, [.ref a_o_before_cells])), (a_o_before_cells, .inl (cI, 14, .inl f_o_before_cells)), (a_p1, .inr (4, [.int v_p1_houses, .int v_p1_children, .int v_p1_living, .int v_p1_sideBits, .int v_p1_inherited, .int (v_p1_theYear - (1 : Int32)), .ref a_p1_worth, .ref a_p1_birth, .ref a_p1_home, .ref a_p1_kind, .ref a_p1_wealth])), (a_p1_worth, .inr (1, [.ref a_p1_worth_cells])), (a_p1_worth_cells, .inl (cI, 3, .inl f_p1_worth_cells)), (a_p1_home, .inr (1, [.ref a_p1_home_cells])), (a_p1_home_cells, .inl (cI, 7, .inl f_p1_home_cells)), (a_p1_wealth, .inr (1, [.ref a_p1_wealth_cells])), (a_p1_wealth_cells, .inl (cI, 7, .inl f_p1_wealth_cells))] := hD
              cases hf
              exact hend _ _ _ _ dX0_takeLastBack_142 hP hS
  · replace hf := kf c1 hf
    cases hf
    exact hend _ _ _ _ dX0_takeLastBack_7 hP hS
theorem sg_X2_add : kSig yX2_add wsX2_add cX2_add 4 (some .int) RX2 3 := ⟨⟨_, rfl⟩, rfl, by decide, by decide +kernel, by decide +kernel, by decide +kernel⟩
abbrev rm_X2_add : Room := { frames := 1, cells := 0, slots := 0, locals := 22 }
set_option maxRecDepth 20000 in
theorem in_X2_add_X2 : ∀ w ∈ u_ws RX2 TX2 4, w ∈ wsX2_add := by decide +kernel
set_option maxHeartbeats 4000000 in
set_option maxRecDepth 100000 in
theorem c_X2_add (l : Launch) (dC : Nat → ClassId) (dI : Nat → Nat → Nat) (cI cZ : ClassId) (a_o a_o_house a_o_child a_o_lived a_o_house_cells a_o_child_cells a_o_lived_cells : Nat) (v_o_count : Int32) (f_o_house_cells : Nat → Int32) (f_o_child_cells : Nat → Int32) (f_o_lived_cells : Nat → Int32) (x1 : Int32) (x2 : Int32) (x3 : Int32) (u : Int32 × Int32 × (Nat → Int32) × (Nat → Int32) × (Nat → Int32)) (hf : f_X2_add v_o_count f_o_house_cells f_o_child_cells f_o_lived_cells x1 x2 x3 = some u) : kMi l yX2_add wsX2_add rm_X2_add (dC, dI) (kTy cI cZ) [.ref a_o, .int x1, .int x2, .int x3] [(a_o, .inr (2, [.ref a_o_house, .ref a_o_child, .ref a_o_lived, .int v_o_count])), (a_o_house, .inr (1, [.ref a_o_house_cells])), (a_o_house_cells, .inl (cI, 6, .inl f_o_house_cells)), (a_o_child, .inr (1, [.ref a_o_child_cells])), (a_o_child_cells, .inl (cI, 6, .inl f_o_child_cells)), (a_o_lived, .inr (1, [.ref a_o_lived_cells])), (a_o_lived_cells, .inl (cI, 6, .inl f_o_lived_cells))] [(a_o, .inr (2, [.ref a_o_house, .ref a_o_child, .ref a_o_lived, .int u.2.1])), (a_o_house, .inr (1, [.ref a_o_house_cells])), (a_o_house_cells, .inl (cI, 6, .inl u.2.2.1)), (a_o_child, .inr (1, [.ref a_o_child_cells])), (a_o_child_cells, .inl (cI, 6, .inl u.2.2.2.1)), (a_o_lived, .inr (1, [.ref a_o_lived_cells])), (a_o_lived_cells, .inl (cI, 6, .inl u.2.2.2.2))] u.1 := by
  refine kMi_of sg_X2_add ⟨rfl, rfl⟩ (Nat.le_of_ble_eq_true rfl) ?_
  intro p e s m args below meth c A H0 Q hx hb hml hown hts hK hN hA hend H locs ls hP hD hS hl
  have hl : lv_has ls 4 [(0, .ref a_o), (1, .int x1), (2, .int x2), (3, .int x3)] := hl
  have hk14 := hts (.fieldLink RX2 14 "YoungestHouse$Sightings" "house" "LYoungestHouse$Row;") (by decide +kernel)
  have hk20 := hts (.fieldLink RX2 20 "YoungestHouse$Sightings" "child" "LYoungestHouse$Row;") (by decide +kernel)
  have hk23 := hts (.fieldLink RX2 23 "YoungestHouse$Sightings" "lived" "LYoungestHouse$Row;") (by decide +kernel)
  have hk26 := hts (.fieldLink RX2 26 "YoungestHouse$Sightings" "count" "I") (by decide +kernel)
  unfold f_X2_add at hf
  refine lv_aload_n hx hb dX2_add_0 rfl (lv_at hl 0 rfl) ?_
  refine va_get (D := (dC, dI)) (ci := 2) (v := .ref a_o_house) (C := RX2) (T := TX2) (N := 4) hx hb hts in_X2_add_X2 hown hK hP 0 rfl rfl 0 (by decide) hk14 (fun _ h9 => h9) rfl dX2_add_1 ?_
  refine lv_aload_n hx hb dX2_add_4 rfl (lv_at hl 0 rfl) ?_
  refine va_get (D := (dC, dI)) (ci := 2) (v := .int v_o_count) (C := RX2) (T := TX2) (N := 4) hx hb hts in_X2_add_X2 hown hK hP 0 rfl rfl 3 (by decide) hk26 (fun _ h9 => h9) rfl dX2_add_5 ?_
  refine lv_iload_n hx hb dX2_add_8 rfl (lv_at hl 1 rfl) ?_
  obtain ⟨u1, hu1, hf⟩ := kb1_e hf
  refine kc_v (wn := [(a_o, .inr (2, [.ref a_o_house, .ref a_o_child, .ref a_o_lived, .int v_o_count])), (a_o_house, .inr (1, [.ref a_o_house_cells])), (a_o_house_cells, .inl (cI, 6, .inl u1)), (a_o_child, .inr (1, [.ref a_o_child_cells])), (a_o_child_cells, .inl (cI, 6, .inl f_o_child_cells)), (a_o_lived, .inr (1, [.ref a_o_lived_cells])), (a_o_lived_cells, .inl (cI, 6, .inl f_o_lived_cells))]) (kr_V (As := [.int v_o_count, .int x1]) (rest := []) ⟨hx, hb, hml, hown, hts⟩ hK hN hP hD hl.1 (c_X1_set l dC dI cI cZ a_o_house a_o_house_cells 6 f_o_house_cells v_o_count x1 u1 hu1 H.size) sg_X1_set ⟨rfl, rfl⟩ ⟨Nat.le_of_ble_eq_true rfl, Nat.le_of_ble_eq_true rfl⟩ gX2_add_X1_set 1 rfl rfl rfl [1, 2] (by decide) rfl rfl rfl (Nat.le_of_ble_eq_true rfl) dX2_add_9 ⟨Nat.zero_le _, Nat.zero_le _⟩) hA hP hD hS [1, 2] rfl rfl rfl (fun H locs hP hD hS => ?_)
  refine lv_aload_n hx hb dX2_add_12 rfl (lv_at hl 0 rfl) ?_
  refine va_get (D := (dC, dI)) (ci := 2) (v := .ref a_o_child) (C := RX2) (T := TX2) (N := 4) hx hb hts in_X2_add_X2 hown hK hP 0 rfl rfl 1 (by decide) hk20 (fun _ h9 => h9) rfl dX2_add_13 ?_
  refine lv_aload_n hx hb dX2_add_16 rfl (lv_at hl 0 rfl) ?_
  refine va_get (D := (dC, dI)) (ci := 2) (v := .int v_o_count) (C := RX2) (T := TX2) (N := 4) hx hb hts in_X2_add_X2 hown hK hP 0 rfl rfl 3 (by decide) hk26 (fun _ h9 => h9) rfl dX2_add_17 ?_
  refine lv_iload_n hx hb dX2_add_20 rfl (lv_at hl 2 rfl) ?_
  obtain ⟨u2, hu2, hf⟩ := kb1_e hf
  refine kc_v (wn := [(a_o, .inr (2, [.ref a_o_house, .ref a_o_child, .ref a_o_lived, .int v_o_count])), (a_o_house, .inr (1, [.ref a_o_house_cells])), (a_o_house_cells, .inl (cI, 6, .inl u1)), (a_o_child, .inr (1, [.ref a_o_child_cells])), (a_o_child_cells, .inl (cI, 6, .inl u2)), (a_o_lived, .inr (1, [.ref a_o_lived_cells])), (a_o_lived_cells, .inl (cI, 6, .inl f_o_lived_cells))]) (kr_V (As := [.int v_o_count, .int x2]) (rest := []) ⟨hx, hb, hml, hown, hts⟩ hK hN hP hD hl.1 (c_X1_set l dC dI cI cZ a_o_child a_o_child_cells 6 f_o_child_cells v_o_count x2 u2 hu2 H.size) sg_X1_set ⟨rfl, rfl⟩ ⟨Nat.le_of_ble_eq_true rfl, Nat.le_of_ble_eq_true rfl⟩ gX2_add_X1_set 3 rfl rfl rfl [3, 4] (by decide) rfl rfl rfl (Nat.le_of_ble_eq_true rfl) dX2_add_21 ⟨Nat.zero_le _, Nat.zero_le _⟩) hA hP hD hS [3, 4] rfl rfl rfl (fun H locs hP hD hS => ?_)
  refine lv_aload_n hx hb dX2_add_24 rfl (lv_at hl 0 rfl) ?_
  refine va_get (D := (dC, dI)) (ci := 2) (v := .ref a_o_lived) (C := RX2) (T := TX2) (N := 4) hx hb hts in_X2_add_X2 hown hK hP 0 rfl rfl 2 (by decide) hk23 (fun _ h9 => h9) rfl dX2_add_25 ?_
  refine lv_aload_n hx hb dX2_add_28 rfl (lv_at hl 0 rfl) ?_
  refine va_get (D := (dC, dI)) (ci := 2) (v := .int v_o_count) (C := RX2) (T := TX2) (N := 4) hx hb hts in_X2_add_X2 hown hK hP 0 rfl rfl 3 (by decide) hk26 (fun _ h9 => h9) rfl dX2_add_29 ?_
  refine lv_iload_n hx hb dX2_add_32 rfl (lv_at hl 3 rfl) ?_
  obtain ⟨u3, hu3, hf⟩ := kb1_e hf
  refine kc_v (wn := [(a_o, .inr (2, [.ref a_o_house, .ref a_o_child, .ref a_o_lived, .int v_o_count])), (a_o_house, .inr (1, [.ref a_o_house_cells])), (a_o_house_cells, .inl (cI, 6, .inl u1)), (a_o_child, .inr (1, [.ref a_o_child_cells])), (a_o_child_cells, .inl (cI, 6, .inl u2)), (a_o_lived, .inr (1, [.ref a_o_lived_cells])), (a_o_lived_cells, .inl (cI, 6, .inl u3))]) (kr_V (As := [.int v_o_count, .int x3]) (rest := []) ⟨hx, hb, hml, hown, hts⟩ hK hN hP hD hl.1 (c_X1_set l dC dI cI cZ a_o_lived a_o_lived_cells 6 f_o_lived_cells v_o_count x3 u3 hu3 H.size) sg_X1_set ⟨rfl, rfl⟩ ⟨Nat.le_of_ble_eq_true rfl, Nat.le_of_ble_eq_true rfl⟩ gX2_add_X1_set 5 rfl rfl rfl [5, 6] (by decide) rfl rfl rfl (Nat.le_of_ble_eq_true rfl) dX2_add_33 ⟨Nat.zero_le _, Nat.zero_le _⟩) hA hP hD hS [5, 6] rfl rfl rfl (fun H locs hP hD hS => ?_)
  refine lv_aload_n hx hb dX2_add_36 rfl (lv_at hl 0 rfl) ?_
  refine lv_dup hx hb dX2_add_37 rfl ?_
  refine va_get (D := (dC, dI)) (ci := 2) (v := .int v_o_count) (C := RX2) (T := TX2) (N := 4) hx hb hts in_X2_add_X2 hown hK hP 0 rfl rfl 3 (by decide) hk26 (fun _ h9 => h9) rfl dX2_add_38 ?_
  refine lv_iconst (v := (1 : Int32)) hx hb dX2_add_41 (by decide) ?_
  refine lv_iadd hx hb dX2_add_42 ?_
  refine va_put (D := (dC, dI)) (ci := 2) (v := .int (v_o_count + (1 : Int32))) (ty := .int) (C := RX2) (T := TX2) (N := 4) hx hb hts in_X2_add_X2 tyX2 tyX2_ok nmX2 hown hK hP hD hS 0 rfl rfl 3 (by decide) hk26 (fun _ h9 => h9) rfl (by decide +kernel) rfl rfl (Nat.le_of_ble_eq_true rfl) dX2_add_43 (fun H locs hP hD hS => ?_)
  have hP : va_P (dC, dI) vwCl [(a_o, .inr (2, [.ref a_o_house, .ref a_o_child, .ref a_o_lived, .int (v_o_count + (1 : Int32))])), (a_o_house, .inr (1, [.ref a_o_house_cells])), (a_o_house_cells, .inl (cI, 6, .inl u1)), (a_o_child, .inr (1, [.ref a_o_child_cells])), (a_o_child_cells, .inl (cI, 6, .inl u2)), (a_o_lived, .inr (1, [.ref a_o_lived_cells])), (a_o_lived_cells, .inl (cI, 6, .inl u3))] H := hP
  have hD : va_D A [(a_o, .inr (2, [.ref a_o_house, .ref a_o_child, .ref a_o_lived, .int (v_o_count + (1 : Int32))])), (a_o_house, .inr (1, [.ref a_o_house_cells])), (a_o_house_cells, .inl (cI, 6, .inl u1)), (a_o_child, .inr (1, [.ref a_o_child_cells])), (a_o_child_cells, .inl (cI, 6, .inl u2)), (a_o_lived, .inr (1, [.ref a_o_lived_cells])), (a_o_lived_cells, .inl (cI, 6, .inl u3))] := hD
  refine lv_aload_n hx hb dX2_add_46 rfl (lv_at hl 0 rfl) ?_
  refine va_get (D := (dC, dI)) (ci := 2) (v := .int (v_o_count + (1 : Int32))) (C := RX2) (T := TX2) (N := 4) hx hb hts in_X2_add_X2 hown hK hP 0 rfl rfl 3 (by decide) hk26 (fun _ h9 => h9) rfl dX2_add_47 ?_
  cases hf
  exact hend _ _ _ _ dX2_add_50 rfl hP hS
theorem sg_X4_hasHouse : kSig yX4_hasHouse wsX4_hasHouse cX4_hasHouse 2 (some .boolean) RX4 1 := ⟨⟨_, rfl⟩, rfl, by decide, by decide +kernel, by decide +kernel, by decide +kernel⟩
abbrev rm_X4_hasHouse : Room := { frames := 0, cells := 0, slots := 0, locals := 0 }
set_option maxRecDepth 20000 in
theorem in_X4_hasHouse_X4 : ∀ w ∈ u_ws RX4 TX4 11, w ∈ wsX4_hasHouse := by decide +kernel
set_option maxHeartbeats 4000000 in
set_option maxRecDepth 100000 in
theorem c_X4_hasHouse (l : Launch) (dC : Nat → ClassId) (dI : Nat → Nat → Nat) (cI cZ : ClassId) (a_o a_o_worth a_o_birth a_o_home a_o_kind a_o_wealth : Nat) (v_o_houses : Int32) (v_o_children : Int32) (v_o_living : Int32) (v_o_sideBits : Int32) (v_o_inherited : Int32) (v_o_theYear : Int32) (x1 : Int32) (u : Int32) (hf : f_X4_hasHouse v_o_houses x1 = some u) : kMi l yX4_hasHouse wsX4_hasHouse rm_X4_hasHouse (dC, dI) (kTy cI cZ) [.ref a_o, .int x1] [(a_o, .inr (4, [.int v_o_houses, .int v_o_children, .int v_o_living, .int v_o_sideBits, .int v_o_inherited, .int v_o_theYear, .ref a_o_worth, .ref a_o_birth, .ref a_o_home, .ref a_o_kind, .ref a_o_wealth]))] [(a_o, .inr (4, [.int v_o_houses, .int v_o_children, .int v_o_living, .int v_o_sideBits, .int v_o_inherited, .int v_o_theYear, .ref a_o_worth, .ref a_o_birth, .ref a_o_home, .ref a_o_kind, .ref a_o_wealth]))] u := by
  refine kMi_of sg_X4_hasHouse ⟨rfl, rfl⟩ (Nat.le_of_ble_eq_true rfl) ?_
  intro p e s m args below meth c A H0 Q hx hb hml hown hts hK hN hA hend H locs ls hP hD hS hl
  have hl : lv_has ls 2 [(0, .ref a_o), (1, .int x1)] := hl
  have hk32 := hts (.fieldLink RX4 32 "YoungestHouse$Town" "houses" "I") (by decide +kernel)
  unfold f_X4_hasHouse at hf
  refine lv_iload_n hx hb dX4_hasHouse_0 rfl (lv_at hl 1 rfl) ?_
  refine lv_if_lt (tgt := 16) hx hb dX4_hasHouse_1 (by decide) (fun c1 => ?_) (fun c1 => ?_)
  · replace hf := kt c1 hf
    refine lv_iconst (v := (0 : Int32)) hx hb dX4_hasHouse_16 (by decide) ?_
    cases hf
    exact hend _ _ _ _ dX4_hasHouse_17 rfl hP hS
  · replace hf := kf c1 hf
    refine lv_iload_n hx hb dX4_hasHouse_4 rfl (lv_at hl 1 rfl) ?_
    refine lv_aload_n hx hb dX4_hasHouse_5 rfl (lv_at hl 0 rfl) ?_
    refine va_get (D := (dC, dI)) (ci := 4) (v := .int v_o_houses) (C := RX4) (T := TX4) (N := 11) hx hb hts in_X4_hasHouse_X4 hown hK hP 0 rfl rfl 0 (by decide) hk32 (fun _ h9 => h9) rfl dX4_hasHouse_6 ?_
    refine lv_icmp_ge (tgt := 16) hx hb dX4_hasHouse_9 (by decide) (fun c2 => ?_) (fun c2 => ?_)
    · replace hf := kt c2 hf
      refine lv_iconst (v := (0 : Int32)) hx hb dX4_hasHouse_16 (by decide) ?_
      cases hf
      exact hend _ _ _ _ dX4_hasHouse_17 rfl hP hS
    · replace hf := kf c2 hf
      refine lv_iconst (v := (1 : Int32)) hx hb dX4_hasHouse_12 (by decide) ?_
      refine lv_goto (tgt := 17) hx hb dX4_hasHouse_13 (by decide) ?_
      cases hf
      exact hend _ _ _ _ dX4_hasHouse_17 rfl hP hS
theorem sg_X4_hasChild : kSig yX4_hasChild wsX4_hasChild cX4_hasChild 2 (some .boolean) RX4 1 := ⟨⟨_, rfl⟩, rfl, by decide, by decide +kernel, by decide +kernel, by decide +kernel⟩
abbrev rm_X4_hasChild : Room := { frames := 0, cells := 0, slots := 0, locals := 0 }
set_option maxRecDepth 20000 in
theorem in_X4_hasChild_X4 : ∀ w ∈ u_ws RX4 TX4 11, w ∈ wsX4_hasChild := by decide +kernel
set_option maxHeartbeats 4000000 in
set_option maxRecDepth 100000 in
theorem c_X4_hasChild (l : Launch) (dC : Nat → ClassId) (dI : Nat → Nat → Nat) (cI cZ : ClassId) (a_o a_o_worth a_o_birth a_o_home a_o_kind a_o_wealth : Nat) (v_o_houses : Int32) (v_o_children : Int32) (v_o_living : Int32) (v_o_sideBits : Int32) (v_o_inherited : Int32) (v_o_theYear : Int32) (x1 : Int32) (u : Int32) (hf : f_X4_hasChild v_o_children x1 = some u) : kMi l yX4_hasChild wsX4_hasChild rm_X4_hasChild (dC, dI) (kTy cI cZ) [.ref a_o, .int x1] [(a_o, .inr (4, [.int v_o_houses, .int v_o_children, .int v_o_living, .int v_o_sideBits, .int v_o_inherited, .int v_o_theYear, .ref a_o_worth, .ref a_o_birth, .ref a_o_home, .ref a_o_kind, .ref a_o_wealth]))] [(a_o, .inr (4, [.int v_o_houses, .int v_o_children, .int v_o_living, .int v_o_sideBits, .int v_o_inherited, .int v_o_theYear, .ref a_o_worth, .ref a_o_birth, .ref a_o_home, .ref a_o_kind, .ref a_o_wealth]))] u := by
  refine kMi_of sg_X4_hasChild ⟨rfl, rfl⟩ (Nat.le_of_ble_eq_true rfl) ?_
  intro p e s m args below meth c A H0 Q hx hb hml hown hts hK hN hA hend H locs ls hP hD hS hl
  have hl : lv_has ls 2 [(0, .ref a_o), (1, .int x1)] := hl
  have hk36 := hts (.fieldLink RX4 36 "YoungestHouse$Town" "children" "I") (by decide +kernel)
  unfold f_X4_hasChild at hf
  refine lv_iload_n hx hb dX4_hasChild_0 rfl (lv_at hl 1 rfl) ?_
  refine lv_if_lt (tgt := 16) hx hb dX4_hasChild_1 (by decide) (fun c1 => ?_) (fun c1 => ?_)
  · replace hf := kt c1 hf
    refine lv_iconst (v := (0 : Int32)) hx hb dX4_hasChild_16 (by decide) ?_
    cases hf
    exact hend _ _ _ _ dX4_hasChild_17 rfl hP hS
  · replace hf := kf c1 hf
    refine lv_iload_n hx hb dX4_hasChild_4 rfl (lv_at hl 1 rfl) ?_
    refine lv_aload_n hx hb dX4_hasChild_5 rfl (lv_at hl 0 rfl) ?_
    refine va_get (D := (dC, dI)) (ci := 4) (v := .int v_o_children) (C := RX4) (T := TX4) (N := 11) hx hb hts in_X4_hasChild_X4 hown hK hP 0 rfl rfl 1 (by decide) hk36 (fun _ h9 => h9) rfl dX4_hasChild_6 ?_
    refine lv_icmp_ge (tgt := 16) hx hb dX4_hasChild_9 (by decide) (fun c2 => ?_) (fun c2 => ?_)
    · replace hf := kt c2 hf
      refine lv_iconst (v := (0 : Int32)) hx hb dX4_hasChild_16 (by decide) ?_
      cases hf
      exact hend _ _ _ _ dX4_hasChild_17 rfl hP hS
    · replace hf := kf c2 hf
      refine lv_iconst (v := (1 : Int32)) hx hb dX4_hasChild_12 (by decide) ?_
      refine lv_goto (tgt := 17) hx hb dX4_hasChild_13 (by decide) ?_
      cases hf
      exact hend _ _ _ _ dX4_hasChild_17 rfl hP hS
theorem sg_X2_isLookedAt : kSig yX2_isLookedAt wsX2_isLookedAt cX2_isLookedAt 3 (some .boolean) RX2 2 := ⟨⟨_, rfl⟩, rfl, by decide, by decide +kernel, by decide +kernel, by decide +kernel⟩
abbrev rm_X2_isLookedAt : Room := { frames := 1, cells := 0, slots := 0, locals := 21 }
set_option maxRecDepth 20000 in
theorem in_X2_isLookedAt_X2 : ∀ w ∈ u_ws RX2 TX2 4, w ∈ wsX2_isLookedAt := by decide +kernel
set_option maxRecDepth 20000 in
theorem in_X2_isLookedAt_X4 : ∀ w ∈ u_ws RX4 TX4 11, w ∈ wsX2_isLookedAt := by decide +kernel
set_option maxHeartbeats 4000000 in
set_option maxRecDepth 100000 in
theorem c_X2_isLookedAt (l : Launch) (dC : Nat → ClassId) (dI : Nat → Nat → Nat) (cI cZ : ClassId) (a_o a_o_house a_o_child a_o_lived a_o_house_cells a_o_child_cells a_o_lived_cells a_p1 a_p1_worth a_p1_birth a_p1_home a_p1_kind a_p1_wealth : Nat) (v_o_count : Int32) (f_o_house_cells : Nat → Int32) (f_o_child_cells : Nat → Int32) (f_o_lived_cells : Nat → Int32) (v_p1_houses : Int32) (v_p1_children : Int32) (v_p1_living : Int32) (v_p1_sideBits : Int32) (v_p1_inherited : Int32) (v_p1_theYear : Int32) (x2 : Int32) (u : Int32) (hf : f_X2_isLookedAt f_o_house_cells f_o_child_cells f_o_lived_cells v_p1_houses v_p1_children x2 = some u) : kMi l yX2_isLookedAt wsX2_isLookedAt rm_X2_isLookedAt (dC, dI) (kTy cI cZ) [.ref a_o, .ref a_p1, .int x2] [(a_o, .inr (2, [.ref a_o_house, .ref a_o_child, .ref a_o_lived, .int v_o_count])), (a_o_house, .inr (1, [.ref a_o_house_cells])), (a_o_house_cells, .inl (cI, 6, .inl f_o_house_cells)), (a_o_child, .inr (1, [.ref a_o_child_cells])), (a_o_child_cells, .inl (cI, 6, .inl f_o_child_cells)), (a_o_lived, .inr (1, [.ref a_o_lived_cells])), (a_o_lived_cells, .inl (cI, 6, .inl f_o_lived_cells)), (a_p1, .inr (4, [.int v_p1_houses, .int v_p1_children, .int v_p1_living, .int v_p1_sideBits, .int v_p1_inherited, .int v_p1_theYear, .ref a_p1_worth, .ref a_p1_birth, .ref a_p1_home, .ref a_p1_kind, .ref a_p1_wealth]))] [(a_o, .inr (2, [.ref a_o_house, .ref a_o_child, .ref a_o_lived, .int v_o_count])), (a_o_house, .inr (1, [.ref a_o_house_cells])), (a_o_house_cells, .inl (cI, 6, .inl f_o_house_cells)), (a_o_child, .inr (1, [.ref a_o_child_cells])), (a_o_child_cells, .inl (cI, 6, .inl f_o_child_cells)), (a_o_lived, .inr (1, [.ref a_o_lived_cells])), (a_o_lived_cells, .inl (cI, 6, .inl f_o_lived_cells)), (a_p1, .inr (4, [.int v_p1_houses, .int v_p1_children, .int v_p1_living, .int v_p1_sideBits, .int v_p1_inherited, .int v_p1_theYear, .ref a_p1_worth, .ref a_p1_birth, .ref a_p1_home, .ref a_p1_kind, .ref a_p1_wealth]))] u := by
  refine kMi_of sg_X2_isLookedAt ⟨rfl, rfl⟩ (Nat.le_of_ble_eq_true rfl) ?_
  intro p e s m args below meth c A H0 Q hx hb hml hown hts hK hN hA hend H locs ls hP hD hS hl
  have hl : lv_has ls 3 [(0, .ref a_o), (1, .ref a_p1), (2, .int x2)] := hl
  have hk14 := hts (.fieldLink RX2 14 "YoungestHouse$Sightings" "house" "LYoungestHouse$Row;") (by decide +kernel)
  have hk20 := hts (.fieldLink RX2 20 "YoungestHouse$Sightings" "child" "LYoungestHouse$Row;") (by decide +kernel)
  have hk23 := hts (.fieldLink RX2 23 "YoungestHouse$Sightings" "lived" "LYoungestHouse$Row;") (by decide +kernel)
  have hk69 := va_Nw.use (A := args) rfl (hN (.fieldLinkNest RX2 69 RX4 "children" "I" RX5) (by decide +kernel))
  unfold f_X2_isLookedAt at hf
  refine lv_aload_n hx hb dX2_isLookedAt_0 rfl (lv_at hl 1 rfl) ?_
  refine lv_aload_n hx hb dX2_isLookedAt_1 rfl (lv_at hl 0 rfl) ?_
  refine va_get (D := (dC, dI)) (ci := 2) (v := .ref a_o_house) (C := RX2) (T := TX2) (N := 4) hx hb hts in_X2_isLookedAt_X2 hown hK hP 0 rfl rfl 0 (by decide) hk14 (fun _ h9 => h9) rfl dX2_isLookedAt_2 ?_
  refine lv_iload_n hx hb dX2_isLookedAt_5 rfl (lv_at hl 2 rfl) ?_
  obtain ⟨u1, hu1, hf⟩ := kb1_e hf
  refine kc_i (wn := [(a_o, .inr (2, [.ref a_o_house, .ref a_o_child, .ref a_o_lived, .int v_o_count])), (a_o_house, .inr (1, [.ref a_o_house_cells])), (a_o_house_cells, .inl (cI, 6, .inl f_o_house_cells)), (a_o_child, .inr (1, [.ref a_o_child_cells])), (a_o_child_cells, .inl (cI, 6, .inl f_o_child_cells)), (a_o_lived, .inr (1, [.ref a_o_lived_cells])), (a_o_lived_cells, .inl (cI, 6, .inl f_o_lived_cells)), (a_p1, .inr (4, [.int v_p1_houses, .int v_p1_children, .int v_p1_living, .int v_p1_sideBits, .int v_p1_inherited, .int v_p1_theYear, .ref a_p1_worth, .ref a_p1_birth, .ref a_p1_home, .ref a_p1_kind, .ref a_p1_wealth]))]) (kr_V (As := [.int x2]) (rest := [.ref a_p1]) ⟨hx, hb, hml, hown, hts⟩ hK hN hP hD hl.1 (c_X1_get l dC dI cI cZ a_o_house a_o_house_cells 6 f_o_house_cells x2 u1 hu1 H.size) sg_X1_get ⟨rfl, rfl⟩ ⟨Nat.le_of_ble_eq_true rfl, Nat.le_of_ble_eq_true rfl⟩ gX2_isLookedAt_X1_get 1 rfl rfl rfl [1, 2] (by decide) rfl rfl rfl (Nat.le_of_ble_eq_true rfl) dX2_isLookedAt_6 ⟨Nat.zero_le _, Nat.zero_le _⟩) hA hP hD hS [1, 2] rfl rfl rfl (fun H locs hP hD hS => ?_)
  obtain ⟨u2, hu2, hf⟩ := kb1_e hf
  refine kc_i (wn := [(a_o, .inr (2, [.ref a_o_house, .ref a_o_child, .ref a_o_lived, .int v_o_count])), (a_o_house, .inr (1, [.ref a_o_house_cells])), (a_o_house_cells, .inl (cI, 6, .inl f_o_house_cells)), (a_o_child, .inr (1, [.ref a_o_child_cells])), (a_o_child_cells, .inl (cI, 6, .inl f_o_child_cells)), (a_o_lived, .inr (1, [.ref a_o_lived_cells])), (a_o_lived_cells, .inl (cI, 6, .inl f_o_lived_cells)), (a_p1, .inr (4, [.int v_p1_houses, .int v_p1_children, .int v_p1_living, .int v_p1_sideBits, .int v_p1_inherited, .int v_p1_theYear, .ref a_p1_worth, .ref a_p1_birth, .ref a_p1_home, .ref a_p1_kind, .ref a_p1_wealth]))]) (kr_V (As := [.int u1]) (rest := []) ⟨hx, hb, hml, hown, hts⟩ hK hN hP hD hl.1 (c_X4_hasHouse l dC dI cI cZ a_p1 a_p1_worth a_p1_birth a_p1_home a_p1_kind a_p1_wealth v_p1_houses v_p1_children v_p1_living v_p1_sideBits v_p1_inherited v_p1_theYear u1 u2 hu2 H.size) sg_X4_hasHouse ⟨rfl, rfl⟩ ⟨Nat.le_of_ble_eq_true rfl, Nat.le_of_ble_eq_true rfl⟩ gX2_isLookedAt_X4_hasHouse 7 rfl rfl rfl [7] (by decide) rfl rfl rfl (Nat.le_of_ble_eq_true rfl) dX2_isLookedAt_9 ⟨Nat.zero_le _, Nat.zero_le _⟩) hA hP hD hS [7] rfl rfl rfl (fun H locs hP hD hS => ?_)
  refine lv_if_eq (tgt := 52) hx hb dX2_isLookedAt_12 (by decide) (fun c3 => ?_) (fun c3 => ?_)
  · replace hf := kt c3 hf
    refine lv_iconst (v := (0 : Int32)) hx hb dX2_isLookedAt_52 (by decide) ?_
    cases hf
    exact hend _ _ _ _ dX2_isLookedAt_53 rfl hP hS
  · replace hf := kf c3 hf
    refine lv_aload_n hx hb dX2_isLookedAt_15 rfl (lv_at hl 1 rfl) ?_
    refine lv_aload_n hx hb dX2_isLookedAt_16 rfl (lv_at hl 0 rfl) ?_
    refine va_get (D := (dC, dI)) (ci := 2) (v := .ref a_o_child) (C := RX2) (T := TX2) (N := 4) hx hb hts in_X2_isLookedAt_X2 hown hK hP 0 rfl rfl 1 (by decide) hk20 (fun _ h9 => h9) rfl dX2_isLookedAt_17 ?_
    refine lv_iload_n hx hb dX2_isLookedAt_20 rfl (lv_at hl 2 rfl) ?_
    obtain ⟨u4, hu4, hf⟩ := kb1_e hf
    refine kc_i (wn := [(a_o, .inr (2, [.ref a_o_house, .ref a_o_child, .ref a_o_lived, .int v_o_count])), (a_o_house, .inr (1, [.ref a_o_house_cells])), (a_o_house_cells, .inl (cI, 6, .inl f_o_house_cells)), (a_o_child, .inr (1, [.ref a_o_child_cells])), (a_o_child_cells, .inl (cI, 6, .inl f_o_child_cells)), (a_o_lived, .inr (1, [.ref a_o_lived_cells])), (a_o_lived_cells, .inl (cI, 6, .inl f_o_lived_cells)), (a_p1, .inr (4, [.int v_p1_houses, .int v_p1_children, .int v_p1_living, .int v_p1_sideBits, .int v_p1_inherited, .int v_p1_theYear, .ref a_p1_worth, .ref a_p1_birth, .ref a_p1_home, .ref a_p1_kind, .ref a_p1_wealth]))]) (kr_V (As := [.int x2]) (rest := [.ref a_p1]) ⟨hx, hb, hml, hown, hts⟩ hK hN hP hD hl.1 (c_X1_get l dC dI cI cZ a_o_child a_o_child_cells 6 f_o_child_cells x2 u4 hu4 H.size) sg_X1_get ⟨rfl, rfl⟩ ⟨Nat.le_of_ble_eq_true rfl, Nat.le_of_ble_eq_true rfl⟩ gX2_isLookedAt_X1_get 3 rfl rfl rfl [3, 4] (by decide) rfl rfl rfl (Nat.le_of_ble_eq_true rfl) dX2_isLookedAt_21 ⟨Nat.zero_le _, Nat.zero_le _⟩) hA hP hD hS [3, 4] rfl rfl rfl (fun H locs hP hD hS => ?_)
    obtain ⟨u5, hu5, hf⟩ := kb1_e hf
    refine kc_i (wn := [(a_o, .inr (2, [.ref a_o_house, .ref a_o_child, .ref a_o_lived, .int v_o_count])), (a_o_house, .inr (1, [.ref a_o_house_cells])), (a_o_house_cells, .inl (cI, 6, .inl f_o_house_cells)), (a_o_child, .inr (1, [.ref a_o_child_cells])), (a_o_child_cells, .inl (cI, 6, .inl f_o_child_cells)), (a_o_lived, .inr (1, [.ref a_o_lived_cells])), (a_o_lived_cells, .inl (cI, 6, .inl f_o_lived_cells)), (a_p1, .inr (4, [.int v_p1_houses, .int v_p1_children, .int v_p1_living, .int v_p1_sideBits, .int v_p1_inherited, .int v_p1_theYear, .ref a_p1_worth, .ref a_p1_birth, .ref a_p1_home, .ref a_p1_kind, .ref a_p1_wealth]))]) (kr_V (As := [.int u4]) (rest := []) ⟨hx, hb, hml, hown, hts⟩ hK hN hP hD hl.1 (c_X4_hasChild l dC dI cI cZ a_p1 a_p1_worth a_p1_birth a_p1_home a_p1_kind a_p1_wealth v_p1_houses v_p1_children v_p1_living v_p1_sideBits v_p1_inherited v_p1_theYear u4 u5 hu5 H.size) sg_X4_hasChild ⟨rfl, rfl⟩ ⟨Nat.le_of_ble_eq_true rfl, Nat.le_of_ble_eq_true rfl⟩ gX2_isLookedAt_X4_hasChild 7 rfl rfl rfl [7] (by decide) rfl rfl rfl (Nat.le_of_ble_eq_true rfl) dX2_isLookedAt_24 ⟨Nat.zero_le _, Nat.zero_le _⟩) hA hP hD hS [7] rfl rfl rfl (fun H locs hP hD hS => ?_)
    refine lv_if_eq (tgt := 52) hx hb dX2_isLookedAt_27 (by decide) (fun c6 => ?_) (fun c6 => ?_)
    · replace hf := kt c6 hf
      refine lv_iconst (v := (0 : Int32)) hx hb dX2_isLookedAt_52 (by decide) ?_
      cases hf
      exact hend _ _ _ _ dX2_isLookedAt_53 rfl hP hS
    · replace hf := kf c6 hf
      refine lv_aload_n hx hb dX2_isLookedAt_30 rfl (lv_at hl 0 rfl) ?_
      refine va_get (D := (dC, dI)) (ci := 2) (v := .ref a_o_lived) (C := RX2) (T := TX2) (N := 4) hx hb hts in_X2_isLookedAt_X2 hown hK hP 0 rfl rfl 2 (by decide) hk23 (fun _ h9 => h9) rfl dX2_isLookedAt_31 ?_
      refine lv_iload_n hx hb dX2_isLookedAt_34 rfl (lv_at hl 2 rfl) ?_
      obtain ⟨u7, hu7, hf⟩ := kb1_e hf
      refine kc_i (wn := [(a_o, .inr (2, [.ref a_o_house, .ref a_o_child, .ref a_o_lived, .int v_o_count])), (a_o_house, .inr (1, [.ref a_o_house_cells])), (a_o_house_cells, .inl (cI, 6, .inl f_o_house_cells)), (a_o_child, .inr (1, [.ref a_o_child_cells])), (a_o_child_cells, .inl (cI, 6, .inl f_o_child_cells)), (a_o_lived, .inr (1, [.ref a_o_lived_cells])), (a_o_lived_cells, .inl (cI, 6, .inl f_o_lived_cells)), (a_p1, .inr (4, [.int v_p1_houses, .int v_p1_children, .int v_p1_living, .int v_p1_sideBits, .int v_p1_inherited, .int v_p1_theYear, .ref a_p1_worth, .ref a_p1_birth, .ref a_p1_home, .ref a_p1_kind, .ref a_p1_wealth]))]) (kr_V (As := [.int x2]) (rest := []) ⟨hx, hb, hml, hown, hts⟩ hK hN hP hD hl.1 (c_X1_get l dC dI cI cZ a_o_lived a_o_lived_cells 6 f_o_lived_cells x2 u7 hu7 H.size) sg_X1_get ⟨rfl, rfl⟩ ⟨Nat.le_of_ble_eq_true rfl, Nat.le_of_ble_eq_true rfl⟩ gX2_isLookedAt_X1_get 5 rfl rfl rfl [5, 6] (by decide) rfl rfl rfl (Nat.le_of_ble_eq_true rfl) dX2_isLookedAt_35 ⟨Nat.zero_le _, Nat.zero_le _⟩) hA hP hD hS [5, 6] rfl rfl rfl (fun H locs hP hD hS => ?_)
      refine lv_aload_n hx hb dX2_isLookedAt_38 rfl (lv_at hl 1 rfl) ?_
      refine va_getN (D := (dC, dI)) (ci := 4) (v := .int v_p1_children) (C := RX4) (T := TX4) (N := 11) hx hb hts in_X2_isLookedAt_X4 hown hK hP 7 rfl rfl 1 (by decide) hk69 (fun _ h9 => h9) rfl dX2_isLookedAt_39 ?_
      obtain ⟨u8, hu8, hf⟩ := kb1_e hf
      refine kc_i (wn := [(a_o, .inr (2, [.ref a_o_house, .ref a_o_child, .ref a_o_lived, .int v_o_count])), (a_o_house, .inr (1, [.ref a_o_house_cells])), (a_o_house_cells, .inl (cI, 6, .inl f_o_house_cells)), (a_o_child, .inr (1, [.ref a_o_child_cells])), (a_o_child_cells, .inl (cI, 6, .inl f_o_child_cells)), (a_o_lived, .inr (1, [.ref a_o_lived_cells])), (a_o_lived_cells, .inl (cI, 6, .inl f_o_lived_cells)), (a_p1, .inr (4, [.int v_p1_houses, .int v_p1_children, .int v_p1_living, .int v_p1_sideBits, .int v_p1_inherited, .int v_p1_theYear, .ref a_p1_worth, .ref a_p1_birth, .ref a_p1_home, .ref a_p1_kind, .ref a_p1_wealth]))]) (kr_N (host := RX5) (As := [.int v_p1_children]) (rest := [.int u7]) ⟨hx, hb, hml, hown, hts⟩ hK hN hP hD hl.1 (c_X5_bit l dC dI cI cZ v_p1_children u8 hu8 H.size) sg_X5_bit ⟨rfl, rfl⟩ ⟨Nat.le_of_ble_eq_true rfl, Nat.le_of_ble_eq_true rfl⟩ gX2_isLookedAt_X5_bit_n39 (by decide +kernel) (by decide +kernel) (by decide +kernel) [] (by decide) rfl rfl rfl (Nat.le_of_ble_eq_true rfl) dX2_isLookedAt_42 ⟨Nat.zero_le _, Nat.zero_le _⟩) hA hP hD hS [] rfl rfl rfl (fun H locs hP hD hS => ?_)
      refine lv_icmp_ge (tgt := 52) hx hb dX2_isLookedAt_45 (by decide) (fun c9 => ?_) (fun c9 => ?_)
      · replace hf := kt c9 hf
        refine lv_iconst (v := (0 : Int32)) hx hb dX2_isLookedAt_52 (by decide) ?_
        cases hf
        exact hend _ _ _ _ dX2_isLookedAt_53 rfl hP hS
      · replace hf := kf c9 hf
        refine lv_iconst (v := (1 : Int32)) hx hb dX2_isLookedAt_48 (by decide) ?_
        refine lv_goto (tgt := 53) hx hb dX2_isLookedAt_49 (by decide) ?_
        cases hf
        exact hend _ _ _ _ dX2_isLookedAt_53 rfl hP hS
theorem sg_X4_isOlder : kSig yX4_isOlder wsX4_isOlder cX4_isOlder 4 (some .boolean) RX4 2 := ⟨⟨_, rfl⟩, rfl, by decide, by decide +kernel, by decide +kernel, by decide +kernel⟩
abbrev rm_X4_isOlder : Room := { frames := 1, cells := 0, slots := 0, locals := 21 }
set_option maxRecDepth 20000 in
theorem in_X4_isOlder_X4 : ∀ w ∈ u_ws RX4 TX4 11, w ∈ wsX4_isOlder := by decide +kernel
set_option maxHeartbeats 4000000 in
set_option maxRecDepth 100000 in
theorem c_X4_isOlder (l : Launch) (dC : Nat → ClassId) (dI : Nat → Nat → Nat) (cI cZ : ClassId) (a_o a_o_worth a_o_birth a_o_home a_o_kind a_o_wealth a_o_birth_cells a_o_kind_cells : Nat) (v_o_houses : Int32) (v_o_children : Int32) (v_o_living : Int32) (v_o_sideBits : Int32) (v_o_inherited : Int32) (v_o_theYear : Int32) (f_o_birth_cells : Nat → Int32) (f_o_kind_cells : Nat → Int32) (x1 : Int32) (x2 : Int32) (u : Int32) (hf : f_X4_isOlder f_o_birth_cells f_o_kind_cells x1 x2 = some u) : kMi l yX4_isOlder wsX4_isOlder rm_X4_isOlder (dC, dI) (kTy cI cZ) [.ref a_o, .int x1, .int x2] [(a_o, .inr (4, [.int v_o_houses, .int v_o_children, .int v_o_living, .int v_o_sideBits, .int v_o_inherited, .int v_o_theYear, .ref a_o_worth, .ref a_o_birth, .ref a_o_home, .ref a_o_kind, .ref a_o_wealth])), (a_o_birth, .inr (1, [.ref a_o_birth_cells])), (a_o_birth_cells, .inl (cI, 7, .inl f_o_birth_cells)), (a_o_kind, .inr (1, [.ref a_o_kind_cells])), (a_o_kind_cells, .inl (cI, 7, .inl f_o_kind_cells))] [(a_o, .inr (4, [.int v_o_houses, .int v_o_children, .int v_o_living, .int v_o_sideBits, .int v_o_inherited, .int v_o_theYear, .ref a_o_worth, .ref a_o_birth, .ref a_o_home, .ref a_o_kind, .ref a_o_wealth])), (a_o_birth, .inr (1, [.ref a_o_birth_cells])), (a_o_birth_cells, .inl (cI, 7, .inl f_o_birth_cells)), (a_o_kind, .inr (1, [.ref a_o_kind_cells])), (a_o_kind_cells, .inl (cI, 7, .inl f_o_kind_cells))] u := by
  refine kMi_of sg_X4_isOlder ⟨rfl, rfl⟩ (Nat.le_of_ble_eq_true rfl) ?_
  intro p e s m args below meth c A H0 Q hx hb hml hown hts hK hN hA hend H locs ls hP hD hS hl
  have hl : lv_has ls 4 [(0, .ref a_o), (1, .int x1), (2, .int x2)] := hl
  have hk20 := hts (.fieldLink RX4 20 "YoungestHouse$Town" "birth" "LYoungestHouse$Row;") (by decide +kernel)
  have hk26 := hts (.fieldLink RX4 26 "YoungestHouse$Town" "kind" "LYoungestHouse$Row;") (by decide +kernel)
  have J_80 : ∀ (x3 : Int32) (t0 : Int32) (t1 : Int32) (H : Heap) (locs : List Loc) (ls : Array Slot), va_P (dC, dI) vwCl [(a_o, .inr (4, [.int v_o_houses, .int v_o_children, .int v_o_living, .int v_o_sideBits, .int v_o_inherited, .int v_o_theYear, .ref a_o_worth, .ref a_o_birth, .ref a_o_home, .ref a_o_kind, .ref a_o_wealth])), (a_o_birth, .inr (1, [.ref a_o_birth_cells])), (a_o_birth_cells, .inl (cI, 7, .inl f_o_birth_cells)), (a_o_kind, .inr (1, [.ref a_o_kind_cells])), (a_o_kind_cells, .inl (cI, 7, .inl f_o_kind_cells))] H → va_D A [(a_o, .inr (4, [.int v_o_houses, .int v_o_children, .int v_o_living, .int v_o_sideBits, .int v_o_inherited, .int v_o_theYear, .ref a_o_worth, .ref a_o_birth, .ref a_o_home, .ref a_o_kind, .ref a_o_wealth])), (a_o_birth, .inr (1, [.ref a_o_birth_cells])), (a_o_birth_cells, .inl (cI, 7, .inl f_o_birth_cells)), (a_o_kind, .inr (1, [.ref a_o_kind_cells])), (a_o_kind_cells, .inl (cI, 7, .inl f_o_kind_cells))] → va_S A H0 H locs → lv_has ls 4 [(0, .ref a_o), (1, .int x1), (2, .int x2), (3, .int x3)] → f_X4_isOlder_80 f_o_birth_cells f_o_kind_cells x1 x2 x3 t0 t1 = some u → W p l e rm_X4_isOlder s m args below meth c H locs 0 0 Q (F0 m 80 ls [.int t1, .int t0]) := by
    intro x3 t0 t1 H locs ls hP hD hS hl hf
    unfold f_X4_isOlder_80 at hf
    refine lv_icmp_eq (tgt := 85) hx hb dX4_isOlder_80 (by decide) (fun c1 => ?_) (fun c1 => ?_)
    · replace hf := kt c1 hf
      refine lv_iload_n hx hb dX4_isOlder_85 rfl (lv_at hl 1 rfl) ?_
      refine lv_iload_n hx hb dX4_isOlder_86 rfl (lv_at hl 2 rfl) ?_
      refine lv_icmp_ge (tgt := 94) hx hb dX4_isOlder_87 (by decide) (fun c2 => ?_) (fun c2 => ?_)
      · replace hf := kt c2 hf
        refine lv_iconst (v := (0 : Int32)) hx hb dX4_isOlder_94 (by decide) ?_
        cases hf
        exact hend _ _ _ _ dX4_isOlder_95 rfl hP hS
      · replace hf := kf c2 hf
        refine lv_iconst (v := (1 : Int32)) hx hb dX4_isOlder_90 (by decide) ?_
        refine lv_goto (tgt := 95) hx hb dX4_isOlder_91 (by decide) ?_
        cases hf
        exact hend _ _ _ _ dX4_isOlder_95 rfl hP hS
    · replace hf := kf c1 hf
      refine lv_iload_n hx hb dX4_isOlder_83 rfl (lv_at hl 3 rfl) ?_
      obtain ⟨hg3, hf⟩ := kg_e hf
      cases hf
      exact hend _ _ _ _ dX4_isOlder_84 (kbo_e hg3) hP hS
  have J_61 : ∀ (t0 : Int32) (H : Heap) (locs : List Loc) (ls : Array Slot), va_P (dC, dI) vwCl [(a_o, .inr (4, [.int v_o_houses, .int v_o_children, .int v_o_living, .int v_o_sideBits, .int v_o_inherited, .int v_o_theYear, .ref a_o_worth, .ref a_o_birth, .ref a_o_home, .ref a_o_kind, .ref a_o_wealth])), (a_o_birth, .inr (1, [.ref a_o_birth_cells])), (a_o_birth_cells, .inl (cI, 7, .inl f_o_birth_cells)), (a_o_kind, .inr (1, [.ref a_o_kind_cells])), (a_o_kind_cells, .inl (cI, 7, .inl f_o_kind_cells))] H → va_D A [(a_o, .inr (4, [.int v_o_houses, .int v_o_children, .int v_o_living, .int v_o_sideBits, .int v_o_inherited, .int v_o_theYear, .ref a_o_worth, .ref a_o_birth, .ref a_o_home, .ref a_o_kind, .ref a_o_wealth])), (a_o_birth, .inr (1, [.ref a_o_birth_cells])), (a_o_birth_cells, .inl (cI, 7, .inl f_o_birth_cells)), (a_o_kind, .inr (1, [.ref a_o_kind_cells])), (a_o_kind_cells, .inl (cI, 7, .inl f_o_kind_cells))] → va_S A H0 H locs → lv_has ls 4 [(0, .ref a_o), (1, .int x1), (2, .int x2)] → f_X4_isOlder_61 f_o_birth_cells f_o_kind_cells x1 x2 t0 = some u → W p l e rm_X4_isOlder s m args below meth c H locs 0 0 Q (F0 m 61 ls [.int t0]) := by
    intro t0 H locs ls hP hD hS hl hf
    unfold f_X4_isOlder_61 at hf
    refine lv_istore_n (lv' := [(3, .int t0), (0, .ref a_o), (1, .int x1), (2, .int x2)]) hx hb dX4_isOlder_61 rfl hl (by decide) rfl (fun ls hl => ?_)
    refine lv_iload_n hx hb dX4_isOlder_62 rfl (lv_at hl 0 rfl) ?_
    refine lv_aload_n hx hb dX4_isOlder_63 rfl (lv_at hl 1 rfl) ?_
    refine va_get (D := (dC, dI)) (ci := 4) (v := .ref a_o_kind) (C := RX4) (T := TX4) (N := 11) hx hb hts in_X4_isOlder_X4 hown hK hP 0 rfl rfl 9 (by decide) hk26 (fun _ h9 => h9) rfl dX4_isOlder_64 ?_
    refine lv_iload_n hx hb dX4_isOlder_67 rfl (lv_at hl 3 rfl) ?_
    obtain ⟨u4, hu4, hf⟩ := kb1_e hf
    refine kc_i (wn := [(a_o, .inr (4, [.int v_o_houses, .int v_o_children, .int v_o_living, .int v_o_sideBits, .int v_o_inherited, .int v_o_theYear, .ref a_o_worth, .ref a_o_birth, .ref a_o_home, .ref a_o_kind, .ref a_o_wealth])), (a_o_birth, .inr (1, [.ref a_o_birth_cells])), (a_o_birth_cells, .inl (cI, 7, .inl f_o_birth_cells)), (a_o_kind, .inr (1, [.ref a_o_kind_cells])), (a_o_kind_cells, .inl (cI, 7, .inl f_o_kind_cells))]) (kr_V (As := [.int x2]) (rest := [.int t0]) ⟨hx, hb, hml, hown, hts⟩ hK hN hP hD hl.1 (c_X1_get l dC dI cI cZ a_o_kind a_o_kind_cells 7 f_o_kind_cells x2 u4 hu4 H.size) sg_X1_get ⟨rfl, rfl⟩ ⟨Nat.le_of_ble_eq_true rfl, Nat.le_of_ble_eq_true rfl⟩ gX4_isOlder_X1_get 3 rfl rfl rfl [3, 4] (by decide) rfl rfl rfl (Nat.le_of_ble_eq_true rfl) dX4_isOlder_68 ⟨Nat.zero_le _, Nat.zero_le _⟩) hA hP hD hS [3, 4] rfl rfl rfl (fun H locs hP hD hS => ?_)
    refine lv_iconst (v := (1 : Int32)) hx hb dX4_isOlder_71 (by decide) ?_
    refine lv_icmp_ne (tgt := 79) hx hb dX4_isOlder_72 (by decide) (fun c5 => ?_) (fun c5 => ?_)
    · replace hf := kf c5 hf
      refine lv_iconst (v := (0 : Int32)) hx hb dX4_isOlder_79 (by decide) ?_
      exact J_80 t0 t0 (0 : Int32) H locs ls hP hD hS (lv_sub hl [1, 2, 3, 0] rfl) hf
    · replace hf := kt c5 hf
      refine lv_iconst (v := (1 : Int32)) hx hb dX4_isOlder_75 (by decide) ?_
      refine lv_goto (tgt := 80) hx hb dX4_isOlder_76 (by decide) ?_
      exact J_80 t0 t0 (1 : Int32) H locs ls hP hD hS (lv_sub hl [1, 2, 3, 0] rfl) hf
  unfold f_X4_isOlder at hf
  refine lv_aload_n hx hb dX4_isOlder_0 rfl (lv_at hl 0 rfl) ?_
  refine va_get (D := (dC, dI)) (ci := 4) (v := .ref a_o_birth) (C := RX4) (T := TX4) (N := 11) hx hb hts in_X4_isOlder_X4 hown hK hP 0 rfl rfl 7 (by decide) hk20 (fun _ h9 => h9) rfl dX4_isOlder_1 ?_
  refine lv_iload_n hx hb dX4_isOlder_4 rfl (lv_at hl 1 rfl) ?_
  obtain ⟨u6, hu6, hf⟩ := kb1_e hf
  refine kc_i (wn := [(a_o, .inr (4, [.int v_o_houses, .int v_o_children, .int v_o_living, .int v_o_sideBits, .int v_o_inherited, .int v_o_theYear, .ref a_o_worth, .ref a_o_birth, .ref a_o_home, .ref a_o_kind, .ref a_o_wealth])), (a_o_birth, .inr (1, [.ref a_o_birth_cells])), (a_o_birth_cells, .inl (cI, 7, .inl f_o_birth_cells)), (a_o_kind, .inr (1, [.ref a_o_kind_cells])), (a_o_kind_cells, .inl (cI, 7, .inl f_o_kind_cells))]) (kr_V (As := [.int x1]) (rest := []) ⟨hx, hb, hml, hown, hts⟩ hK hN hP hD hl.1 (c_X1_get l dC dI cI cZ a_o_birth a_o_birth_cells 7 f_o_birth_cells x1 u6 hu6 H.size) sg_X1_get ⟨rfl, rfl⟩ ⟨Nat.le_of_ble_eq_true rfl, Nat.le_of_ble_eq_true rfl⟩ gX4_isOlder_X1_get 1 rfl rfl rfl [1, 2] (by decide) rfl rfl rfl (Nat.le_of_ble_eq_true rfl) dX4_isOlder_5 ⟨Nat.zero_le _, Nat.zero_le _⟩) hA hP hD hS [1, 2] rfl rfl rfl (fun H locs hP hD hS => ?_)
  refine lv_aload_n hx hb dX4_isOlder_8 rfl (lv_at hl 0 rfl) ?_
  refine va_get (D := (dC, dI)) (ci := 4) (v := .ref a_o_birth) (C := RX4) (T := TX4) (N := 11) hx hb hts in_X4_isOlder_X4 hown hK hP 0 rfl rfl 7 (by decide) hk20 (fun _ h9 => h9) rfl dX4_isOlder_9 ?_
  refine lv_iload_n hx hb dX4_isOlder_12 rfl (lv_at hl 2 rfl) ?_
  obtain ⟨u7, hu7, hf⟩ := kb1_e hf
  refine kc_i (wn := [(a_o, .inr (4, [.int v_o_houses, .int v_o_children, .int v_o_living, .int v_o_sideBits, .int v_o_inherited, .int v_o_theYear, .ref a_o_worth, .ref a_o_birth, .ref a_o_home, .ref a_o_kind, .ref a_o_wealth])), (a_o_birth, .inr (1, [.ref a_o_birth_cells])), (a_o_birth_cells, .inl (cI, 7, .inl f_o_birth_cells)), (a_o_kind, .inr (1, [.ref a_o_kind_cells])), (a_o_kind_cells, .inl (cI, 7, .inl f_o_kind_cells))]) (kr_V (As := [.int x2]) (rest := [.int u6]) ⟨hx, hb, hml, hown, hts⟩ hK hN hP hD hl.1 (c_X1_get l dC dI cI cZ a_o_birth a_o_birth_cells 7 f_o_birth_cells x2 u7 hu7 H.size) sg_X1_get ⟨rfl, rfl⟩ ⟨Nat.le_of_ble_eq_true rfl, Nat.le_of_ble_eq_true rfl⟩ gX4_isOlder_X1_get 1 rfl rfl rfl [1, 2] (by decide) rfl rfl rfl (Nat.le_of_ble_eq_true rfl) dX4_isOlder_13 ⟨Nat.zero_le _, Nat.zero_le _⟩) hA hP hD hS [1, 2] rfl rfl rfl (fun H locs hP hD hS => ?_)
  refine lv_icmp_eq (tgt := 44) hx hb dX4_isOlder_16 (by decide) (fun c8 => ?_) (fun c8 => ?_)
  · replace hf := kt c8 hf
    refine lv_aload_n hx hb dX4_isOlder_44 rfl (lv_at hl 0 rfl) ?_
    refine va_get (D := (dC, dI)) (ci := 4) (v := .ref a_o_kind) (C := RX4) (T := TX4) (N := 11) hx hb hts in_X4_isOlder_X4 hown hK hP 0 rfl rfl 9 (by decide) hk26 (fun _ h9 => h9) rfl dX4_isOlder_45 ?_
    refine lv_iload_n hx hb dX4_isOlder_48 rfl (lv_at hl 1 rfl) ?_
    obtain ⟨u9, hu9, hf⟩ := kb1_e hf
    refine kc_i (wn := [(a_o, .inr (4, [.int v_o_houses, .int v_o_children, .int v_o_living, .int v_o_sideBits, .int v_o_inherited, .int v_o_theYear, .ref a_o_worth, .ref a_o_birth, .ref a_o_home, .ref a_o_kind, .ref a_o_wealth])), (a_o_birth, .inr (1, [.ref a_o_birth_cells])), (a_o_birth_cells, .inl (cI, 7, .inl f_o_birth_cells)), (a_o_kind, .inr (1, [.ref a_o_kind_cells])), (a_o_kind_cells, .inl (cI, 7, .inl f_o_kind_cells))]) (kr_V (As := [.int x1]) (rest := []) ⟨hx, hb, hml, hown, hts⟩ hK hN hP hD hl.1 (c_X1_get l dC dI cI cZ a_o_kind a_o_kind_cells 7 f_o_kind_cells x1 u9 hu9 H.size) sg_X1_get ⟨rfl, rfl⟩ ⟨Nat.le_of_ble_eq_true rfl, Nat.le_of_ble_eq_true rfl⟩ gX4_isOlder_X1_get 3 rfl rfl rfl [3, 4] (by decide) rfl rfl rfl (Nat.le_of_ble_eq_true rfl) dX4_isOlder_49 ⟨Nat.zero_le _, Nat.zero_le _⟩) hA hP hD hS [3, 4] rfl rfl rfl (fun H locs hP hD hS => ?_)
    refine lv_iconst (v := (1 : Int32)) hx hb dX4_isOlder_52 (by decide) ?_
    refine lv_icmp_ne (tgt := 60) hx hb dX4_isOlder_53 (by decide) (fun c10 => ?_) (fun c10 => ?_)
    · replace hf := kf c10 hf
      refine lv_iconst (v := (0 : Int32)) hx hb dX4_isOlder_60 (by decide) ?_
      exact J_61 (0 : Int32) H locs ls hP hD hS (lv_sub hl [0, 1, 2] rfl) hf
    · replace hf := kt c10 hf
      refine lv_iconst (v := (1 : Int32)) hx hb dX4_isOlder_56 (by decide) ?_
      refine lv_goto (tgt := 61) hx hb dX4_isOlder_57 (by decide) ?_
      exact J_61 (1 : Int32) H locs ls hP hD hS (lv_sub hl [0, 1, 2] rfl) hf
  · replace hf := kf c8 hf
    refine lv_aload_n hx hb dX4_isOlder_19 rfl (lv_at hl 0 rfl) ?_
    refine va_get (D := (dC, dI)) (ci := 4) (v := .ref a_o_birth) (C := RX4) (T := TX4) (N := 11) hx hb hts in_X4_isOlder_X4 hown hK hP 0 rfl rfl 7 (by decide) hk20 (fun _ h9 => h9) rfl dX4_isOlder_20 ?_
    refine lv_iload_n hx hb dX4_isOlder_23 rfl (lv_at hl 1 rfl) ?_
    obtain ⟨u11, hu11, hf⟩ := kb1_e hf
    refine kc_i (wn := [(a_o, .inr (4, [.int v_o_houses, .int v_o_children, .int v_o_living, .int v_o_sideBits, .int v_o_inherited, .int v_o_theYear, .ref a_o_worth, .ref a_o_birth, .ref a_o_home, .ref a_o_kind, .ref a_o_wealth])), (a_o_birth, .inr (1, [.ref a_o_birth_cells])), (a_o_birth_cells, .inl (cI, 7, .inl f_o_birth_cells)), (a_o_kind, .inr (1, [.ref a_o_kind_cells])), (a_o_kind_cells, .inl (cI, 7, .inl f_o_kind_cells))]) (kr_V (As := [.int x1]) (rest := []) ⟨hx, hb, hml, hown, hts⟩ hK hN hP hD hl.1 (c_X1_get l dC dI cI cZ a_o_birth a_o_birth_cells 7 f_o_birth_cells x1 u11 hu11 H.size) sg_X1_get ⟨rfl, rfl⟩ ⟨Nat.le_of_ble_eq_true rfl, Nat.le_of_ble_eq_true rfl⟩ gX4_isOlder_X1_get 1 rfl rfl rfl [1, 2] (by decide) rfl rfl rfl (Nat.le_of_ble_eq_true rfl) dX4_isOlder_24 ⟨Nat.zero_le _, Nat.zero_le _⟩) hA hP hD hS [1, 2] rfl rfl rfl (fun H locs hP hD hS => ?_)
    refine lv_aload_n hx hb dX4_isOlder_27 rfl (lv_at hl 0 rfl) ?_
    refine va_get (D := (dC, dI)) (ci := 4) (v := .ref a_o_birth) (C := RX4) (T := TX4) (N := 11) hx hb hts in_X4_isOlder_X4 hown hK hP 0 rfl rfl 7 (by decide) hk20 (fun _ h9 => h9) rfl dX4_isOlder_28 ?_
    refine lv_iload_n hx hb dX4_isOlder_31 rfl (lv_at hl 2 rfl) ?_
    obtain ⟨u12, hu12, hf⟩ := kb1_e hf
    refine kc_i (wn := [(a_o, .inr (4, [.int v_o_houses, .int v_o_children, .int v_o_living, .int v_o_sideBits, .int v_o_inherited, .int v_o_theYear, .ref a_o_worth, .ref a_o_birth, .ref a_o_home, .ref a_o_kind, .ref a_o_wealth])), (a_o_birth, .inr (1, [.ref a_o_birth_cells])), (a_o_birth_cells, .inl (cI, 7, .inl f_o_birth_cells)), (a_o_kind, .inr (1, [.ref a_o_kind_cells])), (a_o_kind_cells, .inl (cI, 7, .inl f_o_kind_cells))]) (kr_V (As := [.int x2]) (rest := [.int u11]) ⟨hx, hb, hml, hown, hts⟩ hK hN hP hD hl.1 (c_X1_get l dC dI cI cZ a_o_birth a_o_birth_cells 7 f_o_birth_cells x2 u12 hu12 H.size) sg_X1_get ⟨rfl, rfl⟩ ⟨Nat.le_of_ble_eq_true rfl, Nat.le_of_ble_eq_true rfl⟩ gX4_isOlder_X1_get 1 rfl rfl rfl [1, 2] (by decide) rfl rfl rfl (Nat.le_of_ble_eq_true rfl) dX4_isOlder_32 ⟨Nat.zero_le _, Nat.zero_le _⟩) hA hP hD hS [1, 2] rfl rfl rfl (fun H locs hP hD hS => ?_)
    refine lv_icmp_ge (tgt := 42) hx hb dX4_isOlder_35 (by decide) (fun c13 => ?_) (fun c13 => ?_)
    · replace hf := kt c13 hf
      refine lv_iconst (v := (0 : Int32)) hx hb dX4_isOlder_42 (by decide) ?_
      cases hf
      exact hend _ _ _ _ dX4_isOlder_43 rfl hP hS
    · replace hf := kf c13 hf
      refine lv_iconst (v := (1 : Int32)) hx hb dX4_isOlder_38 (by decide) ?_
      refine lv_goto (tgt := 43) hx hb dX4_isOlder_39 (by decide) ?_
      cases hf
      exact hend _ _ _ _ dX4_isOlder_43 rfl hP hS
theorem sg_X4_firstOf : kSig yX4_firstOf wsX4_firstOf cX4_firstOf 5 (some .int) RX4 2 := ⟨⟨_, rfl⟩, rfl, by decide, by decide +kernel, by decide +kernel, by decide +kernel⟩
abbrev rm_X4_firstOf : Room := { frames := 2, cells := 0, slots := 0, locals := 44 }
set_option maxRecDepth 20000 in
theorem in_X4_firstOf_X4 : ∀ w ∈ u_ws RX4 TX4 11, w ∈ wsX4_firstOf := by decide +kernel
set_option maxHeartbeats 4000000 in
set_option maxRecDepth 100000 in
theorem c_X4_firstOf (l : Launch) (dC : Nat → ClassId) (dI : Nat → Nat → Nat) (cI cZ : ClassId) (a_o a_o_worth a_o_birth a_o_home a_o_kind a_o_wealth a_o_birth_cells a_o_kind_cells : Nat) (v_o_houses : Int32) (v_o_children : Int32) (v_o_living : Int32) (v_o_sideBits : Int32) (v_o_inherited : Int32) (v_o_theYear : Int32) (f_o_birth_cells : Nat → Int32) (f_o_kind_cells : Nat → Int32) (x1 : Int32) (x2 : Int32) (u : Int32) (hf : f_X4_firstOf v_o_children f_o_birth_cells f_o_kind_cells x1 x2 = some u) : kMi l yX4_firstOf wsX4_firstOf rm_X4_firstOf (dC, dI) (kTy cI cZ) [.ref a_o, .int x1, .int x2] [(a_o, .inr (4, [.int v_o_houses, .int v_o_children, .int v_o_living, .int v_o_sideBits, .int v_o_inherited, .int v_o_theYear, .ref a_o_worth, .ref a_o_birth, .ref a_o_home, .ref a_o_kind, .ref a_o_wealth])), (a_o_birth, .inr (1, [.ref a_o_birth_cells])), (a_o_birth_cells, .inl (cI, 7, .inl f_o_birth_cells)), (a_o_kind, .inr (1, [.ref a_o_kind_cells])), (a_o_kind_cells, .inl (cI, 7, .inl f_o_kind_cells))] [(a_o, .inr (4, [.int v_o_houses, .int v_o_children, .int v_o_living, .int v_o_sideBits, .int v_o_inherited, .int v_o_theYear, .ref a_o_worth, .ref a_o_birth, .ref a_o_home, .ref a_o_kind, .ref a_o_wealth])), (a_o_birth, .inr (1, [.ref a_o_birth_cells])), (a_o_birth_cells, .inl (cI, 7, .inl f_o_birth_cells)), (a_o_kind, .inr (1, [.ref a_o_kind_cells])), (a_o_kind_cells, .inl (cI, 7, .inl f_o_kind_cells))] u := by
  refine kMi_of sg_X4_firstOf ⟨rfl, rfl⟩ (Nat.le_of_ble_eq_true rfl) ?_
  intro p e s m args below meth c A H0 Q hx hb hml hown hts hK hN hA hend H locs ls hP hD hS hl
  have hl : lv_has ls 5 [(0, .ref a_o), (1, .int x1), (2, .int x2)] := hl
  have hk36 := hts (.fieldLink RX4 36 "YoungestHouse$Town" "children" "I") (by decide +kernel)
  have J_5 : ∀ (n_5 : Nat), ∀ (x3 : Int32) (x4 : Int32) (H : Heap) (locs : List Loc) (ls : Array Slot), va_P (dC, dI) vwCl [(a_o, .inr (4, [.int v_o_houses, .int v_o_children, .int v_o_living, .int v_o_sideBits, .int v_o_inherited, .int v_o_theYear, .ref a_o_worth, .ref a_o_birth, .ref a_o_home, .ref a_o_kind, .ref a_o_wealth])), (a_o_birth, .inr (1, [.ref a_o_birth_cells])), (a_o_birth_cells, .inl (cI, 7, .inl f_o_birth_cells)), (a_o_kind, .inr (1, [.ref a_o_kind_cells])), (a_o_kind_cells, .inl (cI, 7, .inl f_o_kind_cells))] H → va_D A [(a_o, .inr (4, [.int v_o_houses, .int v_o_children, .int v_o_living, .int v_o_sideBits, .int v_o_inherited, .int v_o_theYear, .ref a_o_worth, .ref a_o_birth, .ref a_o_home, .ref a_o_kind, .ref a_o_wealth])), (a_o_birth, .inr (1, [.ref a_o_birth_cells])), (a_o_birth_cells, .inl (cI, 7, .inl f_o_birth_cells)), (a_o_kind, .inr (1, [.ref a_o_kind_cells])), (a_o_kind_cells, .inl (cI, 7, .inl f_o_kind_cells))] → va_S A H0 H locs → lv_has ls 5 [(0, .ref a_o), (1, .int x1), (2, .int x2), (3, .int x3), (4, .int x4)] → f_X4_firstOf_5 v_o_children f_o_birth_cells f_o_kind_cells x1 x2 n_5 x3 x4 = some u → W p l e rm_X4_firstOf s m args below meth c H locs 0 0 Q (F0 m 5 ls []) := by
    intro n_5
    induction n_5 with
    | zero => intro x3 x4 H locs ls hP hD hS hl hf; exact nomatch hf
    | succ n_5 ih_5 =>
      intro x3 x4 H locs ls hP hD hS hl hf
      have hf : f_X4_firstOf_5_b v_o_children f_o_birth_cells f_o_kind_cells x1 x2 (f_X4_firstOf_5 v_o_children f_o_birth_cells f_o_kind_cells x1 x2 n_5) x3 x4 = some u := hf
      unfold f_X4_firstOf_5_b at hf
      refine lv_iload hx hb dX4_firstOf_5 (lv_at hl 4 rfl) ?_
      refine lv_aload_n hx hb dX4_firstOf_7 rfl (lv_at hl 0 rfl) ?_
      refine va_get (D := (dC, dI)) (ci := 4) (v := .int v_o_children) (C := RX4) (T := TX4) (N := 11) hx hb hts in_X4_firstOf_X4 hown hK hP 0 rfl rfl 1 (by decide) hk36 (fun _ h9 => h9) rfl dX4_firstOf_8 ?_
      refine lv_icmp_ge (tgt := 47) hx hb dX4_firstOf_11 (by decide) (fun c1 => ?_) (fun c1 => ?_)
      · replace hf := kt c1 hf
        refine lv_iload_n hx hb dX4_firstOf_47 rfl (lv_at hl 3 rfl) ?_
        refine lv_if_ge (tgt := 55) hx hb dX4_firstOf_48 (by decide) (fun c2 => ?_) (fun c2 => ?_)
        · replace hf := kt c2 hf
          refine lv_iload_n hx hb dX4_firstOf_55 rfl (lv_at hl 3 rfl) ?_
          obtain ⟨u3, hu3, hf⟩ := kb1_e hf
          refine kc_i (wn := [(a_o, .inr (4, [.int v_o_houses, .int v_o_children, .int v_o_living, .int v_o_sideBits, .int v_o_inherited, .int v_o_theYear, .ref a_o_worth, .ref a_o_birth, .ref a_o_home, .ref a_o_kind, .ref a_o_wealth])), (a_o_birth, .inr (1, [.ref a_o_birth_cells])), (a_o_birth_cells, .inl (cI, 7, .inl f_o_birth_cells)), (a_o_kind, .inr (1, [.ref a_o_kind_cells])), (a_o_kind_cells, .inl (cI, 7, .inl f_o_kind_cells))]) (kr_N (host := RX5) (As := [.int x3]) (rest := []) ⟨hx, hb, hml, hown, hts⟩ hK hN hP hD hl.1 (c_X5_bit l dC dI cI cZ x3 u3 hu3 H.size) sg_X5_bit ⟨rfl, rfl⟩ ⟨Nat.le_of_ble_eq_true rfl, Nat.le_of_ble_eq_true rfl⟩ gX4_firstOf_X5_bit_n67 (by decide +kernel) (by decide +kernel) (by decide +kernel) [] (by decide) rfl rfl rfl (Nat.le_of_ble_eq_true rfl) dX4_firstOf_56 ⟨Nat.zero_le _, Nat.zero_le _⟩) hA hP hD hS [] rfl rfl rfl (fun H locs hP hD hS => ?_)
          cases hf
          exact hend _ _ _ _ dX4_firstOf_59 rfl hP hS
        · replace hf := kf c2 hf
          refine lv_iconst (v := (0 : Int32)) hx hb dX4_firstOf_51 (by decide) ?_
          refine lv_goto (tgt := 59) hx hb dX4_firstOf_52 (by decide) ?_
          cases hf
          exact hend _ _ _ _ dX4_firstOf_59 rfl hP hS
      · replace hf := kf c1 hf
        refine lv_iload_n hx hb dX4_firstOf_14 rfl (lv_at hl 1 rfl) ?_
        refine lv_iload hx hb dX4_firstOf_15 (lv_at hl 4 rfl) ?_
        obtain ⟨u4, hu4, hf⟩ := kb1_e hf
        refine kc_i (wn := [(a_o, .inr (4, [.int v_o_houses, .int v_o_children, .int v_o_living, .int v_o_sideBits, .int v_o_inherited, .int v_o_theYear, .ref a_o_worth, .ref a_o_birth, .ref a_o_home, .ref a_o_kind, .ref a_o_wealth])), (a_o_birth, .inr (1, [.ref a_o_birth_cells])), (a_o_birth_cells, .inl (cI, 7, .inl f_o_birth_cells)), (a_o_kind, .inr (1, [.ref a_o_kind_cells])), (a_o_kind_cells, .inl (cI, 7, .inl f_o_kind_cells))]) (kr_N (host := RX5) (As := [.int x1, .int x4]) (rest := []) ⟨hx, hb, hml, hown, hts⟩ hK hN hP hD hl.1 (c_X5_isIn l dC dI cI cZ x1 x4 u4 hu4 H.size) sg_X5_isIn ⟨rfl, rfl⟩ ⟨Nat.le_of_ble_eq_true rfl, Nat.le_of_ble_eq_true rfl⟩ gX4_firstOf_X5_isIn_n59 (by decide +kernel) (by decide +kernel) (by decide +kernel) [] (by decide) rfl rfl rfl (Nat.le_of_ble_eq_true rfl) dX4_firstOf_17 ⟨Nat.zero_le _, Nat.zero_le _⟩) hA hP hD hS [] rfl rfl rfl (fun H locs hP hD hS => ?_)
        refine lv_if_eq (tgt := 41) hx hb dX4_firstOf_20 (by decide) (fun c5 => ?_) (fun c5 => ?_)
        · replace hf := kt c5 hf
          refine lv_iinc (v := (x4 + (1 : Int32))) (lv' := [(4, .int (x4 + (1 : Int32))), (0, .ref a_o), (1, .int x1), (2, .int x2), (3, .int x3)]) hx hb dX4_firstOf_41 hl (k := 4) rfl rfl (by decide) rfl (fun ls hl => ?_)
          refine lv_goto (tgt := 5) hx hb dX4_firstOf_44 (by decide) ?_
          exact ih_5 x3 (x4 + (1 : Int32)) H locs ls hP hD hS (lv_sub hl [1, 2, 3, 4, 0] rfl) hf
        · replace hf := kf c5 hf
          refine lv_iload_n hx hb dX4_firstOf_23 rfl (lv_at hl 3 rfl) ?_
          refine lv_if_lt (tgt := 38) hx hb dX4_firstOf_24 (by decide) (fun c6 => ?_) (fun c6 => ?_)
          · replace hf := kt c6 hf
            refine lv_iload hx hb dX4_firstOf_38 (lv_at hl 4 rfl) ?_
            refine lv_istore_n (lv' := [(3, .int x4), (0, .ref a_o), (1, .int x1), (2, .int x2), (4, .int x4)]) hx hb dX4_firstOf_40 rfl hl (by decide) rfl (fun ls hl => ?_)
            refine lv_iinc (v := (x4 + (1 : Int32))) (lv' := [(4, .int (x4 + (1 : Int32))), (3, .int x4), (0, .ref a_o), (1, .int x1), (2, .int x2)]) hx hb dX4_firstOf_41 hl (k := 4) rfl rfl (by decide) rfl (fun ls hl => ?_)
            refine lv_goto (tgt := 5) hx hb dX4_firstOf_44 (by decide) ?_
            exact ih_5 x4 (x4 + (1 : Int32)) H locs ls hP hD hS (lv_sub hl [2, 3, 4, 1, 0] rfl) hf
          · replace hf := kf c6 hf
            refine lv_aload_n hx hb dX4_firstOf_27 rfl (lv_at hl 0 rfl) ?_
            refine lv_iload hx hb dX4_firstOf_28 (lv_at hl 4 rfl) ?_
            refine lv_iload_n hx hb dX4_firstOf_30 rfl (lv_at hl 3 rfl) ?_
            obtain ⟨u7, hu7, hf⟩ := kb1_e hf
            refine kc_i (wn := [(a_o, .inr (4, [.int v_o_houses, .int v_o_children, .int v_o_living, .int v_o_sideBits, .int v_o_inherited, .int v_o_theYear, .ref a_o_worth, .ref a_o_birth, .ref a_o_home, .ref a_o_kind, .ref a_o_wealth])), (a_o_birth, .inr (1, [.ref a_o_birth_cells])), (a_o_birth_cells, .inl (cI, 7, .inl f_o_birth_cells)), (a_o_kind, .inr (1, [.ref a_o_kind_cells])), (a_o_kind_cells, .inl (cI, 7, .inl f_o_kind_cells))]) (kr_V (As := [.int x4, .int x3]) (rest := []) ⟨hx, hb, hml, hown, hts⟩ hK hN hP hD hl.1 (c_X4_isOlder l dC dI cI cZ a_o a_o_worth a_o_birth a_o_home a_o_kind a_o_wealth a_o_birth_cells a_o_kind_cells v_o_houses v_o_children v_o_living v_o_sideBits v_o_inherited v_o_theYear f_o_birth_cells f_o_kind_cells x4 x3 u7 hu7 H.size) sg_X4_isOlder ⟨rfl, rfl⟩ ⟨Nat.le_of_ble_eq_true rfl, Nat.le_of_ble_eq_true rfl⟩ gX4_firstOf_X4_isOlder 0 rfl rfl rfl [0, 1, 2, 3, 4] (by decide) rfl rfl rfl (Nat.le_of_ble_eq_true rfl) dX4_firstOf_31 ⟨Nat.zero_le _, Nat.zero_le _⟩) hA hP hD hS [0, 1, 2, 3, 4] rfl rfl rfl (fun H locs hP hD hS => ?_)
            refine lv_iload_n hx hb dX4_firstOf_34 rfl (lv_at hl 2 rfl) ?_
            refine lv_icmp_ne (tgt := 41) hx hb dX4_firstOf_35 (by decide) (fun c8 => ?_) (fun c8 => ?_)
            · replace hf := kf c8 hf
              refine lv_iinc (v := (x4 + (1 : Int32))) (lv' := [(4, .int (x4 + (1 : Int32))), (0, .ref a_o), (1, .int x1), (2, .int x2), (3, .int x3)]) hx hb dX4_firstOf_41 hl (k := 4) rfl rfl (by decide) rfl (fun ls hl => ?_)
              refine lv_goto (tgt := 5) hx hb dX4_firstOf_44 (by decide) ?_
              exact ih_5 x3 (x4 + (1 : Int32)) H locs ls hP hD hS (lv_sub hl [1, 2, 3, 4, 0] rfl) hf
            · replace hf := kt c8 hf
              refine lv_iload hx hb dX4_firstOf_38 (lv_at hl 4 rfl) ?_
              refine lv_istore_n (lv' := [(3, .int x4), (0, .ref a_o), (1, .int x1), (2, .int x2), (4, .int x4)]) hx hb dX4_firstOf_40 rfl hl (by decide) rfl (fun ls hl => ?_)
              refine lv_iinc (v := (x4 + (1 : Int32))) (lv' := [(4, .int (x4 + (1 : Int32))), (3, .int x4), (0, .ref a_o), (1, .int x1), (2, .int x2)]) hx hb dX4_firstOf_41 hl (k := 4) rfl rfl (by decide) rfl (fun ls hl => ?_)
              refine lv_goto (tgt := 5) hx hb dX4_firstOf_44 (by decide) ?_
              exact ih_5 x4 (x4 + (1 : Int32)) H locs ls hP hD hS (lv_sub hl [2, 3, 4, 1, 0] rfl) hf
  unfold f_X4_firstOf at hf
  refine lv_iconst (v := (-1 : Int32)) hx hb dX4_firstOf_0 (by decide) ?_
  refine lv_istore_n (lv' := [(3, .int (-1 : Int32)), (0, .ref a_o), (1, .int x1), (2, .int x2)]) hx hb dX4_firstOf_1 rfl hl (by decide) rfl (fun ls hl => ?_)
  refine lv_iconst (v := (0 : Int32)) hx hb dX4_firstOf_2 (by decide) ?_
  refine lv_istore (lv' := [(4, .int (0 : Int32)), (3, .int (-1 : Int32)), (0, .ref a_o), (1, .int x1), (2, .int x2)]) hx hb dX4_firstOf_3 hl (by decide) rfl (fun ls hl => ?_)
  exact J_5 1000 (-1 : Int32) (0 : Int32) H locs ls hP hD hS (lv_sub hl [2, 3, 4, 1, 0] rfl) hf
theorem sg_X4_heirsAmong : kSig yX4_heirsAmong wsX4_heirsAmong cX4_heirsAmong 9 (some .int) RX4 3 := ⟨⟨_, rfl⟩, rfl, by decide, by decide +kernel, by decide +kernel, by decide +kernel⟩
abbrev rm_X4_heirsAmong : Room := { frames := 3, cells := 0, slots := 0, locals := 68 }
set_option maxRecDepth 20000 in
theorem in_X4_heirsAmong_X4 : ∀ w ∈ u_ws RX4 TX4 11, w ∈ wsX4_heirsAmong := by decide +kernel
set_option maxHeartbeats 4000000 in
set_option maxRecDepth 100000 in
theorem c_X4_heirsAmong (l : Launch) (dC : Nat → ClassId) (dI : Nat → Nat → Nat) (cI cZ : ClassId) (a_o a_o_worth a_o_birth a_o_home a_o_kind a_o_wealth a_o_birth_cells a_o_home_cells a_o_kind_cells : Nat) (v_o_houses : Int32) (v_o_children : Int32) (v_o_living : Int32) (v_o_sideBits : Int32) (v_o_inherited : Int32) (v_o_theYear : Int32) (f_o_birth_cells : Nat → Int32) (f_o_home_cells : Nat → Int32) (f_o_kind_cells : Nat → Int32) (x1 : Int32) (x2 : Int32) (x3 : Int32) (u : Int32) (hf : f_X4_heirsAmong v_o_children f_o_birth_cells f_o_home_cells f_o_kind_cells x1 x2 x3 = some u) : kMi l yX4_heirsAmong wsX4_heirsAmong rm_X4_heirsAmong (dC, dI) (kTy cI cZ) [.ref a_o, .int x1, .int x2, .int x3] [(a_o, .inr (4, [.int v_o_houses, .int v_o_children, .int v_o_living, .int v_o_sideBits, .int v_o_inherited, .int v_o_theYear, .ref a_o_worth, .ref a_o_birth, .ref a_o_home, .ref a_o_kind, .ref a_o_wealth])), (a_o_birth, .inr (1, [.ref a_o_birth_cells])), (a_o_birth_cells, .inl (cI, 7, .inl f_o_birth_cells)), (a_o_home, .inr (1, [.ref a_o_home_cells])), (a_o_home_cells, .inl (cI, 7, .inl f_o_home_cells)), (a_o_kind, .inr (1, [.ref a_o_kind_cells])), (a_o_kind_cells, .inl (cI, 7, .inl f_o_kind_cells))] [(a_o, .inr (4, [.int v_o_houses, .int v_o_children, .int v_o_living, .int v_o_sideBits, .int v_o_inherited, .int v_o_theYear, .ref a_o_worth, .ref a_o_birth, .ref a_o_home, .ref a_o_kind, .ref a_o_wealth])), (a_o_birth, .inr (1, [.ref a_o_birth_cells])), (a_o_birth_cells, .inl (cI, 7, .inl f_o_birth_cells)), (a_o_home, .inr (1, [.ref a_o_home_cells])), (a_o_home_cells, .inl (cI, 7, .inl f_o_home_cells)), (a_o_kind, .inr (1, [.ref a_o_kind_cells])), (a_o_kind_cells, .inl (cI, 7, .inl f_o_kind_cells))] u := by
  refine kMi_of sg_X4_heirsAmong ⟨rfl, rfl⟩ (Nat.le_of_ble_eq_true rfl) ?_
  intro p e s m args below meth c A H0 Q hx hb hml hown hts hK hN hA hend H locs ls hP hD hS hl
  have hl : lv_has ls 9 [(0, .ref a_o), (1, .int x1), (2, .int x2), (3, .int x3)] := hl
  have hk23 := hts (.fieldLink RX4 23 "YoungestHouse$Town" "home" "LYoungestHouse$Row;") (by decide +kernel)
  have hk26 := hts (.fieldLink RX4 26 "YoungestHouse$Town" "kind" "LYoungestHouse$Row;") (by decide +kernel)
  have hk36 := hts (.fieldLink RX4 36 "YoungestHouse$Town" "children" "I") (by decide +kernel)
  have J_128 : ∀ (t1 : Int32) (t2 : Int32) (H : Heap) (locs : List Loc) (ls : Array Slot), va_P (dC, dI) vwCl [(a_o, .inr (4, [.int v_o_houses, .int v_o_children, .int v_o_living, .int v_o_sideBits, .int v_o_inherited, .int v_o_theYear, .ref a_o_worth, .ref a_o_birth, .ref a_o_home, .ref a_o_kind, .ref a_o_wealth])), (a_o_birth, .inr (1, [.ref a_o_birth_cells])), (a_o_birth_cells, .inl (cI, 7, .inl f_o_birth_cells)), (a_o_home, .inr (1, [.ref a_o_home_cells])), (a_o_home_cells, .inl (cI, 7, .inl f_o_home_cells)), (a_o_kind, .inr (1, [.ref a_o_kind_cells])), (a_o_kind_cells, .inl (cI, 7, .inl f_o_kind_cells))] H → va_D A [(a_o, .inr (4, [.int v_o_houses, .int v_o_children, .int v_o_living, .int v_o_sideBits, .int v_o_inherited, .int v_o_theYear, .ref a_o_worth, .ref a_o_birth, .ref a_o_home, .ref a_o_kind, .ref a_o_wealth])), (a_o_birth, .inr (1, [.ref a_o_birth_cells])), (a_o_birth_cells, .inl (cI, 7, .inl f_o_birth_cells)), (a_o_home, .inr (1, [.ref a_o_home_cells])), (a_o_home_cells, .inl (cI, 7, .inl f_o_home_cells)), (a_o_kind, .inr (1, [.ref a_o_kind_cells])), (a_o_kind_cells, .inl (cI, 7, .inl f_o_kind_cells))] → va_S A H0 H locs → lv_has ls 9 [(0, .ref a_o)] → f_X4_heirsAmong_128 v_o_children f_o_birth_cells f_o_home_cells f_o_kind_cells x1 x2 x3 t1 t2 = some u → W p l e rm_X4_heirsAmong s m args below meth c H locs 0 0 Q (F0 m 128 ls [.int t2, .int t1, .ref a_o]) := by
    intro t1 t2 H locs ls hP hD hS hl hf
    unfold f_X4_heirsAmong_128 at hf
    obtain ⟨u1, hu1, hf⟩ := kb1_e hf
    refine kc_i (wn := [(a_o, .inr (4, [.int v_o_houses, .int v_o_children, .int v_o_living, .int v_o_sideBits, .int v_o_inherited, .int v_o_theYear, .ref a_o_worth, .ref a_o_birth, .ref a_o_home, .ref a_o_kind, .ref a_o_wealth])), (a_o_birth, .inr (1, [.ref a_o_birth_cells])), (a_o_birth_cells, .inl (cI, 7, .inl f_o_birth_cells)), (a_o_home, .inr (1, [.ref a_o_home_cells])), (a_o_home_cells, .inl (cI, 7, .inl f_o_home_cells)), (a_o_kind, .inr (1, [.ref a_o_kind_cells])), (a_o_kind_cells, .inl (cI, 7, .inl f_o_kind_cells))]) (kr_V (As := [.int t1, .int t2]) (rest := []) ⟨hx, hb, hml, hown, hts⟩ hK hN hP hD hl.1 (c_X4_firstOf l dC dI cI cZ a_o a_o_worth a_o_birth a_o_home a_o_kind a_o_wealth a_o_birth_cells a_o_kind_cells v_o_houses v_o_children v_o_living v_o_sideBits v_o_inherited v_o_theYear f_o_birth_cells f_o_kind_cells t1 t2 u1 hu1 H.size) sg_X4_firstOf ⟨rfl, rfl⟩ ⟨Nat.le_of_ble_eq_true rfl, Nat.le_of_ble_eq_true rfl⟩ gX4_heirsAmong_X4_firstOf 0 rfl rfl rfl [0, 1, 2, 5, 6] (by decide) rfl rfl rfl (Nat.le_of_ble_eq_true rfl) dX4_heirsAmong_128 ⟨Nat.zero_le _, Nat.zero_le _⟩) hA hP hD hS [0, 1, 2, 5, 6] rfl rfl rfl (fun H locs hP hD hS => ?_)
    cases hf
    exact hend _ _ _ _ dX4_heirsAmong_131 rfl hP hS
  have J_12 : ∀ (n_12 : Nat), ∀ (x4 : Int32) (x5 : Int32) (x6 : Int32) (x7 : Int32) (H : Heap) (locs : List Loc) (ls : Array Slot), va_P (dC, dI) vwCl [(a_o, .inr (4, [.int v_o_houses, .int v_o_children, .int v_o_living, .int v_o_sideBits, .int v_o_inherited, .int v_o_theYear, .ref a_o_worth, .ref a_o_birth, .ref a_o_home, .ref a_o_kind, .ref a_o_wealth])), (a_o_birth, .inr (1, [.ref a_o_birth_cells])), (a_o_birth_cells, .inl (cI, 7, .inl f_o_birth_cells)), (a_o_home, .inr (1, [.ref a_o_home_cells])), (a_o_home_cells, .inl (cI, 7, .inl f_o_home_cells)), (a_o_kind, .inr (1, [.ref a_o_kind_cells])), (a_o_kind_cells, .inl (cI, 7, .inl f_o_kind_cells))] H → va_D A [(a_o, .inr (4, [.int v_o_houses, .int v_o_children, .int v_o_living, .int v_o_sideBits, .int v_o_inherited, .int v_o_theYear, .ref a_o_worth, .ref a_o_birth, .ref a_o_home, .ref a_o_kind, .ref a_o_wealth])), (a_o_birth, .inr (1, [.ref a_o_birth_cells])), (a_o_birth_cells, .inl (cI, 7, .inl f_o_birth_cells)), (a_o_home, .inr (1, [.ref a_o_home_cells])), (a_o_home_cells, .inl (cI, 7, .inl f_o_home_cells)), (a_o_kind, .inr (1, [.ref a_o_kind_cells])), (a_o_kind_cells, .inl (cI, 7, .inl f_o_kind_cells))] → va_S A H0 H locs → lv_has ls 9 [(0, .ref a_o), (1, .int x1), (2, .int x2), (3, .int x3), (4, .int x4), (5, .int x5), (6, .int x6), (7, .int x7)] → f_X4_heirsAmong_12 v_o_children f_o_birth_cells f_o_home_cells f_o_kind_cells x1 x2 x3 n_12 x4 x5 x6 x7 = some u → W p l e rm_X4_heirsAmong s m args below meth c H locs 0 0 Q (F0 m 12 ls []) := by
    intro n_12
    induction n_12 with
    | zero => intro x4 x5 x6 x7 H locs ls hP hD hS hl hf; exact nomatch hf
    | succ n_12 ih_12 =>
      intro x4 x5 x6 x7 H locs ls hP hD hS hl hf
      have hf : f_X4_heirsAmong_12_b v_o_children f_o_birth_cells f_o_home_cells f_o_kind_cells x1 x2 x3 (f_X4_heirsAmong_12 v_o_children f_o_birth_cells f_o_home_cells f_o_kind_cells x1 x2 x3 n_12) x4 x5 x6 x7 = some u := hf
      unfold f_X4_heirsAmong_12_b at hf
      refine lv_iload hx hb dX4_heirsAmong_12 (lv_at hl 7 rfl) ?_
      refine lv_aload_n hx hb dX4_heirsAmong_14 rfl (lv_at hl 0 rfl) ?_
      refine va_get (D := (dC, dI)) (ci := 4) (v := .int v_o_children) (C := RX4) (T := TX4) (N := 11) hx hb hts in_X4_heirsAmong_X4 hown hK hP 0 rfl rfl 1 (by decide) hk36 (fun _ h9 => h9) rfl dX4_heirsAmong_15 ?_
      refine lv_icmp_ge (tgt := 111) hx hb dX4_heirsAmong_18 (by decide) (fun c2 => ?_) (fun c2 => ?_)
      · replace hf := kt c2 hf
        refine lv_iload hx hb dX4_heirsAmong_111 (lv_at hl 4 rfl) ?_
        refine lv_if_eq (tgt := 132) hx hb dX4_heirsAmong_113 (by decide) (fun c3 => ?_) (fun c3 => ?_)
        · replace hf := kt c3 hf
          refine lv_iload hx hb dX4_heirsAmong_132 (lv_at hl 5 rfl) ?_
          refine lv_if_eq (tgt := 142) hx hb dX4_heirsAmong_134 (by decide) (fun c4 => ?_) (fun c4 => ?_)
          · replace hf := kt c4 hf
            refine lv_aload_n hx hb dX4_heirsAmong_142 rfl (lv_at hl 0 rfl) ?_
            refine lv_iload hx hb dX4_heirsAmong_143 (lv_at hl 6 rfl) ?_
            refine lv_iconst (v := (1 : Int32)) hx hb dX4_heirsAmong_145 (by decide) ?_
            obtain ⟨u5, hu5, hf⟩ := kb1_e hf
            refine kc_i (wn := [(a_o, .inr (4, [.int v_o_houses, .int v_o_children, .int v_o_living, .int v_o_sideBits, .int v_o_inherited, .int v_o_theYear, .ref a_o_worth, .ref a_o_birth, .ref a_o_home, .ref a_o_kind, .ref a_o_wealth])), (a_o_birth, .inr (1, [.ref a_o_birth_cells])), (a_o_birth_cells, .inl (cI, 7, .inl f_o_birth_cells)), (a_o_home, .inr (1, [.ref a_o_home_cells])), (a_o_home_cells, .inl (cI, 7, .inl f_o_home_cells)), (a_o_kind, .inr (1, [.ref a_o_kind_cells])), (a_o_kind_cells, .inl (cI, 7, .inl f_o_kind_cells))]) (kr_V (As := [.int x6, .int (1 : Int32)]) (rest := []) ⟨hx, hb, hml, hown, hts⟩ hK hN hP hD hl.1 (c_X4_firstOf l dC dI cI cZ a_o a_o_worth a_o_birth a_o_home a_o_kind a_o_wealth a_o_birth_cells a_o_kind_cells v_o_houses v_o_children v_o_living v_o_sideBits v_o_inherited v_o_theYear f_o_birth_cells f_o_kind_cells x6 (1 : Int32) u5 hu5 H.size) sg_X4_firstOf ⟨rfl, rfl⟩ ⟨Nat.le_of_ble_eq_true rfl, Nat.le_of_ble_eq_true rfl⟩ gX4_heirsAmong_X4_firstOf 0 rfl rfl rfl [0, 1, 2, 5, 6] (by decide) rfl rfl rfl (Nat.le_of_ble_eq_true rfl) dX4_heirsAmong_146 ⟨Nat.zero_le _, Nat.zero_le _⟩) hA hP hD hS [0, 1, 2, 5, 6] rfl rfl rfl (fun H locs hP hD hS => ?_)
            cases hf
            exact hend _ _ _ _ dX4_heirsAmong_149 rfl hP hS
          · replace hf := kf c4 hf
            refine lv_iload hx hb dX4_heirsAmong_137 (lv_at hl 5 rfl) ?_
            refine lv_goto (tgt := 149) hx hb dX4_heirsAmong_139 (by decide) ?_
            cases hf
            exact hend _ _ _ _ dX4_heirsAmong_149 rfl hP hS
        · replace hf := kf c3 hf
          refine lv_aload_n hx hb dX4_heirsAmong_116 rfl (lv_at hl 0 rfl) ?_
          refine lv_iload hx hb dX4_heirsAmong_117 (lv_at hl 4 rfl) ?_
          refine lv_iload_n hx hb dX4_heirsAmong_119 rfl (lv_at hl 2 rfl) ?_
          refine lv_if_ne (tgt := 127) hx hb dX4_heirsAmong_120 (by decide) (fun c6 => ?_) (fun c6 => ?_)
          · replace hf := kf c6 hf
            refine lv_iconst (v := (0 : Int32)) hx hb dX4_heirsAmong_127 (by decide) ?_
            exact J_128 x4 (0 : Int32) H locs ls hP hD hS (lv_sub hl [0] rfl) hf
          · replace hf := kt c6 hf
            refine lv_iconst (v := (1 : Int32)) hx hb dX4_heirsAmong_123 (by decide) ?_
            refine lv_goto (tgt := 128) hx hb dX4_heirsAmong_124 (by decide) ?_
            exact J_128 x4 (1 : Int32) H locs ls hP hD hS (lv_sub hl [0] rfl) hf
      · replace hf := kf c2 hf
        refine lv_aload_n hx hb dX4_heirsAmong_21 rfl (lv_at hl 0 rfl) ?_
        refine va_get (D := (dC, dI)) (ci := 4) (v := .ref a_o_home) (C := RX4) (T := TX4) (N := 11) hx hb hts in_X4_heirsAmong_X4 hown hK hP 0 rfl rfl 8 (by decide) hk23 (fun _ h9 => h9) rfl dX4_heirsAmong_22 ?_
        refine lv_iload hx hb dX4_heirsAmong_25 (lv_at hl 7 rfl) ?_
        obtain ⟨u7, hu7, hf⟩ := kb1_e hf
        refine kc_i (wn := [(a_o, .inr (4, [.int v_o_houses, .int v_o_children, .int v_o_living, .int v_o_sideBits, .int v_o_inherited, .int v_o_theYear, .ref a_o_worth, .ref a_o_birth, .ref a_o_home, .ref a_o_kind, .ref a_o_wealth])), (a_o_birth, .inr (1, [.ref a_o_birth_cells])), (a_o_birth_cells, .inl (cI, 7, .inl f_o_birth_cells)), (a_o_home, .inr (1, [.ref a_o_home_cells])), (a_o_home_cells, .inl (cI, 7, .inl f_o_home_cells)), (a_o_kind, .inr (1, [.ref a_o_kind_cells])), (a_o_kind_cells, .inl (cI, 7, .inl f_o_kind_cells))]) (kr_V (As := [.int x7]) (rest := []) ⟨hx, hb, hml, hown, hts⟩ hK hN hP hD hl.1 (c_X1_get l dC dI cI cZ a_o_home a_o_home_cells 7 f_o_home_cells x7 u7 hu7 H.size) sg_X1_get ⟨rfl, rfl⟩ ⟨Nat.le_of_ble_eq_true rfl, Nat.le_of_ble_eq_true rfl⟩ gX4_heirsAmong_X1_get 3 rfl rfl rfl [3, 4] (by decide) rfl rfl rfl (Nat.le_of_ble_eq_true rfl) dX4_heirsAmong_27 ⟨Nat.zero_le _, Nat.zero_le _⟩) hA hP hD hS [3, 4] rfl rfl rfl (fun H locs hP hD hS => ?_)
        refine lv_iload_n hx hb dX4_heirsAmong_30 rfl (lv_at hl 1 rfl) ?_
        refine lv_icmp_ne (tgt := 105) hx hb dX4_heirsAmong_31 (by decide) (fun c8 => ?_) (fun c8 => ?_)
        · replace hf := kf c8 hf
          refine lv_iinc (v := (x7 + (1 : Int32))) (lv' := [(7, .int (x7 + (1 : Int32))), (0, .ref a_o), (1, .int x1), (2, .int x2), (3, .int x3), (4, .int x4), (5, .int x5), (6, .int x6)]) hx hb dX4_heirsAmong_105 hl (k := 7) rfl rfl (by decide) rfl (fun ls hl => ?_)
          refine lv_goto (tgt := 12) hx hb dX4_heirsAmong_108 (by decide) ?_
          exact ih_12 x4 x5 x6 (x7 + (1 : Int32)) H locs ls hP hD hS (lv_sub hl [1, 2, 3, 4, 5, 6, 7, 0] rfl) hf
        · replace hf := kt c8 hf
          refine lv_iload_n hx hb dX4_heirsAmong_34 rfl (lv_at hl 3 rfl) ?_
          refine lv_iload hx hb dX4_heirsAmong_35 (lv_at hl 7 rfl) ?_
          obtain ⟨u9, hu9, hf⟩ := kb1_e hf
          refine kc_i (wn := [(a_o, .inr (4, [.int v_o_houses, .int v_o_children, .int v_o_living, .int v_o_sideBits, .int v_o_inherited, .int v_o_theYear, .ref a_o_worth, .ref a_o_birth, .ref a_o_home, .ref a_o_kind, .ref a_o_wealth])), (a_o_birth, .inr (1, [.ref a_o_birth_cells])), (a_o_birth_cells, .inl (cI, 7, .inl f_o_birth_cells)), (a_o_home, .inr (1, [.ref a_o_home_cells])), (a_o_home_cells, .inl (cI, 7, .inl f_o_home_cells)), (a_o_kind, .inr (1, [.ref a_o_kind_cells])), (a_o_kind_cells, .inl (cI, 7, .inl f_o_kind_cells))]) (kr_N (host := RX5) (As := [.int x3, .int x7]) (rest := []) ⟨hx, hb, hml, hown, hts⟩ hK hN hP hD hl.1 (c_X5_isIn l dC dI cI cZ x3 x7 u9 hu9 H.size) sg_X5_isIn ⟨rfl, rfl⟩ ⟨Nat.le_of_ble_eq_true rfl, Nat.le_of_ble_eq_true rfl⟩ gX4_heirsAmong_X5_isIn_n59 (by decide +kernel) (by decide +kernel) (by decide +kernel) [] (by decide) rfl rfl rfl (Nat.le_of_ble_eq_true rfl) dX4_heirsAmong_37 ⟨Nat.zero_le _, Nat.zero_le _⟩) hA hP hD hS [] rfl rfl rfl (fun H locs hP hD hS => ?_)
          refine lv_if_ne (tgt := 46) hx hb dX4_heirsAmong_40 (by decide) (fun c10 => ?_) (fun c10 => ?_)
          · replace hf := kf c10 hf
            refine lv_aload_n hx hb dX4_heirsAmong_46 rfl (lv_at hl 0 rfl) ?_
            refine va_get (D := (dC, dI)) (ci := 4) (v := .ref a_o_kind) (C := RX4) (T := TX4) (N := 11) hx hb hts in_X4_heirsAmong_X4 hown hK hP 0 rfl rfl 9 (by decide) hk26 (fun _ h9 => h9) rfl dX4_heirsAmong_47 ?_
            refine lv_iload hx hb dX4_heirsAmong_50 (lv_at hl 7 rfl) ?_
            obtain ⟨u11, hu11, hf⟩ := kb1_e hf
            refine kc_i (wn := [(a_o, .inr (4, [.int v_o_houses, .int v_o_children, .int v_o_living, .int v_o_sideBits, .int v_o_inherited, .int v_o_theYear, .ref a_o_worth, .ref a_o_birth, .ref a_o_home, .ref a_o_kind, .ref a_o_wealth])), (a_o_birth, .inr (1, [.ref a_o_birth_cells])), (a_o_birth_cells, .inl (cI, 7, .inl f_o_birth_cells)), (a_o_home, .inr (1, [.ref a_o_home_cells])), (a_o_home_cells, .inl (cI, 7, .inl f_o_home_cells)), (a_o_kind, .inr (1, [.ref a_o_kind_cells])), (a_o_kind_cells, .inl (cI, 7, .inl f_o_kind_cells))]) (kr_V (As := [.int x7]) (rest := []) ⟨hx, hb, hml, hown, hts⟩ hK hN hP hD hl.1 (c_X1_get l dC dI cI cZ a_o_kind a_o_kind_cells 7 f_o_kind_cells x7 u11 hu11 H.size) sg_X1_get ⟨rfl, rfl⟩ ⟨Nat.le_of_ble_eq_true rfl, Nat.le_of_ble_eq_true rfl⟩ gX4_heirsAmong_X1_get 5 rfl rfl rfl [5, 6] (by decide) rfl rfl rfl (Nat.le_of_ble_eq_true rfl) dX4_heirsAmong_52 ⟨Nat.zero_le _, Nat.zero_le _⟩) hA hP hD hS [5, 6] rfl rfl rfl (fun H locs hP hD hS => ?_)
            refine lv_istore (lv' := [(8, .int u11), (0, .ref a_o), (1, .int x1), (2, .int x2), (3, .int x3), (4, .int x4), (5, .int x5), (6, .int x6), (7, .int x7)]) hx hb dX4_heirsAmong_55 hl (by decide) rfl (fun ls hl => ?_)
            refine lv_iload hx hb dX4_heirsAmong_57 (lv_at hl 0 rfl) ?_
            refine lv_iconst (v := (2 : Int32)) hx hb dX4_heirsAmong_59 (by decide) ?_
            refine lv_icmp_ne (tgt := 76) hx hb dX4_heirsAmong_60 (by decide) (fun c12 => ?_) (fun c12 => ?_)
            · replace hf := kf c12 hf
              refine lv_iload hx hb dX4_heirsAmong_76 (lv_at hl 0 rfl) ?_
              refine lv_iconst (v := (3 : Int32)) hx hb dX4_heirsAmong_78 (by decide) ?_
              refine lv_icmp_ne (tgt := 95) hx hb dX4_heirsAmong_79 (by decide) (fun c13 => ?_) (fun c13 => ?_)
              · replace hf := kf c13 hf
                refine lv_iload hx hb dX4_heirsAmong_95 (lv_at hl 5 rfl) ?_
                refine lv_iload hx hb dX4_heirsAmong_97 (lv_at hl 8 rfl) ?_
                obtain ⟨u14, hu14, hf⟩ := kb1_e hf
                refine kc_i (wn := [(a_o, .inr (4, [.int v_o_houses, .int v_o_children, .int v_o_living, .int v_o_sideBits, .int v_o_inherited, .int v_o_theYear, .ref a_o_worth, .ref a_o_birth, .ref a_o_home, .ref a_o_kind, .ref a_o_wealth])), (a_o_birth, .inr (1, [.ref a_o_birth_cells])), (a_o_birth_cells, .inl (cI, 7, .inl f_o_birth_cells)), (a_o_home, .inr (1, [.ref a_o_home_cells])), (a_o_home_cells, .inl (cI, 7, .inl f_o_home_cells)), (a_o_kind, .inr (1, [.ref a_o_kind_cells])), (a_o_kind_cells, .inl (cI, 7, .inl f_o_kind_cells))]) (kr_N (host := RX5) (As := [.int x7]) (rest := [.int x4]) ⟨hx, hb, hml, hown, hts⟩ hK hN hP hD hl.1 (c_X5_bit l dC dI cI cZ x7 u14 hu14 H.size) sg_X5_bit ⟨rfl, rfl⟩ ⟨Nat.le_of_ble_eq_true rfl, Nat.le_of_ble_eq_true rfl⟩ gX4_heirsAmong_X5_bit_n67 (by decide +kernel) (by decide +kernel) (by decide +kernel) [] (by decide) rfl rfl rfl (Nat.le_of_ble_eq_true rfl) dX4_heirsAmong_99 ⟨Nat.zero_le _, Nat.zero_le _⟩) hA hP hD hS [] rfl rfl rfl (fun H locs hP hD hS => ?_)
                refine lv_ior hx hb dX4_heirsAmong_102 ?_
                refine lv_istore (lv' := [(4, .int (x4 ||| u14)), (8, .int u11), (0, .ref a_o), (1, .int x1), (2, .int x2), (3, .int x3), (5, .int x5), (6, .int x6), (7, .int x7)]) hx hb dX4_heirsAmong_103 hl (by decide) rfl (fun ls hl => ?_)
                refine lv_iinc (v := (x7 + (1 : Int32))) (lv' := [(7, .int (x7 + (1 : Int32))), (4, .int (x4 ||| u14)), (8, .int u11), (0, .ref a_o), (1, .int x1), (2, .int x2), (3, .int x3), (5, .int x5), (6, .int x6)]) hx hb dX4_heirsAmong_105 hl (k := 8) rfl rfl (by decide) rfl (fun ls hl => ?_)
                refine lv_goto (tgt := 12) hx hb dX4_heirsAmong_108 (by decide) ?_
                exact ih_12 (x4 ||| u14) x5 x6 (x7 + (1 : Int32)) H locs ls hP hD hS (lv_sub hl [3, 4, 5, 6, 1, 7, 8, 0] rfl) hf
              · replace hf := kt c13 hf
                refine lv_iload hx hb dX4_heirsAmong_82 (lv_at hl 7 rfl) ?_
                refine lv_iload hx hb dX4_heirsAmong_84 (lv_at hl 8 rfl) ?_
                obtain ⟨u15, hu15, hf⟩ := kb1_e hf
                refine kc_i (wn := [(a_o, .inr (4, [.int v_o_houses, .int v_o_children, .int v_o_living, .int v_o_sideBits, .int v_o_inherited, .int v_o_theYear, .ref a_o_worth, .ref a_o_birth, .ref a_o_home, .ref a_o_kind, .ref a_o_wealth])), (a_o_birth, .inr (1, [.ref a_o_birth_cells])), (a_o_birth_cells, .inl (cI, 7, .inl f_o_birth_cells)), (a_o_home, .inr (1, [.ref a_o_home_cells])), (a_o_home_cells, .inl (cI, 7, .inl f_o_home_cells)), (a_o_kind, .inr (1, [.ref a_o_kind_cells])), (a_o_kind_cells, .inl (cI, 7, .inl f_o_kind_cells))]) (kr_N (host := RX5) (As := [.int x7]) (rest := [.int x6]) ⟨hx, hb, hml, hown, hts⟩ hK hN hP hD hl.1 (c_X5_bit l dC dI cI cZ x7 u15 hu15 H.size) sg_X5_bit ⟨rfl, rfl⟩ ⟨Nat.le_of_ble_eq_true rfl, Nat.le_of_ble_eq_true rfl⟩ gX4_heirsAmong_X5_bit_n67 (by decide +kernel) (by decide +kernel) (by decide +kernel) [] (by decide) rfl rfl rfl (Nat.le_of_ble_eq_true rfl) dX4_heirsAmong_86 ⟨Nat.zero_le _, Nat.zero_le _⟩) hA hP hD hS [] rfl rfl rfl (fun H locs hP hD hS => ?_)
                refine lv_ior hx hb dX4_heirsAmong_89 ?_
                refine lv_istore (lv' := [(6, .int (x6 ||| u15)), (8, .int u11), (0, .ref a_o), (1, .int x1), (2, .int x2), (3, .int x3), (4, .int x4), (5, .int x5), (7, .int x7)]) hx hb dX4_heirsAmong_90 hl (by decide) rfl (fun ls hl => ?_)
                refine lv_goto (tgt := 105) hx hb dX4_heirsAmong_92 (by decide) ?_
                refine lv_iinc (v := (x7 + (1 : Int32))) (lv' := [(7, .int (x7 + (1 : Int32))), (6, .int (x6 ||| u15)), (8, .int u11), (0, .ref a_o), (1, .int x1), (2, .int x2), (3, .int x3), (4, .int x4), (5, .int x5)]) hx hb dX4_heirsAmong_105 hl (k := 8) rfl rfl (by decide) rfl (fun ls hl => ?_)
                refine lv_goto (tgt := 12) hx hb dX4_heirsAmong_108 (by decide) ?_
                exact ih_12 x4 x5 (x6 ||| u15) (x7 + (1 : Int32)) H locs ls hP hD hS (lv_sub hl [3, 4, 5, 6, 7, 8, 1, 0] rfl) hf
            · replace hf := kt c12 hf
              refine lv_iload hx hb dX4_heirsAmong_63 (lv_at hl 6 rfl) ?_
              refine lv_iload hx hb dX4_heirsAmong_65 (lv_at hl 8 rfl) ?_
              obtain ⟨u16, hu16, hf⟩ := kb1_e hf
              refine kc_i (wn := [(a_o, .inr (4, [.int v_o_houses, .int v_o_children, .int v_o_living, .int v_o_sideBits, .int v_o_inherited, .int v_o_theYear, .ref a_o_worth, .ref a_o_birth, .ref a_o_home, .ref a_o_kind, .ref a_o_wealth])), (a_o_birth, .inr (1, [.ref a_o_birth_cells])), (a_o_birth_cells, .inl (cI, 7, .inl f_o_birth_cells)), (a_o_home, .inr (1, [.ref a_o_home_cells])), (a_o_home_cells, .inl (cI, 7, .inl f_o_home_cells)), (a_o_kind, .inr (1, [.ref a_o_kind_cells])), (a_o_kind_cells, .inl (cI, 7, .inl f_o_kind_cells))]) (kr_N (host := RX5) (As := [.int x7]) (rest := [.int x5]) ⟨hx, hb, hml, hown, hts⟩ hK hN hP hD hl.1 (c_X5_bit l dC dI cI cZ x7 u16 hu16 H.size) sg_X5_bit ⟨rfl, rfl⟩ ⟨Nat.le_of_ble_eq_true rfl, Nat.le_of_ble_eq_true rfl⟩ gX4_heirsAmong_X5_bit_n67 (by decide +kernel) (by decide +kernel) (by decide +kernel) [] (by decide) rfl rfl rfl (Nat.le_of_ble_eq_true rfl) dX4_heirsAmong_67 ⟨Nat.zero_le _, Nat.zero_le _⟩) hA hP hD hS [] rfl rfl rfl (fun H locs hP hD hS => ?_)
              refine lv_ior hx hb dX4_heirsAmong_70 ?_
              refine lv_istore (lv' := [(5, .int (x5 ||| u16)), (8, .int u11), (0, .ref a_o), (1, .int x1), (2, .int x2), (3, .int x3), (4, .int x4), (6, .int x6), (7, .int x7)]) hx hb dX4_heirsAmong_71 hl (by decide) rfl (fun ls hl => ?_)
              refine lv_goto (tgt := 105) hx hb dX4_heirsAmong_73 (by decide) ?_
              refine lv_iinc (v := (x7 + (1 : Int32))) (lv' := [(7, .int (x7 + (1 : Int32))), (5, .int (x5 ||| u16)), (8, .int u11), (0, .ref a_o), (1, .int x1), (2, .int x2), (3, .int x3), (4, .int x4), (6, .int x6)]) hx hb dX4_heirsAmong_105 hl (k := 8) rfl rfl (by decide) rfl (fun ls hl => ?_)
              refine lv_goto (tgt := 12) hx hb dX4_heirsAmong_108 (by decide) ?_
              exact ih_12 x4 (x5 ||| u16) x6 (x7 + (1 : Int32)) H locs ls hP hD hS (lv_sub hl [3, 4, 5, 6, 7, 1, 8, 0] rfl) hf
          · replace hf := kt c10 hf
            refine lv_goto (tgt := 105) hx hb dX4_heirsAmong_43 (by decide) ?_
            refine lv_iinc (v := (x7 + (1 : Int32))) (lv' := [(7, .int (x7 + (1 : Int32))), (0, .ref a_o), (1, .int x1), (2, .int x2), (3, .int x3), (4, .int x4), (5, .int x5), (6, .int x6)]) hx hb dX4_heirsAmong_105 hl (k := 7) rfl rfl (by decide) rfl (fun ls hl => ?_)
            refine lv_goto (tgt := 12) hx hb dX4_heirsAmong_108 (by decide) ?_
            exact ih_12 x4 x5 x6 (x7 + (1 : Int32)) H locs ls hP hD hS (lv_sub hl [1, 2, 3, 4, 5, 6, 7, 0] rfl) hf
  unfold f_X4_heirsAmong at hf
  refine lv_iconst (v := (0 : Int32)) hx hb dX4_heirsAmong_0 (by decide) ?_
  refine lv_istore (lv' := [(4, .int (0 : Int32)), (0, .ref a_o), (1, .int x1), (2, .int x2), (3, .int x3)]) hx hb dX4_heirsAmong_1 hl (by decide) rfl (fun ls hl => ?_)
  refine lv_iconst (v := (0 : Int32)) hx hb dX4_heirsAmong_3 (by decide) ?_
  refine lv_istore (lv' := [(5, .int (0 : Int32)), (4, .int (0 : Int32)), (0, .ref a_o), (1, .int x1), (2, .int x2), (3, .int x3)]) hx hb dX4_heirsAmong_4 hl (by decide) rfl (fun ls hl => ?_)
  refine lv_iconst (v := (0 : Int32)) hx hb dX4_heirsAmong_6 (by decide) ?_
  refine lv_istore (lv' := [(6, .int (0 : Int32)), (5, .int (0 : Int32)), (4, .int (0 : Int32)), (0, .ref a_o), (1, .int x1), (2, .int x2), (3, .int x3)]) hx hb dX4_heirsAmong_7 hl (by decide) rfl (fun ls hl => ?_)
  refine lv_iconst (v := (0 : Int32)) hx hb dX4_heirsAmong_9 (by decide) ?_
  refine lv_istore (lv' := [(7, .int (0 : Int32)), (6, .int (0 : Int32)), (5, .int (0 : Int32)), (4, .int (0 : Int32)), (0, .ref a_o), (1, .int x1), (2, .int x2), (3, .int x3)]) hx hb dX4_heirsAmong_10 hl (by decide) rfl (fun ls hl => ?_)
  exact J_12 1000 (0 : Int32) (0 : Int32) (0 : Int32) (0 : Int32) H locs ls hP hD hS (lv_sub hl [4, 5, 6, 7, 3, 2, 1, 0] rfl) hf
theorem sg_X2_countWrong : kSig yX2_countWrong wsX2_countWrong cX2_countWrong 7 (some .int) RX2 2 := ⟨⟨_, rfl⟩, rfl, by decide, by decide +kernel, by decide +kernel, by decide +kernel⟩
abbrev rm_X2_countWrong : Room := { frames := 4, cells := 0, slots := 0, locals := 96 }
set_option maxRecDepth 20000 in
theorem in_X2_countWrong_X2 : ∀ w ∈ u_ws RX2 TX2 4, w ∈ wsX2_countWrong := by decide +kernel
set_option maxHeartbeats 4000000 in
set_option maxRecDepth 100000 in
theorem c_X2_countWrong (l : Launch) (dC : Nat → ClassId) (dI : Nat → Nat → Nat) (cI cZ : ClassId) (a_o a_o_house a_o_child a_o_lived a_o_house_cells a_o_child_cells a_o_lived_cells a_p1 a_p1_worth a_p1_birth a_p1_home a_p1_kind a_p1_wealth a_p1_birth_cells a_p1_home_cells a_p1_kind_cells : Nat) (v_o_count : Int32) (f_o_house_cells : Nat → Int32) (f_o_child_cells : Nat → Int32) (f_o_lived_cells : Nat → Int32) (v_p1_houses : Int32) (v_p1_children : Int32) (v_p1_living : Int32) (v_p1_sideBits : Int32) (v_p1_inherited : Int32) (v_p1_theYear : Int32) (f_p1_birth_cells : Nat → Int32) (f_p1_home_cells : Nat → Int32) (f_p1_kind_cells : Nat → Int32) (x2 : Int32) (u : Int32) (hf : f_X2_countWrong v_o_count f_o_house_cells f_o_child_cells f_o_lived_cells v_p1_houses v_p1_children f_p1_birth_cells f_p1_home_cells f_p1_kind_cells x2 = some u) : kMi l yX2_countWrong wsX2_countWrong rm_X2_countWrong (dC, dI) (kTy cI cZ) [.ref a_o, .ref a_p1, .int x2] [(a_o, .inr (2, [.ref a_o_house, .ref a_o_child, .ref a_o_lived, .int v_o_count])), (a_o_house, .inr (1, [.ref a_o_house_cells])), (a_o_house_cells, .inl (cI, 6, .inl f_o_house_cells)), (a_o_child, .inr (1, [.ref a_o_child_cells])), (a_o_child_cells, .inl (cI, 6, .inl f_o_child_cells)), (a_o_lived, .inr (1, [.ref a_o_lived_cells])), (a_o_lived_cells, .inl (cI, 6, .inl f_o_lived_cells)), (a_p1, .inr (4, [.int v_p1_houses, .int v_p1_children, .int v_p1_living, .int v_p1_sideBits, .int v_p1_inherited, .int v_p1_theYear, .ref a_p1_worth, .ref a_p1_birth, .ref a_p1_home, .ref a_p1_kind, .ref a_p1_wealth])), (a_p1_birth, .inr (1, [.ref a_p1_birth_cells])), (a_p1_birth_cells, .inl (cI, 7, .inl f_p1_birth_cells)), (a_p1_home, .inr (1, [.ref a_p1_home_cells])), (a_p1_home_cells, .inl (cI, 7, .inl f_p1_home_cells)), (a_p1_kind, .inr (1, [.ref a_p1_kind_cells])), (a_p1_kind_cells, .inl (cI, 7, .inl f_p1_kind_cells))] [(a_o, .inr (2, [.ref a_o_house, .ref a_o_child, .ref a_o_lived, .int v_o_count])), (a_o_house, .inr (1, [.ref a_o_house_cells])), (a_o_house_cells, .inl (cI, 6, .inl f_o_house_cells)), (a_o_child, .inr (1, [.ref a_o_child_cells])), (a_o_child_cells, .inl (cI, 6, .inl f_o_child_cells)), (a_o_lived, .inr (1, [.ref a_o_lived_cells])), (a_o_lived_cells, .inl (cI, 6, .inl f_o_lived_cells)), (a_p1, .inr (4, [.int v_p1_houses, .int v_p1_children, .int v_p1_living, .int v_p1_sideBits, .int v_p1_inherited, .int v_p1_theYear, .ref a_p1_worth, .ref a_p1_birth, .ref a_p1_home, .ref a_p1_kind, .ref a_p1_wealth])), (a_p1_birth, .inr (1, [.ref a_p1_birth_cells])), (a_p1_birth_cells, .inl (cI, 7, .inl f_p1_birth_cells)), (a_p1_home, .inr (1, [.ref a_p1_home_cells])), (a_p1_home_cells, .inl (cI, 7, .inl f_p1_home_cells)), (a_p1_kind, .inr (1, [.ref a_p1_kind_cells])), (a_p1_kind_cells, .inl (cI, 7, .inl f_p1_kind_cells))] u := by
  refine kMi_of sg_X2_countWrong ⟨rfl, rfl⟩ (Nat.le_of_ble_eq_true rfl) ?_
  intro p e s m args below meth c A H0 Q hx hb hml hown hts hK hN hA hend H locs ls hP hD hS hl
  have hl : lv_has ls 7 [(0, .ref a_o), (1, .ref a_p1), (2, .int x2)] := hl
  have hk14 := hts (.fieldLink RX2 14 "YoungestHouse$Sightings" "house" "LYoungestHouse$Row;") (by decide +kernel)
  have hk20 := hts (.fieldLink RX2 20 "YoungestHouse$Sightings" "child" "LYoungestHouse$Row;") (by decide +kernel)
  have hk23 := hts (.fieldLink RX2 23 "YoungestHouse$Sightings" "lived" "LYoungestHouse$Row;") (by decide +kernel)
  have hk26 := hts (.fieldLink RX2 26 "YoungestHouse$Sightings" "count" "I") (by decide +kernel)
  have J_5 : ∀ (n_5 : Nat), ∀ (x3 : Int32) (x4 : Int32) (H : Heap) (locs : List Loc) (ls : Array Slot), va_P (dC, dI) vwCl [(a_o, .inr (2, [.ref a_o_house, .ref a_o_child, .ref a_o_lived, .int v_o_count])), (a_o_house, .inr (1, [.ref a_o_house_cells])), (a_o_house_cells, .inl (cI, 6, .inl f_o_house_cells)), (a_o_child, .inr (1, [.ref a_o_child_cells])), (a_o_child_cells, .inl (cI, 6, .inl f_o_child_cells)), (a_o_lived, .inr (1, [.ref a_o_lived_cells])), (a_o_lived_cells, .inl (cI, 6, .inl f_o_lived_cells)), (a_p1, .inr (4, [.int v_p1_houses, .int v_p1_children, .int v_p1_living, .int v_p1_sideBits, .int v_p1_inherited, .int v_p1_theYear, .ref a_p1_worth, .ref a_p1_birth, .ref a_p1_home, .ref a_p1_kind, .ref a_p1_wealth])), (a_p1_birth, .inr (1, [.ref a_p1_birth_cells])), (a_p1_birth_cells, .inl (cI, 7, .inl f_p1_birth_cells)), (a_p1_home, .inr (1, [.ref a_p1_home_cells])), (a_p1_home_cells, .inl (cI, 7, .inl f_p1_home_cells)), (a_p1_kind, .inr (1, [.ref a_p1_kind_cells])), (a_p1_kind_cells, .inl (cI, 7, .inl f_p1_kind_cells))] H → va_D A [(a_o, .inr (2, [.ref a_o_house, .ref a_o_child, .ref a_o_lived, .int v_o_count])), (a_o_house, .inr (1, [.ref a_o_house_cells])), (a_o_house_cells, .inl (cI, 6, .inl f_o_house_cells)), (a_o_child, .inr (1, [.ref a_o_child_cells])), (a_o_child_cells, .inl (cI, 6, .inl f_o_child_cells)), (a_o_lived, .inr (1, [.ref a_o_lived_cells])), (a_o_lived_cells, .inl (cI, 6, .inl f_o_lived_cells)), (a_p1, .inr (4, [.int v_p1_houses, .int v_p1_children, .int v_p1_living, .int v_p1_sideBits, .int v_p1_inherited, .int v_p1_theYear, .ref a_p1_worth, .ref a_p1_birth, .ref a_p1_home, .ref a_p1_kind, .ref a_p1_wealth])), (a_p1_birth, .inr (1, [.ref a_p1_birth_cells])), (a_p1_birth_cells, .inl (cI, 7, .inl f_p1_birth_cells)), (a_p1_home, .inr (1, [.ref a_p1_home_cells])), (a_p1_home_cells, .inl (cI, 7, .inl f_p1_home_cells)), (a_p1_kind, .inr (1, [.ref a_p1_kind_cells])), (a_p1_kind_cells, .inl (cI, 7, .inl f_p1_kind_cells))] → va_S A H0 H locs → lv_has ls 7 [(0, .ref a_o), (1, .ref a_p1), (2, .int x2), (3, .int x3), (4, .int x4)] → f_X2_countWrong_5 v_o_count f_o_house_cells f_o_child_cells f_o_lived_cells v_p1_houses v_p1_children f_p1_birth_cells f_p1_home_cells f_p1_kind_cells x2 n_5 x3 x4 = some u → W p l e rm_X2_countWrong s m args below meth c H locs 0 0 Q (F0 m 5 ls []) := by
    intro n_5
    induction n_5 with
    | zero => intro x3 x4 H locs ls hP hD hS hl hf; exact nomatch hf
    | succ n_5 ih_5 =>
      have J_48 : ∀ (x3 : Int32) (x4 : Int32) (t0 : Int32) (H : Heap) (locs : List Loc) (ls : Array Slot), va_P (dC, dI) vwCl [(a_o, .inr (2, [.ref a_o_house, .ref a_o_child, .ref a_o_lived, .int v_o_count])), (a_o_house, .inr (1, [.ref a_o_house_cells])), (a_o_house_cells, .inl (cI, 6, .inl f_o_house_cells)), (a_o_child, .inr (1, [.ref a_o_child_cells])), (a_o_child_cells, .inl (cI, 6, .inl f_o_child_cells)), (a_o_lived, .inr (1, [.ref a_o_lived_cells])), (a_o_lived_cells, .inl (cI, 6, .inl f_o_lived_cells)), (a_p1, .inr (4, [.int v_p1_houses, .int v_p1_children, .int v_p1_living, .int v_p1_sideBits, .int v_p1_inherited, .int v_p1_theYear, .ref a_p1_worth, .ref a_p1_birth, .ref a_p1_home, .ref a_p1_kind, .ref a_p1_wealth])), (a_p1_birth, .inr (1, [.ref a_p1_birth_cells])), (a_p1_birth_cells, .inl (cI, 7, .inl f_p1_birth_cells)), (a_p1_home, .inr (1, [.ref a_p1_home_cells])), (a_p1_home_cells, .inl (cI, 7, .inl f_p1_home_cells)), (a_p1_kind, .inr (1, [.ref a_p1_kind_cells])), (a_p1_kind_cells, .inl (cI, 7, .inl f_p1_kind_cells))] H → va_D A [(a_o, .inr (2, [.ref a_o_house, .ref a_o_child, .ref a_o_lived, .int v_o_count])), (a_o_house, .inr (1, [.ref a_o_house_cells])), (a_o_house_cells, .inl (cI, 6, .inl f_o_house_cells)), (a_o_child, .inr (1, [.ref a_o_child_cells])), (a_o_child_cells, .inl (cI, 6, .inl f_o_child_cells)), (a_o_lived, .inr (1, [.ref a_o_lived_cells])), (a_o_lived_cells, .inl (cI, 6, .inl f_o_lived_cells)), (a_p1, .inr (4, [.int v_p1_houses, .int v_p1_children, .int v_p1_living, .int v_p1_sideBits, .int v_p1_inherited, .int v_p1_theYear, .ref a_p1_worth, .ref a_p1_birth, .ref a_p1_home, .ref a_p1_kind, .ref a_p1_wealth])), (a_p1_birth, .inr (1, [.ref a_p1_birth_cells])), (a_p1_birth_cells, .inl (cI, 7, .inl f_p1_birth_cells)), (a_p1_home, .inr (1, [.ref a_p1_home_cells])), (a_p1_home_cells, .inl (cI, 7, .inl f_p1_home_cells)), (a_p1_kind, .inr (1, [.ref a_p1_kind_cells])), (a_p1_kind_cells, .inl (cI, 7, .inl f_p1_kind_cells))] → va_S A H0 H locs → lv_has ls 7 [(0, .ref a_o), (1, .ref a_p1), (2, .int x2), (3, .int x3), (4, .int x4)] → f_X2_countWrong_48 v_o_count f_o_house_cells f_o_child_cells f_o_lived_cells v_p1_houses v_p1_children f_p1_birth_cells f_p1_home_cells f_p1_kind_cells x2 (f_X2_countWrong_5 v_o_count f_o_house_cells f_o_child_cells f_o_lived_cells v_p1_houses v_p1_children f_p1_birth_cells f_p1_home_cells f_p1_kind_cells x2 n_5) x3 x4 t0 = some u → W p l e rm_X2_countWrong s m args below meth c H locs 0 0 Q (F0 m 48 ls [.int t0]) := by
        intro x3 x4 t0 H locs ls hP hD hS hl hf
        unfold f_X2_countWrong_48 at hf
        refine lv_istore (lv' := [(5, .int t0), (0, .ref a_o), (1, .ref a_p1), (2, .int x2), (3, .int x3), (4, .int x4)]) hx hb dX2_countWrong_48 hl (by decide) rfl (fun ls hl => ?_)
        refine lv_aload_n hx hb dX2_countWrong_50 rfl (lv_at hl 2 rfl) ?_
        refine lv_aload_n hx hb dX2_countWrong_51 rfl (lv_at hl 1 rfl) ?_
        refine va_get (D := (dC, dI)) (ci := 2) (v := .ref a_o_house) (C := RX2) (T := TX2) (N := 4) hx hb hts in_X2_countWrong_X2 hown hK hP 0 rfl rfl 0 (by decide) hk14 (fun _ h9 => h9) rfl dX2_countWrong_52 ?_
        refine lv_iload hx hb dX2_countWrong_55 (lv_at hl 5 rfl) ?_
        obtain ⟨u1, hu1, hf⟩ := kb1_e hf
        refine kc_i (wn := [(a_o, .inr (2, [.ref a_o_house, .ref a_o_child, .ref a_o_lived, .int v_o_count])), (a_o_house, .inr (1, [.ref a_o_house_cells])), (a_o_house_cells, .inl (cI, 6, .inl f_o_house_cells)), (a_o_child, .inr (1, [.ref a_o_child_cells])), (a_o_child_cells, .inl (cI, 6, .inl f_o_child_cells)), (a_o_lived, .inr (1, [.ref a_o_lived_cells])), (a_o_lived_cells, .inl (cI, 6, .inl f_o_lived_cells)), (a_p1, .inr (4, [.int v_p1_houses, .int v_p1_children, .int v_p1_living, .int v_p1_sideBits, .int v_p1_inherited, .int v_p1_theYear, .ref a_p1_worth, .ref a_p1_birth, .ref a_p1_home, .ref a_p1_kind, .ref a_p1_wealth])), (a_p1_birth, .inr (1, [.ref a_p1_birth_cells])), (a_p1_birth_cells, .inl (cI, 7, .inl f_p1_birth_cells)), (a_p1_home, .inr (1, [.ref a_p1_home_cells])), (a_p1_home_cells, .inl (cI, 7, .inl f_p1_home_cells)), (a_p1_kind, .inr (1, [.ref a_p1_kind_cells])), (a_p1_kind_cells, .inl (cI, 7, .inl f_p1_kind_cells))]) (kr_V (As := [.int x4]) (rest := [.ref a_p1]) ⟨hx, hb, hml, hown, hts⟩ hK hN hP hD hl.1 (c_X1_get l dC dI cI cZ a_o_house a_o_house_cells 6 f_o_house_cells x4 u1 hu1 H.size) sg_X1_get ⟨rfl, rfl⟩ ⟨Nat.le_of_ble_eq_true rfl, Nat.le_of_ble_eq_true rfl⟩ gX2_countWrong_X1_get 1 rfl rfl rfl [1, 2] (by decide) rfl rfl rfl (Nat.le_of_ble_eq_true rfl) dX2_countWrong_57 ⟨Nat.zero_le _, Nat.zero_le _⟩) hA hP hD hS [1, 2] rfl rfl rfl (fun H locs hP hD hS => ?_)
        refine lv_iload hx hb dX2_countWrong_60 (lv_at hl 0 rfl) ?_
        refine lv_aload_n hx hb dX2_countWrong_62 rfl (lv_at hl 1 rfl) ?_
        refine va_get (D := (dC, dI)) (ci := 2) (v := .ref a_o_lived) (C := RX2) (T := TX2) (N := 4) hx hb hts in_X2_countWrong_X2 hown hK hP 0 rfl rfl 2 (by decide) hk23 (fun _ h9 => h9) rfl dX2_countWrong_63 ?_
        refine lv_iload hx hb dX2_countWrong_66 (lv_at hl 5 rfl) ?_
        obtain ⟨u2, hu2, hf⟩ := kb1_e hf
        refine kc_i (wn := [(a_o, .inr (2, [.ref a_o_house, .ref a_o_child, .ref a_o_lived, .int v_o_count])), (a_o_house, .inr (1, [.ref a_o_house_cells])), (a_o_house_cells, .inl (cI, 6, .inl f_o_house_cells)), (a_o_child, .inr (1, [.ref a_o_child_cells])), (a_o_child_cells, .inl (cI, 6, .inl f_o_child_cells)), (a_o_lived, .inr (1, [.ref a_o_lived_cells])), (a_o_lived_cells, .inl (cI, 6, .inl f_o_lived_cells)), (a_p1, .inr (4, [.int v_p1_houses, .int v_p1_children, .int v_p1_living, .int v_p1_sideBits, .int v_p1_inherited, .int v_p1_theYear, .ref a_p1_worth, .ref a_p1_birth, .ref a_p1_home, .ref a_p1_kind, .ref a_p1_wealth])), (a_p1_birth, .inr (1, [.ref a_p1_birth_cells])), (a_p1_birth_cells, .inl (cI, 7, .inl f_p1_birth_cells)), (a_p1_home, .inr (1, [.ref a_p1_home_cells])), (a_p1_home_cells, .inl (cI, 7, .inl f_p1_home_cells)), (a_p1_kind, .inr (1, [.ref a_p1_kind_cells])), (a_p1_kind_cells, .inl (cI, 7, .inl f_p1_kind_cells))]) (kr_V (As := [.int x4]) (rest := [.int t0, .int u1, .ref a_p1]) ⟨hx, hb, hml, hown, hts⟩ hK hN hP hD hl.1 (c_X1_get l dC dI cI cZ a_o_lived a_o_lived_cells 6 f_o_lived_cells x4 u2 hu2 H.size) sg_X1_get ⟨rfl, rfl⟩ ⟨Nat.le_of_ble_eq_true rfl, Nat.le_of_ble_eq_true rfl⟩ gX2_countWrong_X1_get 5 rfl rfl rfl [5, 6] (by decide) rfl rfl rfl (Nat.le_of_ble_eq_true rfl) dX2_countWrong_68 ⟨Nat.zero_le _, Nat.zero_le _⟩) hA hP hD hS [5, 6] rfl rfl rfl (fun H locs hP hD hS => ?_)
        obtain ⟨u3, hu3, hf⟩ := kb1_e hf
        refine kc_i (wn := [(a_o, .inr (2, [.ref a_o_house, .ref a_o_child, .ref a_o_lived, .int v_o_count])), (a_o_house, .inr (1, [.ref a_o_house_cells])), (a_o_house_cells, .inl (cI, 6, .inl f_o_house_cells)), (a_o_child, .inr (1, [.ref a_o_child_cells])), (a_o_child_cells, .inl (cI, 6, .inl f_o_child_cells)), (a_o_lived, .inr (1, [.ref a_o_lived_cells])), (a_o_lived_cells, .inl (cI, 6, .inl f_o_lived_cells)), (a_p1, .inr (4, [.int v_p1_houses, .int v_p1_children, .int v_p1_living, .int v_p1_sideBits, .int v_p1_inherited, .int v_p1_theYear, .ref a_p1_worth, .ref a_p1_birth, .ref a_p1_home, .ref a_p1_kind, .ref a_p1_wealth])), (a_p1_birth, .inr (1, [.ref a_p1_birth_cells])), (a_p1_birth_cells, .inl (cI, 7, .inl f_p1_birth_cells)), (a_p1_home, .inr (1, [.ref a_p1_home_cells])), (a_p1_home_cells, .inl (cI, 7, .inl f_p1_home_cells)), (a_p1_kind, .inr (1, [.ref a_p1_kind_cells])), (a_p1_kind_cells, .inl (cI, 7, .inl f_p1_kind_cells))]) (kr_V (As := [.int u1, .int t0, .int u2]) (rest := []) ⟨hx, hb, hml, hown, hts⟩ hK hN hP hD hl.1 (c_X4_heirsAmong l dC dI cI cZ a_p1 a_p1_worth a_p1_birth a_p1_home a_p1_kind a_p1_wealth a_p1_birth_cells a_p1_home_cells a_p1_kind_cells v_p1_houses v_p1_children v_p1_living v_p1_sideBits v_p1_inherited v_p1_theYear f_p1_birth_cells f_p1_home_cells f_p1_kind_cells u1 t0 u2 u3 hu3 H.size) sg_X4_heirsAmong ⟨rfl, rfl⟩ ⟨Nat.le_of_ble_eq_true rfl, Nat.le_of_ble_eq_true rfl⟩ gX2_countWrong_X4_heirsAmong 7 rfl rfl rfl [7, 8, 9, 10, 11, 12, 13] (by decide) rfl rfl rfl (Nat.le_of_ble_eq_true rfl) dX2_countWrong_71 ⟨Nat.zero_le _, Nat.zero_le _⟩) hA hP hD hS [7, 8, 9, 10, 11, 12, 13] rfl rfl rfl (fun H locs hP hD hS => ?_)
        refine lv_istore (lv' := [(6, .int u3), (5, .int t0), (0, .ref a_o), (1, .ref a_p1), (2, .int x2), (3, .int x3), (4, .int x4)]) hx hb dX2_countWrong_74 hl (by decide) rfl (fun ls hl => ?_)
        refine lv_iload hx hb dX2_countWrong_76 (lv_at hl 0 rfl) ?_
        refine lv_aload_n hx hb dX2_countWrong_78 rfl (lv_at hl 2 rfl) ?_
        refine va_get (D := (dC, dI)) (ci := 2) (v := .ref a_o_child) (C := RX2) (T := TX2) (N := 4) hx hb hts in_X2_countWrong_X2 hown hK hP 0 rfl rfl 1 (by decide) hk20 (fun _ h9 => h9) rfl dX2_countWrong_79 ?_
        refine lv_iload hx hb dX2_countWrong_82 (lv_at hl 6 rfl) ?_
        obtain ⟨u4, hu4, hf⟩ := kb1_e hf
        refine kc_i (wn := [(a_o, .inr (2, [.ref a_o_house, .ref a_o_child, .ref a_o_lived, .int v_o_count])), (a_o_house, .inr (1, [.ref a_o_house_cells])), (a_o_house_cells, .inl (cI, 6, .inl f_o_house_cells)), (a_o_child, .inr (1, [.ref a_o_child_cells])), (a_o_child_cells, .inl (cI, 6, .inl f_o_child_cells)), (a_o_lived, .inr (1, [.ref a_o_lived_cells])), (a_o_lived_cells, .inl (cI, 6, .inl f_o_lived_cells)), (a_p1, .inr (4, [.int v_p1_houses, .int v_p1_children, .int v_p1_living, .int v_p1_sideBits, .int v_p1_inherited, .int v_p1_theYear, .ref a_p1_worth, .ref a_p1_birth, .ref a_p1_home, .ref a_p1_kind, .ref a_p1_wealth])), (a_p1_birth, .inr (1, [.ref a_p1_birth_cells])), (a_p1_birth_cells, .inl (cI, 7, .inl f_p1_birth_cells)), (a_p1_home, .inr (1, [.ref a_p1_home_cells])), (a_p1_home_cells, .inl (cI, 7, .inl f_p1_home_cells)), (a_p1_kind, .inr (1, [.ref a_p1_kind_cells])), (a_p1_kind_cells, .inl (cI, 7, .inl f_p1_kind_cells))]) (kr_V (As := [.int x4]) (rest := [.int u3]) ⟨hx, hb, hml, hown, hts⟩ hK hN hP hD hl.1 (c_X1_get l dC dI cI cZ a_o_child a_o_child_cells 6 f_o_child_cells x4 u4 hu4 H.size) sg_X1_get ⟨rfl, rfl⟩ ⟨Nat.le_of_ble_eq_true rfl, Nat.le_of_ble_eq_true rfl⟩ gX2_countWrong_X1_get 3 rfl rfl rfl [3, 4] (by decide) rfl rfl rfl (Nat.le_of_ble_eq_true rfl) dX2_countWrong_84 ⟨Nat.zero_le _, Nat.zero_le _⟩) hA hP hD hS [3, 4] rfl rfl rfl (fun H locs hP hD hS => ?_)
        obtain ⟨u5, hu5, hf⟩ := kb1_e hf
        refine kc_i (wn := [(a_o, .inr (2, [.ref a_o_house, .ref a_o_child, .ref a_o_lived, .int v_o_count])), (a_o_house, .inr (1, [.ref a_o_house_cells])), (a_o_house_cells, .inl (cI, 6, .inl f_o_house_cells)), (a_o_child, .inr (1, [.ref a_o_child_cells])), (a_o_child_cells, .inl (cI, 6, .inl f_o_child_cells)), (a_o_lived, .inr (1, [.ref a_o_lived_cells])), (a_o_lived_cells, .inl (cI, 6, .inl f_o_lived_cells)), (a_p1, .inr (4, [.int v_p1_houses, .int v_p1_children, .int v_p1_living, .int v_p1_sideBits, .int v_p1_inherited, .int v_p1_theYear, .ref a_p1_worth, .ref a_p1_birth, .ref a_p1_home, .ref a_p1_kind, .ref a_p1_wealth])), (a_p1_birth, .inr (1, [.ref a_p1_birth_cells])), (a_p1_birth_cells, .inl (cI, 7, .inl f_p1_birth_cells)), (a_p1_home, .inr (1, [.ref a_p1_home_cells])), (a_p1_home_cells, .inl (cI, 7, .inl f_p1_home_cells)), (a_p1_kind, .inr (1, [.ref a_p1_kind_cells])), (a_p1_kind_cells, .inl (cI, 7, .inl f_p1_kind_cells))]) (kr_N (host := RX5) (As := [.int u3, .int u4]) (rest := []) ⟨hx, hb, hml, hown, hts⟩ hK hN hP hD hl.1 (c_X5_isIn l dC dI cI cZ u3 u4 u5 hu5 H.size) sg_X5_isIn ⟨rfl, rfl⟩ ⟨Nat.le_of_ble_eq_true rfl, Nat.le_of_ble_eq_true rfl⟩ gX2_countWrong_X5_isIn_n54 (by decide +kernel) (by decide +kernel) (by decide +kernel) [] (by decide) rfl rfl rfl (Nat.le_of_ble_eq_true rfl) dX2_countWrong_87 ⟨Nat.zero_le _, Nat.zero_le _⟩) hA hP hD hS [] rfl rfl rfl (fun H locs hP hD hS => ?_)
        refine lv_if_ne (tgt := 96) hx hb dX2_countWrong_90 (by decide) (fun c6 => ?_) (fun c6 => ?_)
        · replace hf := kf c6 hf
          refine lv_iinc (v := (x4 + (1 : Int32))) (lv' := [(4, .int (x4 + (1 : Int32))), (6, .int u3), (5, .int t0), (0, .ref a_o), (1, .ref a_p1), (2, .int x2), (3, .int x3)]) hx hb dX2_countWrong_96 hl (k := 6) rfl rfl (by decide) rfl (fun ls hl => ?_)
          refine lv_goto (tgt := 5) hx hb dX2_countWrong_99 (by decide) ?_
          exact ih_5 x3 (x4 + (1 : Int32)) H locs ls hP hD hS (lv_sub hl [3, 4, 5, 6, 0] rfl) hf
        · replace hf := kt c6 hf
          refine lv_iinc (v := (x3 + (1 : Int32))) (lv' := [(3, .int (x3 + (1 : Int32))), (6, .int u3), (5, .int t0), (0, .ref a_o), (1, .ref a_p1), (2, .int x2), (4, .int x4)]) hx hb dX2_countWrong_93 hl (k := 5) rfl rfl (by decide) rfl (fun ls hl => ?_)
          refine lv_iinc (v := (x4 + (1 : Int32))) (lv' := [(4, .int (x4 + (1 : Int32))), (3, .int (x3 + (1 : Int32))), (6, .int u3), (5, .int t0), (0, .ref a_o), (1, .ref a_p1), (2, .int x2)]) hx hb dX2_countWrong_96 hl (k := 6) rfl rfl (by decide) rfl (fun ls hl => ?_)
          refine lv_goto (tgt := 5) hx hb dX2_countWrong_99 (by decide) ?_
          exact ih_5 (x3 + (1 : Int32)) (x4 + (1 : Int32)) H locs ls hP hD hS (lv_sub hl [4, 5, 6, 1, 0] rfl) hf
      intro x3 x4 H locs ls hP hD hS hl hf
      have hf : f_X2_countWrong_5_b v_o_count f_o_house_cells f_o_child_cells f_o_lived_cells v_p1_houses v_p1_children f_p1_birth_cells f_p1_home_cells f_p1_kind_cells x2 (f_X2_countWrong_5 v_o_count f_o_house_cells f_o_child_cells f_o_lived_cells v_p1_houses v_p1_children f_p1_birth_cells f_p1_home_cells f_p1_kind_cells x2 n_5) x3 x4 = some u := hf
      unfold f_X2_countWrong_5_b at hf
      refine lv_iload hx hb dX2_countWrong_5 (lv_at hl 4 rfl) ?_
      refine lv_aload_n hx hb dX2_countWrong_7 rfl (lv_at hl 0 rfl) ?_
      refine va_get (D := (dC, dI)) (ci := 2) (v := .int v_o_count) (C := RX2) (T := TX2) (N := 4) hx hb hts in_X2_countWrong_X2 hown hK hP 0 rfl rfl 3 (by decide) hk26 (fun _ h9 => h9) rfl dX2_countWrong_8 ?_
      refine lv_icmp_ge (tgt := 102) hx hb dX2_countWrong_11 (by decide) (fun c7 => ?_) (fun c7 => ?_)
      · replace hf := kt c7 hf
        refine lv_iload_n hx hb dX2_countWrong_102 rfl (lv_at hl 3 rfl) ?_
        cases hf
        exact hend _ _ _ _ dX2_countWrong_103 rfl hP hS
      · replace hf := kf c7 hf
        refine lv_aload_n hx hb dX2_countWrong_14 rfl (lv_at hl 0 rfl) ?_
        refine lv_aload_n hx hb dX2_countWrong_15 rfl (lv_at hl 1 rfl) ?_
        refine lv_iload hx hb dX2_countWrong_16 (lv_at hl 4 rfl) ?_
        obtain ⟨u8, hu8, hf⟩ := kb1_e hf
        refine kc_i (wn := [(a_o, .inr (2, [.ref a_o_house, .ref a_o_child, .ref a_o_lived, .int v_o_count])), (a_o_house, .inr (1, [.ref a_o_house_cells])), (a_o_house_cells, .inl (cI, 6, .inl f_o_house_cells)), (a_o_child, .inr (1, [.ref a_o_child_cells])), (a_o_child_cells, .inl (cI, 6, .inl f_o_child_cells)), (a_o_lived, .inr (1, [.ref a_o_lived_cells])), (a_o_lived_cells, .inl (cI, 6, .inl f_o_lived_cells)), (a_p1, .inr (4, [.int v_p1_houses, .int v_p1_children, .int v_p1_living, .int v_p1_sideBits, .int v_p1_inherited, .int v_p1_theYear, .ref a_p1_worth, .ref a_p1_birth, .ref a_p1_home, .ref a_p1_kind, .ref a_p1_wealth])), (a_p1_birth, .inr (1, [.ref a_p1_birth_cells])), (a_p1_birth_cells, .inl (cI, 7, .inl f_p1_birth_cells)), (a_p1_home, .inr (1, [.ref a_p1_home_cells])), (a_p1_home_cells, .inl (cI, 7, .inl f_p1_home_cells)), (a_p1_kind, .inr (1, [.ref a_p1_kind_cells])), (a_p1_kind_cells, .inl (cI, 7, .inl f_p1_kind_cells))]) (kr_V (As := [.ref a_p1, .int x4]) (rest := []) ⟨hx, hb, hml, hown, hts⟩ hK hN hP hD hl.1 (c_X2_isLookedAt l dC dI cI cZ a_o a_o_house a_o_child a_o_lived a_o_house_cells a_o_child_cells a_o_lived_cells a_p1 a_p1_worth a_p1_birth a_p1_home a_p1_kind a_p1_wealth v_o_count f_o_house_cells f_o_child_cells f_o_lived_cells v_p1_houses v_p1_children v_p1_living v_p1_sideBits v_p1_inherited v_p1_theYear x4 u8 hu8 H.size) sg_X2_isLookedAt ⟨rfl, rfl⟩ ⟨Nat.le_of_ble_eq_true rfl, Nat.le_of_ble_eq_true rfl⟩ gX2_countWrong_X2_isLookedAt 0 rfl rfl rfl [0, 1, 2, 3, 4, 5, 6, 7] (by decide) rfl rfl rfl (Nat.le_of_ble_eq_true rfl) dX2_countWrong_18 ⟨Nat.zero_le _, Nat.zero_le _⟩) hA hP hD hS [0, 1, 2, 3, 4, 5, 6, 7] rfl rfl rfl (fun H locs hP hD hS => ?_)
        refine lv_if_ne (tgt := 27) hx hb dX2_countWrong_21 (by decide) (fun c9 => ?_) (fun c9 => ?_)
        · replace hf := kf c9 hf
          refine lv_iload_n hx hb dX2_countWrong_27 rfl (lv_at hl 2 rfl) ?_
          refine lv_aload_n hx hb dX2_countWrong_28 rfl (lv_at hl 0 rfl) ?_
          refine va_get (D := (dC, dI)) (ci := 2) (v := .ref a_o_house) (C := RX2) (T := TX2) (N := 4) hx hb hts in_X2_countWrong_X2 hown hK hP 0 rfl rfl 0 (by decide) hk14 (fun _ h9 => h9) rfl dX2_countWrong_29 ?_
          refine lv_iload hx hb dX2_countWrong_32 (lv_at hl 4 rfl) ?_
          obtain ⟨u10, hu10, hf⟩ := kb1_e hf
          refine kc_i (wn := [(a_o, .inr (2, [.ref a_o_house, .ref a_o_child, .ref a_o_lived, .int v_o_count])), (a_o_house, .inr (1, [.ref a_o_house_cells])), (a_o_house_cells, .inl (cI, 6, .inl f_o_house_cells)), (a_o_child, .inr (1, [.ref a_o_child_cells])), (a_o_child_cells, .inl (cI, 6, .inl f_o_child_cells)), (a_o_lived, .inr (1, [.ref a_o_lived_cells])), (a_o_lived_cells, .inl (cI, 6, .inl f_o_lived_cells)), (a_p1, .inr (4, [.int v_p1_houses, .int v_p1_children, .int v_p1_living, .int v_p1_sideBits, .int v_p1_inherited, .int v_p1_theYear, .ref a_p1_worth, .ref a_p1_birth, .ref a_p1_home, .ref a_p1_kind, .ref a_p1_wealth])), (a_p1_birth, .inr (1, [.ref a_p1_birth_cells])), (a_p1_birth_cells, .inl (cI, 7, .inl f_p1_birth_cells)), (a_p1_home, .inr (1, [.ref a_p1_home_cells])), (a_p1_home_cells, .inl (cI, 7, .inl f_p1_home_cells)), (a_p1_kind, .inr (1, [.ref a_p1_kind_cells])), (a_p1_kind_cells, .inl (cI, 7, .inl f_p1_kind_cells))]) (kr_V (As := [.int x4]) (rest := [.int x2]) ⟨hx, hb, hml, hown, hts⟩ hK hN hP hD hl.1 (c_X1_get l dC dI cI cZ a_o_house a_o_house_cells 6 f_o_house_cells x4 u10 hu10 H.size) sg_X1_get ⟨rfl, rfl⟩ ⟨Nat.le_of_ble_eq_true rfl, Nat.le_of_ble_eq_true rfl⟩ gX2_countWrong_X1_get 1 rfl rfl rfl [1, 2] (by decide) rfl rfl rfl (Nat.le_of_ble_eq_true rfl) dX2_countWrong_34 ⟨Nat.zero_le _, Nat.zero_le _⟩) hA hP hD hS [1, 2] rfl rfl rfl (fun H locs hP hD hS => ?_)
          obtain ⟨u11, hu11, hf⟩ := kb1_e hf
          refine kc_i (wn := [(a_o, .inr (2, [.ref a_o_house, .ref a_o_child, .ref a_o_lived, .int v_o_count])), (a_o_house, .inr (1, [.ref a_o_house_cells])), (a_o_house_cells, .inl (cI, 6, .inl f_o_house_cells)), (a_o_child, .inr (1, [.ref a_o_child_cells])), (a_o_child_cells, .inl (cI, 6, .inl f_o_child_cells)), (a_o_lived, .inr (1, [.ref a_o_lived_cells])), (a_o_lived_cells, .inl (cI, 6, .inl f_o_lived_cells)), (a_p1, .inr (4, [.int v_p1_houses, .int v_p1_children, .int v_p1_living, .int v_p1_sideBits, .int v_p1_inherited, .int v_p1_theYear, .ref a_p1_worth, .ref a_p1_birth, .ref a_p1_home, .ref a_p1_kind, .ref a_p1_wealth])), (a_p1_birth, .inr (1, [.ref a_p1_birth_cells])), (a_p1_birth_cells, .inl (cI, 7, .inl f_p1_birth_cells)), (a_p1_home, .inr (1, [.ref a_p1_home_cells])), (a_p1_home_cells, .inl (cI, 7, .inl f_p1_home_cells)), (a_p1_kind, .inr (1, [.ref a_p1_kind_cells])), (a_p1_kind_cells, .inl (cI, 7, .inl f_p1_kind_cells))]) (kr_N (host := RX5) (As := [.int x2, .int u10]) (rest := []) ⟨hx, hb, hml, hown, hts⟩ hK hN hP hD hl.1 (c_X5_isIn l dC dI cI cZ x2 u10 u11 hu11 H.size) sg_X5_isIn ⟨rfl, rfl⟩ ⟨Nat.le_of_ble_eq_true rfl, Nat.le_of_ble_eq_true rfl⟩ gX2_countWrong_X5_isIn_n54 (by decide +kernel) (by decide +kernel) (by decide +kernel) [] (by decide) rfl rfl rfl (Nat.le_of_ble_eq_true rfl) dX2_countWrong_37 ⟨Nat.zero_le _, Nat.zero_le _⟩) hA hP hD hS [] rfl rfl rfl (fun H locs hP hD hS => ?_)
          refine lv_if_eq (tgt := 47) hx hb dX2_countWrong_40 (by decide) (fun c12 => ?_) (fun c12 => ?_)
          · replace hf := kt c12 hf
            refine lv_iconst (v := (0 : Int32)) hx hb dX2_countWrong_47 (by decide) ?_
            exact J_48 x3 x4 (0 : Int32) H locs ls hP hD hS (lv_sub hl [0, 1, 2, 3, 4] rfl) hf
          · replace hf := kf c12 hf
            refine lv_iconst (v := (1 : Int32)) hx hb dX2_countWrong_43 (by decide) ?_
            refine lv_goto (tgt := 48) hx hb dX2_countWrong_44 (by decide) ?_
            exact J_48 x3 x4 (1 : Int32) H locs ls hP hD hS (lv_sub hl [0, 1, 2, 3, 4] rfl) hf
        · replace hf := kt c9 hf
          refine lv_goto (tgt := 96) hx hb dX2_countWrong_24 (by decide) ?_
          refine lv_iinc (v := (x4 + (1 : Int32))) (lv' := [(4, .int (x4 + (1 : Int32))), (0, .ref a_o), (1, .ref a_p1), (2, .int x2), (3, .int x3)]) hx hb dX2_countWrong_96 hl (k := 4) rfl rfl (by decide) rfl (fun ls hl => ?_)
          refine lv_goto (tgt := 5) hx hb dX2_countWrong_99 (by decide) ?_
          exact ih_5 x3 (x4 + (1 : Int32)) H locs ls hP hD hS (lv_sub hl [1, 2, 3, 4, 0] rfl) hf
  unfold f_X2_countWrong at hf
  refine lv_iconst (v := (0 : Int32)) hx hb dX2_countWrong_0 (by decide) ?_
  refine lv_istore_n (lv' := [(3, .int (0 : Int32)), (0, .ref a_o), (1, .ref a_p1), (2, .int x2)]) hx hb dX2_countWrong_1 rfl hl (by decide) rfl (fun ls hl => ?_)
  refine lv_iconst (v := (0 : Int32)) hx hb dX2_countWrong_2 (by decide) ?_
  refine lv_istore (lv' := [(4, .int (0 : Int32)), (3, .int (0 : Int32)), (0, .ref a_o), (1, .ref a_p1), (2, .int x2)]) hx hb dX2_countWrong_3 hl (by decide) rfl (fun ls hl => ?_)
  exact J_5 1000 (0 : Int32) (0 : Int32) H locs ls hP hD hS (lv_sub hl [2, 3, 4, 1, 0] rfl) hf
theorem sg_X2_countRight : kSig yX2_countRight wsX2_countRight cX2_countRight 4 (some .int) RX2 1 := ⟨⟨_, rfl⟩, rfl, by decide, by decide +kernel, by decide +kernel, by decide +kernel⟩
abbrev rm_X2_countRight : Room := { frames := 5, cells := 0, slots := 0, locals := 122 }
set_option maxRecDepth 20000 in
theorem in_X2_countRight_X4 : ∀ w ∈ u_ws RX4 TX4 11, w ∈ wsX2_countRight := by decide +kernel
set_option maxHeartbeats 4000000 in
set_option maxRecDepth 100000 in
theorem c_X2_countRight (l : Launch) (dC : Nat → ClassId) (dI : Nat → Nat → Nat) (cI cZ : ClassId) (a_o a_o_house a_o_child a_o_lived a_o_house_cells a_o_child_cells a_o_lived_cells a_p1 a_p1_worth a_p1_birth a_p1_home a_p1_kind a_p1_wealth a_p1_birth_cells a_p1_home_cells a_p1_kind_cells : Nat) (v_o_count : Int32) (f_o_house_cells : Nat → Int32) (f_o_child_cells : Nat → Int32) (f_o_lived_cells : Nat → Int32) (v_p1_houses : Int32) (v_p1_children : Int32) (v_p1_living : Int32) (v_p1_sideBits : Int32) (v_p1_inherited : Int32) (v_p1_theYear : Int32) (f_p1_birth_cells : Nat → Int32) (f_p1_home_cells : Nat → Int32) (f_p1_kind_cells : Nat → Int32)  (u : Int32) (hf : f_X2_countRight v_o_count f_o_house_cells f_o_child_cells f_o_lived_cells v_p1_houses v_p1_children f_p1_birth_cells f_p1_home_cells f_p1_kind_cells = some u) : kMi l yX2_countRight wsX2_countRight rm_X2_countRight (dC, dI) (kTy cI cZ) [.ref a_o, .ref a_p1] [(a_o, .inr (2, [.ref a_o_house, .ref a_o_child, .ref a_o_lived, .int v_o_count])), (a_o_house, .inr (1, [.ref a_o_house_cells])), (a_o_house_cells, .inl (cI, 6, .inl f_o_house_cells)), (a_o_child, .inr (1, [.ref a_o_child_cells])), (a_o_child_cells, .inl (cI, 6, .inl f_o_child_cells)), (a_o_lived, .inr (1, [.ref a_o_lived_cells])), (a_o_lived_cells, .inl (cI, 6, .inl f_o_lived_cells)), (a_p1, .inr (4, [.int v_p1_houses, .int v_p1_children, .int v_p1_living, .int v_p1_sideBits, .int v_p1_inherited, .int v_p1_theYear, .ref a_p1_worth, .ref a_p1_birth, .ref a_p1_home, .ref a_p1_kind, .ref a_p1_wealth])), (a_p1_birth, .inr (1, [.ref a_p1_birth_cells])), (a_p1_birth_cells, .inl (cI, 7, .inl f_p1_birth_cells)), (a_p1_home, .inr (1, [.ref a_p1_home_cells])), (a_p1_home_cells, .inl (cI, 7, .inl f_p1_home_cells)), (a_p1_kind, .inr (1, [.ref a_p1_kind_cells])), (a_p1_kind_cells, .inl (cI, 7, .inl f_p1_kind_cells))] [(a_o, .inr (2, [.ref a_o_house, .ref a_o_child, .ref a_o_lived, .int v_o_count])), (a_o_house, .inr (1, [.ref a_o_house_cells])), (a_o_house_cells, .inl (cI, 6, .inl f_o_house_cells)), (a_o_child, .inr (1, [.ref a_o_child_cells])), (a_o_child_cells, .inl (cI, 6, .inl f_o_child_cells)), (a_o_lived, .inr (1, [.ref a_o_lived_cells])), (a_o_lived_cells, .inl (cI, 6, .inl f_o_lived_cells)), (a_p1, .inr (4, [.int v_p1_houses, .int v_p1_children, .int v_p1_living, .int v_p1_sideBits, .int v_p1_inherited, .int v_p1_theYear, .ref a_p1_worth, .ref a_p1_birth, .ref a_p1_home, .ref a_p1_kind, .ref a_p1_wealth])), (a_p1_birth, .inr (1, [.ref a_p1_birth_cells])), (a_p1_birth_cells, .inl (cI, 7, .inl f_p1_birth_cells)), (a_p1_home, .inr (1, [.ref a_p1_home_cells])), (a_p1_home_cells, .inl (cI, 7, .inl f_p1_home_cells)), (a_p1_kind, .inr (1, [.ref a_p1_kind_cells])), (a_p1_kind_cells, .inl (cI, 7, .inl f_p1_kind_cells))] u := by
  refine kMi_of sg_X2_countRight ⟨rfl, rfl⟩ (Nat.le_of_ble_eq_true rfl) ?_
  intro p e s m args below meth c A H0 Q hx hb hml hown hts hK hN hA hend H locs ls hP hD hS hl
  have hl : lv_has ls 4 [(0, .ref a_o), (1, .ref a_p1)] := hl
  have hk34 := va_Nw.use (A := args) rfl (hN (.fieldLinkNest RX2 34 RX4 "houses" "I" RX5) (by decide +kernel))
  have J_4 : ∀ (n_4 : Nat), ∀ (x2 : Int32) (x3 : Int32) (H : Heap) (locs : List Loc) (ls : Array Slot), va_P (dC, dI) vwCl [(a_o, .inr (2, [.ref a_o_house, .ref a_o_child, .ref a_o_lived, .int v_o_count])), (a_o_house, .inr (1, [.ref a_o_house_cells])), (a_o_house_cells, .inl (cI, 6, .inl f_o_house_cells)), (a_o_child, .inr (1, [.ref a_o_child_cells])), (a_o_child_cells, .inl (cI, 6, .inl f_o_child_cells)), (a_o_lived, .inr (1, [.ref a_o_lived_cells])), (a_o_lived_cells, .inl (cI, 6, .inl f_o_lived_cells)), (a_p1, .inr (4, [.int v_p1_houses, .int v_p1_children, .int v_p1_living, .int v_p1_sideBits, .int v_p1_inherited, .int v_p1_theYear, .ref a_p1_worth, .ref a_p1_birth, .ref a_p1_home, .ref a_p1_kind, .ref a_p1_wealth])), (a_p1_birth, .inr (1, [.ref a_p1_birth_cells])), (a_p1_birth_cells, .inl (cI, 7, .inl f_p1_birth_cells)), (a_p1_home, .inr (1, [.ref a_p1_home_cells])), (a_p1_home_cells, .inl (cI, 7, .inl f_p1_home_cells)), (a_p1_kind, .inr (1, [.ref a_p1_kind_cells])), (a_p1_kind_cells, .inl (cI, 7, .inl f_p1_kind_cells))] H → va_D A [(a_o, .inr (2, [.ref a_o_house, .ref a_o_child, .ref a_o_lived, .int v_o_count])), (a_o_house, .inr (1, [.ref a_o_house_cells])), (a_o_house_cells, .inl (cI, 6, .inl f_o_house_cells)), (a_o_child, .inr (1, [.ref a_o_child_cells])), (a_o_child_cells, .inl (cI, 6, .inl f_o_child_cells)), (a_o_lived, .inr (1, [.ref a_o_lived_cells])), (a_o_lived_cells, .inl (cI, 6, .inl f_o_lived_cells)), (a_p1, .inr (4, [.int v_p1_houses, .int v_p1_children, .int v_p1_living, .int v_p1_sideBits, .int v_p1_inherited, .int v_p1_theYear, .ref a_p1_worth, .ref a_p1_birth, .ref a_p1_home, .ref a_p1_kind, .ref a_p1_wealth])), (a_p1_birth, .inr (1, [.ref a_p1_birth_cells])), (a_p1_birth_cells, .inl (cI, 7, .inl f_p1_birth_cells)), (a_p1_home, .inr (1, [.ref a_p1_home_cells])), (a_p1_home_cells, .inl (cI, 7, .inl f_p1_home_cells)), (a_p1_kind, .inr (1, [.ref a_p1_kind_cells])), (a_p1_kind_cells, .inl (cI, 7, .inl f_p1_kind_cells))] → va_S A H0 H locs → lv_has ls 4 [(0, .ref a_o), (1, .ref a_p1), (2, .int x2), (3, .int x3)] → f_X2_countRight_4 v_o_count f_o_house_cells f_o_child_cells f_o_lived_cells v_p1_houses v_p1_children f_p1_birth_cells f_p1_home_cells f_p1_kind_cells n_4 x2 x3 = some u → W p l e rm_X2_countRight s m args below meth c H locs 0 0 Q (F0 m 4 ls []) := by
    intro n_4
    induction n_4 with
    | zero => intro x2 x3 H locs ls hP hD hS hl hf; exact nomatch hf
    | succ n_4 ih_4 =>
      intro x2 x3 H locs ls hP hD hS hl hf
      have hf : f_X2_countRight_4_b v_o_count f_o_house_cells f_o_child_cells f_o_lived_cells v_p1_houses v_p1_children f_p1_birth_cells f_p1_home_cells f_p1_kind_cells (f_X2_countRight_4 v_o_count f_o_house_cells f_o_child_cells f_o_lived_cells v_p1_houses v_p1_children f_p1_birth_cells f_p1_home_cells f_p1_kind_cells n_4) x2 x3 = some u := hf
      unfold f_X2_countRight_4_b at hf
      refine lv_iload_n hx hb dX2_countRight_4 rfl (lv_at hl 3 rfl) ?_
      refine lv_aload_n hx hb dX2_countRight_5 rfl (lv_at hl 1 rfl) ?_
      refine va_getN (D := (dC, dI)) (ci := 4) (v := .int v_p1_houses) (C := RX4) (T := TX4) (N := 11) hx hb hts in_X2_countRight_X4 hown hK hP 7 rfl rfl 0 (by decide) hk34 (fun _ h9 => h9) rfl dX2_countRight_6 ?_
      obtain ⟨u1, hu1, hf⟩ := kb1_e hf
      refine kc_i (wn := [(a_o, .inr (2, [.ref a_o_house, .ref a_o_child, .ref a_o_lived, .int v_o_count])), (a_o_house, .inr (1, [.ref a_o_house_cells])), (a_o_house_cells, .inl (cI, 6, .inl f_o_house_cells)), (a_o_child, .inr (1, [.ref a_o_child_cells])), (a_o_child_cells, .inl (cI, 6, .inl f_o_child_cells)), (a_o_lived, .inr (1, [.ref a_o_lived_cells])), (a_o_lived_cells, .inl (cI, 6, .inl f_o_lived_cells)), (a_p1, .inr (4, [.int v_p1_houses, .int v_p1_children, .int v_p1_living, .int v_p1_sideBits, .int v_p1_inherited, .int v_p1_theYear, .ref a_p1_worth, .ref a_p1_birth, .ref a_p1_home, .ref a_p1_kind, .ref a_p1_wealth])), (a_p1_birth, .inr (1, [.ref a_p1_birth_cells])), (a_p1_birth_cells, .inl (cI, 7, .inl f_p1_birth_cells)), (a_p1_home, .inr (1, [.ref a_p1_home_cells])), (a_p1_home_cells, .inl (cI, 7, .inl f_p1_home_cells)), (a_p1_kind, .inr (1, [.ref a_p1_kind_cells])), (a_p1_kind_cells, .inl (cI, 7, .inl f_p1_kind_cells))]) (kr_N (host := RX5) (As := [.int v_p1_houses]) (rest := [.int x3]) ⟨hx, hb, hml, hown, hts⟩ hK hN hP hD hl.1 (c_X5_bit l dC dI cI cZ v_p1_houses u1 hu1 H.size) sg_X5_bit ⟨rfl, rfl⟩ ⟨Nat.le_of_ble_eq_true rfl, Nat.le_of_ble_eq_true rfl⟩ gX2_countRight_X5_bit_n39 (by decide +kernel) (by decide +kernel) (by decide +kernel) [] (by decide) rfl rfl rfl (Nat.le_of_ble_eq_true rfl) dX2_countRight_9 ⟨Nat.zero_le _, Nat.zero_le _⟩) hA hP hD hS [] rfl rfl rfl (fun H locs hP hD hS => ?_)
      refine lv_icmp_ge (tgt := 33) hx hb dX2_countRight_12 (by decide) (fun c2 => ?_) (fun c2 => ?_)
      · replace hf := kt c2 hf
        refine lv_iload_n hx hb dX2_countRight_33 rfl (lv_at hl 2 rfl) ?_
        cases hf
        exact hend _ _ _ _ dX2_countRight_34 rfl hP hS
      · replace hf := kf c2 hf
        refine lv_aload_n hx hb dX2_countRight_15 rfl (lv_at hl 0 rfl) ?_
        refine lv_aload_n hx hb dX2_countRight_16 rfl (lv_at hl 1 rfl) ?_
        refine lv_iload_n hx hb dX2_countRight_17 rfl (lv_at hl 3 rfl) ?_
        obtain ⟨u3, hu3, hf⟩ := kb1_e hf
        refine kc_i (wn := [(a_o, .inr (2, [.ref a_o_house, .ref a_o_child, .ref a_o_lived, .int v_o_count])), (a_o_house, .inr (1, [.ref a_o_house_cells])), (a_o_house_cells, .inl (cI, 6, .inl f_o_house_cells)), (a_o_child, .inr (1, [.ref a_o_child_cells])), (a_o_child_cells, .inl (cI, 6, .inl f_o_child_cells)), (a_o_lived, .inr (1, [.ref a_o_lived_cells])), (a_o_lived_cells, .inl (cI, 6, .inl f_o_lived_cells)), (a_p1, .inr (4, [.int v_p1_houses, .int v_p1_children, .int v_p1_living, .int v_p1_sideBits, .int v_p1_inherited, .int v_p1_theYear, .ref a_p1_worth, .ref a_p1_birth, .ref a_p1_home, .ref a_p1_kind, .ref a_p1_wealth])), (a_p1_birth, .inr (1, [.ref a_p1_birth_cells])), (a_p1_birth_cells, .inl (cI, 7, .inl f_p1_birth_cells)), (a_p1_home, .inr (1, [.ref a_p1_home_cells])), (a_p1_home_cells, .inl (cI, 7, .inl f_p1_home_cells)), (a_p1_kind, .inr (1, [.ref a_p1_kind_cells])), (a_p1_kind_cells, .inl (cI, 7, .inl f_p1_kind_cells))]) (kr_V (As := [.ref a_p1, .int x3]) (rest := []) ⟨hx, hb, hml, hown, hts⟩ hK hN hP hD hl.1 (c_X2_countWrong l dC dI cI cZ a_o a_o_house a_o_child a_o_lived a_o_house_cells a_o_child_cells a_o_lived_cells a_p1 a_p1_worth a_p1_birth a_p1_home a_p1_kind a_p1_wealth a_p1_birth_cells a_p1_home_cells a_p1_kind_cells v_o_count f_o_house_cells f_o_child_cells f_o_lived_cells v_p1_houses v_p1_children v_p1_living v_p1_sideBits v_p1_inherited v_p1_theYear f_p1_birth_cells f_p1_home_cells f_p1_kind_cells x3 u3 hu3 H.size) sg_X2_countWrong ⟨rfl, rfl⟩ ⟨Nat.le_of_ble_eq_true rfl, Nat.le_of_ble_eq_true rfl⟩ gX2_countRight_X2_countWrong 0 rfl rfl rfl [0, 1, 2, 3, 4, 5, 6, 7, 8, 9, 10, 11, 12, 13] (by decide) rfl rfl rfl (Nat.le_of_ble_eq_true rfl) dX2_countRight_18 ⟨Nat.zero_le _, Nat.zero_le _⟩) hA hP hD hS [0, 1, 2, 3, 4, 5, 6, 7, 8, 9, 10, 11, 12, 13] rfl rfl rfl (fun H locs hP hD hS => ?_)
        refine lv_if_ne (tgt := 27) hx hb dX2_countRight_21 (by decide) (fun c4 => ?_) (fun c4 => ?_)
        · replace hf := kf c4 hf
          refine lv_iinc (v := (x3 + (1 : Int32))) (lv' := [(3, .int (x3 + (1 : Int32))), (0, .ref a_o), (1, .ref a_p1), (2, .int x2)]) hx hb dX2_countRight_27 hl (k := 3) rfl rfl (by decide) rfl (fun ls hl => ?_)
          refine lv_goto (tgt := 4) hx hb dX2_countRight_30 (by decide) ?_
          exact ih_4 x2 (x3 + (1 : Int32)) H locs ls hP hD hS (lv_sub hl [1, 2, 3, 0] rfl) hf
        · replace hf := kt c4 hf
          refine lv_iinc (v := (x2 + (1 : Int32))) (lv' := [(2, .int (x2 + (1 : Int32))), (0, .ref a_o), (1, .ref a_p1), (3, .int x3)]) hx hb dX2_countRight_24 hl (k := 2) rfl rfl (by decide) rfl (fun ls hl => ?_)
          refine lv_iinc (v := (x3 + (1 : Int32))) (lv' := [(3, .int (x3 + (1 : Int32))), (2, .int (x2 + (1 : Int32))), (0, .ref a_o), (1, .ref a_p1)]) hx hb dX2_countRight_27 hl (k := 3) rfl rfl (by decide) rfl (fun ls hl => ?_)
          refine lv_goto (tgt := 4) hx hb dX2_countRight_30 (by decide) ?_
          exact ih_4 (x2 + (1 : Int32)) (x3 + (1 : Int32)) H locs ls hP hD hS (lv_sub hl [2, 3, 1, 0] rfl) hf
  unfold f_X2_countRight at hf
  refine lv_iconst (v := (0 : Int32)) hx hb dX2_countRight_0 (by decide) ?_
  refine lv_istore_n (lv' := [(2, .int (0 : Int32)), (0, .ref a_o), (1, .ref a_p1)]) hx hb dX2_countRight_1 rfl hl (by decide) rfl (fun ls hl => ?_)
  refine lv_iconst (v := (0 : Int32)) hx hb dX2_countRight_2 (by decide) ?_
  refine lv_istore_n (lv' := [(3, .int (0 : Int32)), (2, .int (0 : Int32)), (0, .ref a_o), (1, .ref a_p1)]) hx hb dX2_countRight_3 rfl hl (by decide) rfl (fun ls hl => ?_)
  exact J_4 1000 (0 : Int32) (0 : Int32) H locs ls hP hD hS (lv_sub hl [2, 3, 1, 0] rfl) hf
theorem sg_X2_alwaysOn : kSig yX2_alwaysOn wsX2_alwaysOn cX2_alwaysOn 6 (some .int) RX2 2 := ⟨⟨_, rfl⟩, rfl, by decide, by decide +kernel, by decide +kernel, by decide +kernel⟩
abbrev rm_X2_alwaysOn : Room := { frames := 5, cells := 0, slots := 0, locals := 122 }
set_option maxRecDepth 20000 in
theorem in_X2_alwaysOn_X4 : ∀ w ∈ u_ws RX4 TX4 11, w ∈ wsX2_alwaysOn := by decide +kernel
set_option maxHeartbeats 4000000 in
set_option maxRecDepth 100000 in
theorem c_X2_alwaysOn (l : Launch) (dC : Nat → ClassId) (dI : Nat → Nat → Nat) (cI cZ : ClassId) (a_o a_o_house a_o_child a_o_lived a_o_house_cells a_o_child_cells a_o_lived_cells a_p2 a_p2_worth a_p2_birth a_p2_home a_p2_kind a_p2_wealth a_p2_birth_cells a_p2_home_cells a_p2_kind_cells : Nat) (v_o_count : Int32) (f_o_house_cells : Nat → Int32) (f_o_child_cells : Nat → Int32) (f_o_lived_cells : Nat → Int32) (v_p2_houses : Int32) (v_p2_children : Int32) (v_p2_living : Int32) (v_p2_sideBits : Int32) (v_p2_inherited : Int32) (v_p2_theYear : Int32) (f_p2_birth_cells : Nat → Int32) (f_p2_home_cells : Nat → Int32) (f_p2_kind_cells : Nat → Int32) (x1 : Int32) (u : Int32) (hf : f_X2_alwaysOn v_o_count f_o_house_cells f_o_child_cells f_o_lived_cells v_p2_houses v_p2_children f_p2_birth_cells f_p2_home_cells f_p2_kind_cells x1 = some u) : kMi l yX2_alwaysOn wsX2_alwaysOn rm_X2_alwaysOn (dC, dI) (kTy cI cZ) [.ref a_o, .int x1, .ref a_p2] [(a_o, .inr (2, [.ref a_o_house, .ref a_o_child, .ref a_o_lived, .int v_o_count])), (a_o_house, .inr (1, [.ref a_o_house_cells])), (a_o_house_cells, .inl (cI, 6, .inl f_o_house_cells)), (a_o_child, .inr (1, [.ref a_o_child_cells])), (a_o_child_cells, .inl (cI, 6, .inl f_o_child_cells)), (a_o_lived, .inr (1, [.ref a_o_lived_cells])), (a_o_lived_cells, .inl (cI, 6, .inl f_o_lived_cells)), (a_p2, .inr (4, [.int v_p2_houses, .int v_p2_children, .int v_p2_living, .int v_p2_sideBits, .int v_p2_inherited, .int v_p2_theYear, .ref a_p2_worth, .ref a_p2_birth, .ref a_p2_home, .ref a_p2_kind, .ref a_p2_wealth])), (a_p2_birth, .inr (1, [.ref a_p2_birth_cells])), (a_p2_birth_cells, .inl (cI, 7, .inl f_p2_birth_cells)), (a_p2_home, .inr (1, [.ref a_p2_home_cells])), (a_p2_home_cells, .inl (cI, 7, .inl f_p2_home_cells)), (a_p2_kind, .inr (1, [.ref a_p2_kind_cells])), (a_p2_kind_cells, .inl (cI, 7, .inl f_p2_kind_cells))] [(a_o, .inr (2, [.ref a_o_house, .ref a_o_child, .ref a_o_lived, .int v_o_count])), (a_o_house, .inr (1, [.ref a_o_house_cells])), (a_o_house_cells, .inl (cI, 6, .inl f_o_house_cells)), (a_o_child, .inr (1, [.ref a_o_child_cells])), (a_o_child_cells, .inl (cI, 6, .inl f_o_child_cells)), (a_o_lived, .inr (1, [.ref a_o_lived_cells])), (a_o_lived_cells, .inl (cI, 6, .inl f_o_lived_cells)), (a_p2, .inr (4, [.int v_p2_houses, .int v_p2_children, .int v_p2_living, .int v_p2_sideBits, .int v_p2_inherited, .int v_p2_theYear, .ref a_p2_worth, .ref a_p2_birth, .ref a_p2_home, .ref a_p2_kind, .ref a_p2_wealth])), (a_p2_birth, .inr (1, [.ref a_p2_birth_cells])), (a_p2_birth_cells, .inl (cI, 7, .inl f_p2_birth_cells)), (a_p2_home, .inr (1, [.ref a_p2_home_cells])), (a_p2_home_cells, .inl (cI, 7, .inl f_p2_home_cells)), (a_p2_kind, .inr (1, [.ref a_p2_kind_cells])), (a_p2_kind_cells, .inl (cI, 7, .inl f_p2_kind_cells))] u := by
  refine kMi_of sg_X2_alwaysOn ⟨rfl, rfl⟩ (Nat.le_of_ble_eq_true rfl) ?_
  intro p e s m args below meth c A H0 Q hx hb hml hown hts hK hN hA hend H locs ls hP hD hS hl
  have hl : lv_has ls 6 [(0, .ref a_o), (1, .int x1), (2, .ref a_p2)] := hl
  have hk34 := va_Nw.use (A := args) rfl (hN (.fieldLinkNest RX2 34 RX4 "houses" "I" RX5) (by decide +kernel))
  have J_6 : ∀ (n_6 : Nat), ∀ (x3 : Int32) (x4 : Int32) (H : Heap) (locs : List Loc) (ls : Array Slot), va_P (dC, dI) vwCl [(a_o, .inr (2, [.ref a_o_house, .ref a_o_child, .ref a_o_lived, .int v_o_count])), (a_o_house, .inr (1, [.ref a_o_house_cells])), (a_o_house_cells, .inl (cI, 6, .inl f_o_house_cells)), (a_o_child, .inr (1, [.ref a_o_child_cells])), (a_o_child_cells, .inl (cI, 6, .inl f_o_child_cells)), (a_o_lived, .inr (1, [.ref a_o_lived_cells])), (a_o_lived_cells, .inl (cI, 6, .inl f_o_lived_cells)), (a_p2, .inr (4, [.int v_p2_houses, .int v_p2_children, .int v_p2_living, .int v_p2_sideBits, .int v_p2_inherited, .int v_p2_theYear, .ref a_p2_worth, .ref a_p2_birth, .ref a_p2_home, .ref a_p2_kind, .ref a_p2_wealth])), (a_p2_birth, .inr (1, [.ref a_p2_birth_cells])), (a_p2_birth_cells, .inl (cI, 7, .inl f_p2_birth_cells)), (a_p2_home, .inr (1, [.ref a_p2_home_cells])), (a_p2_home_cells, .inl (cI, 7, .inl f_p2_home_cells)), (a_p2_kind, .inr (1, [.ref a_p2_kind_cells])), (a_p2_kind_cells, .inl (cI, 7, .inl f_p2_kind_cells))] H → va_D A [(a_o, .inr (2, [.ref a_o_house, .ref a_o_child, .ref a_o_lived, .int v_o_count])), (a_o_house, .inr (1, [.ref a_o_house_cells])), (a_o_house_cells, .inl (cI, 6, .inl f_o_house_cells)), (a_o_child, .inr (1, [.ref a_o_child_cells])), (a_o_child_cells, .inl (cI, 6, .inl f_o_child_cells)), (a_o_lived, .inr (1, [.ref a_o_lived_cells])), (a_o_lived_cells, .inl (cI, 6, .inl f_o_lived_cells)), (a_p2, .inr (4, [.int v_p2_houses, .int v_p2_children, .int v_p2_living, .int v_p2_sideBits, .int v_p2_inherited, .int v_p2_theYear, .ref a_p2_worth, .ref a_p2_birth, .ref a_p2_home, .ref a_p2_kind, .ref a_p2_wealth])), (a_p2_birth, .inr (1, [.ref a_p2_birth_cells])), (a_p2_birth_cells, .inl (cI, 7, .inl f_p2_birth_cells)), (a_p2_home, .inr (1, [.ref a_p2_home_cells])), (a_p2_home_cells, .inl (cI, 7, .inl f_p2_home_cells)), (a_p2_kind, .inr (1, [.ref a_p2_kind_cells])), (a_p2_kind_cells, .inl (cI, 7, .inl f_p2_kind_cells))] → va_S A H0 H locs → lv_has ls 6 [(0, .ref a_o), (1, .int x1), (2, .ref a_p2), (3, .int x3), (4, .int x4)] → f_X2_alwaysOn_6 v_o_count f_o_house_cells f_o_child_cells f_o_lived_cells v_p2_houses v_p2_children f_p2_birth_cells f_p2_home_cells f_p2_kind_cells x1 n_6 x3 x4 = some u → W p l e rm_X2_alwaysOn s m args below meth c H locs 0 0 Q (F0 m 6 ls []) := by
    intro n_6
    induction n_6 with
    | zero => intro x3 x4 H locs ls hP hD hS hl hf; exact nomatch hf
    | succ n_6 ih_6 =>
      have J_55 : ∀ (x3 : Int32) (x4 : Int32) (t0 : Int32) (H : Heap) (locs : List Loc) (ls : Array Slot), va_P (dC, dI) vwCl [(a_o, .inr (2, [.ref a_o_house, .ref a_o_child, .ref a_o_lived, .int v_o_count])), (a_o_house, .inr (1, [.ref a_o_house_cells])), (a_o_house_cells, .inl (cI, 6, .inl f_o_house_cells)), (a_o_child, .inr (1, [.ref a_o_child_cells])), (a_o_child_cells, .inl (cI, 6, .inl f_o_child_cells)), (a_o_lived, .inr (1, [.ref a_o_lived_cells])), (a_o_lived_cells, .inl (cI, 6, .inl f_o_lived_cells)), (a_p2, .inr (4, [.int v_p2_houses, .int v_p2_children, .int v_p2_living, .int v_p2_sideBits, .int v_p2_inherited, .int v_p2_theYear, .ref a_p2_worth, .ref a_p2_birth, .ref a_p2_home, .ref a_p2_kind, .ref a_p2_wealth])), (a_p2_birth, .inr (1, [.ref a_p2_birth_cells])), (a_p2_birth_cells, .inl (cI, 7, .inl f_p2_birth_cells)), (a_p2_home, .inr (1, [.ref a_p2_home_cells])), (a_p2_home_cells, .inl (cI, 7, .inl f_p2_home_cells)), (a_p2_kind, .inr (1, [.ref a_p2_kind_cells])), (a_p2_kind_cells, .inl (cI, 7, .inl f_p2_kind_cells))] H → va_D A [(a_o, .inr (2, [.ref a_o_house, .ref a_o_child, .ref a_o_lived, .int v_o_count])), (a_o_house, .inr (1, [.ref a_o_house_cells])), (a_o_house_cells, .inl (cI, 6, .inl f_o_house_cells)), (a_o_child, .inr (1, [.ref a_o_child_cells])), (a_o_child_cells, .inl (cI, 6, .inl f_o_child_cells)), (a_o_lived, .inr (1, [.ref a_o_lived_cells])), (a_o_lived_cells, .inl (cI, 6, .inl f_o_lived_cells)), (a_p2, .inr (4, [.int v_p2_houses, .int v_p2_children, .int v_p2_living, .int v_p2_sideBits, .int v_p2_inherited, .int v_p2_theYear, .ref a_p2_worth, .ref a_p2_birth, .ref a_p2_home, .ref a_p2_kind, .ref a_p2_wealth])), (a_p2_birth, .inr (1, [.ref a_p2_birth_cells])), (a_p2_birth_cells, .inl (cI, 7, .inl f_p2_birth_cells)), (a_p2_home, .inr (1, [.ref a_p2_home_cells])), (a_p2_home_cells, .inl (cI, 7, .inl f_p2_home_cells)), (a_p2_kind, .inr (1, [.ref a_p2_kind_cells])), (a_p2_kind_cells, .inl (cI, 7, .inl f_p2_kind_cells))] → va_S A H0 H locs → lv_has ls 6 [(0, .ref a_o), (1, .int x1), (2, .ref a_p2), (3, .int x3), (4, .int x4)] → f_X2_alwaysOn_55 v_o_count f_o_house_cells f_o_child_cells f_o_lived_cells v_p2_houses v_p2_children f_p2_birth_cells f_p2_home_cells f_p2_kind_cells x1 (f_X2_alwaysOn_6 v_o_count f_o_house_cells f_o_child_cells f_o_lived_cells v_p2_houses v_p2_children f_p2_birth_cells f_p2_home_cells f_p2_kind_cells x1 n_6) x3 x4 t0 = some u → W p l e rm_X2_alwaysOn s m args below meth c H locs 0 0 Q (F0 m 55 ls [.int t0]) := by
        intro x3 x4 t0 H locs ls hP hD hS hl hf
        unfold f_X2_alwaysOn_55 at hf
        refine lv_istore (lv' := [(5, .int t0), (0, .ref a_o), (1, .int x1), (2, .ref a_p2), (3, .int x3), (4, .int x4)]) hx hb dX2_alwaysOn_55 hl (by decide) rfl (fun ls hl => ?_)
        refine lv_iload_n hx hb dX2_alwaysOn_57 rfl (lv_at hl 4 rfl) ?_
        refine lv_bipush (v := (-9 : Int32)) hx hb dX2_alwaysOn_58 (by decide) ?_
        refine lv_icmp_ne (tgt := 68) hx hb dX2_alwaysOn_60 (by decide) (fun c1 => ?_) (fun c1 => ?_)
        · replace hf := kf c1 hf
          refine lv_iload_n hx hb dX2_alwaysOn_68 rfl (lv_at hl 4 rfl) ?_
          refine lv_iload hx hb dX2_alwaysOn_69 (lv_at hl 0 rfl) ?_
          refine lv_iand hx hb dX2_alwaysOn_71 ?_
          refine lv_istore_n (lv' := [(3, .int (x3 &&& t0)), (5, .int t0), (0, .ref a_o), (1, .int x1), (2, .ref a_p2), (4, .int x4)]) hx hb dX2_alwaysOn_72 rfl hl (by decide) rfl (fun ls hl => ?_)
          refine lv_iinc (v := (x4 + (1 : Int32))) (lv' := [(4, .int (x4 + (1 : Int32))), (3, .int (x3 &&& t0)), (5, .int t0), (0, .ref a_o), (1, .int x1), (2, .ref a_p2)]) hx hb dX2_alwaysOn_73 hl (k := 5) rfl rfl (by decide) rfl (fun ls hl => ?_)
          refine lv_goto (tgt := 6) hx hb dX2_alwaysOn_76 (by decide) ?_
          exact ih_6 (x3 &&& t0) (x4 + (1 : Int32)) H locs ls hP hD hS (lv_sub hl [3, 4, 5, 1, 0] rfl) hf
        · replace hf := kt c1 hf
          refine lv_iload hx hb dX2_alwaysOn_63 (lv_at hl 0 rfl) ?_
          refine lv_goto (tgt := 72) hx hb dX2_alwaysOn_65 (by decide) ?_
          refine lv_istore_n (lv' := [(3, .int t0), (5, .int t0), (0, .ref a_o), (1, .int x1), (2, .ref a_p2), (4, .int x4)]) hx hb dX2_alwaysOn_72 rfl hl (by decide) rfl (fun ls hl => ?_)
          refine lv_iinc (v := (x4 + (1 : Int32))) (lv' := [(4, .int (x4 + (1 : Int32))), (3, .int t0), (5, .int t0), (0, .ref a_o), (1, .int x1), (2, .ref a_p2)]) hx hb dX2_alwaysOn_73 hl (k := 5) rfl rfl (by decide) rfl (fun ls hl => ?_)
          refine lv_goto (tgt := 6) hx hb dX2_alwaysOn_76 (by decide) ?_
          exact ih_6 t0 (x4 + (1 : Int32)) H locs ls hP hD hS (lv_sub hl [3, 4, 5, 1, 0] rfl) hf
      intro x3 x4 H locs ls hP hD hS hl hf
      have hf : f_X2_alwaysOn_6_b v_o_count f_o_house_cells f_o_child_cells f_o_lived_cells v_p2_houses v_p2_children f_p2_birth_cells f_p2_home_cells f_p2_kind_cells x1 (f_X2_alwaysOn_6 v_o_count f_o_house_cells f_o_child_cells f_o_lived_cells v_p2_houses v_p2_children f_p2_birth_cells f_p2_home_cells f_p2_kind_cells x1 n_6) x3 x4 = some u := hf
      unfold f_X2_alwaysOn_6_b at hf
      refine lv_iload hx hb dX2_alwaysOn_6 (lv_at hl 4 rfl) ?_
      refine lv_aload_n hx hb dX2_alwaysOn_8 rfl (lv_at hl 2 rfl) ?_
      refine va_getN (D := (dC, dI)) (ci := 4) (v := .int v_p2_houses) (C := RX4) (T := TX4) (N := 11) hx hb hts in_X2_alwaysOn_X4 hown hK hP 7 rfl rfl 0 (by decide) hk34 (fun _ h9 => h9) rfl dX2_alwaysOn_9 ?_
      obtain ⟨u2, hu2, hf⟩ := kb1_e hf
      refine kc_i (wn := [(a_o, .inr (2, [.ref a_o_house, .ref a_o_child, .ref a_o_lived, .int v_o_count])), (a_o_house, .inr (1, [.ref a_o_house_cells])), (a_o_house_cells, .inl (cI, 6, .inl f_o_house_cells)), (a_o_child, .inr (1, [.ref a_o_child_cells])), (a_o_child_cells, .inl (cI, 6, .inl f_o_child_cells)), (a_o_lived, .inr (1, [.ref a_o_lived_cells])), (a_o_lived_cells, .inl (cI, 6, .inl f_o_lived_cells)), (a_p2, .inr (4, [.int v_p2_houses, .int v_p2_children, .int v_p2_living, .int v_p2_sideBits, .int v_p2_inherited, .int v_p2_theYear, .ref a_p2_worth, .ref a_p2_birth, .ref a_p2_home, .ref a_p2_kind, .ref a_p2_wealth])), (a_p2_birth, .inr (1, [.ref a_p2_birth_cells])), (a_p2_birth_cells, .inl (cI, 7, .inl f_p2_birth_cells)), (a_p2_home, .inr (1, [.ref a_p2_home_cells])), (a_p2_home_cells, .inl (cI, 7, .inl f_p2_home_cells)), (a_p2_kind, .inr (1, [.ref a_p2_kind_cells])), (a_p2_kind_cells, .inl (cI, 7, .inl f_p2_kind_cells))]) (kr_N (host := RX5) (As := [.int v_p2_houses]) (rest := [.int x4]) ⟨hx, hb, hml, hown, hts⟩ hK hN hP hD hl.1 (c_X5_bit l dC dI cI cZ v_p2_houses u2 hu2 H.size) sg_X5_bit ⟨rfl, rfl⟩ ⟨Nat.le_of_ble_eq_true rfl, Nat.le_of_ble_eq_true rfl⟩ gX2_alwaysOn_X5_bit_n39 (by decide +kernel) (by decide +kernel) (by decide +kernel) [] (by decide) rfl rfl rfl (Nat.le_of_ble_eq_true rfl) dX2_alwaysOn_12 ⟨Nat.zero_le _, Nat.zero_le _⟩) hA hP hD hS [] rfl rfl rfl (fun H locs hP hD hS => ?_)
      refine lv_icmp_ge (tgt := 79) hx hb dX2_alwaysOn_15 (by decide) (fun c3 => ?_) (fun c3 => ?_)
      · replace hf := kt c3 hf
        refine lv_iload_n hx hb dX2_alwaysOn_79 rfl (lv_at hl 3 rfl) ?_
        cases hf
        exact hend _ _ _ _ dX2_alwaysOn_80 rfl hP hS
      · replace hf := kf c3 hf
        refine lv_aload_n hx hb dX2_alwaysOn_18 rfl (lv_at hl 0 rfl) ?_
        refine lv_aload_n hx hb dX2_alwaysOn_19 rfl (lv_at hl 2 rfl) ?_
        refine lv_iload hx hb dX2_alwaysOn_20 (lv_at hl 4 rfl) ?_
        obtain ⟨u4, hu4, hf⟩ := kb1_e hf
        refine kc_i (wn := [(a_o, .inr (2, [.ref a_o_house, .ref a_o_child, .ref a_o_lived, .int v_o_count])), (a_o_house, .inr (1, [.ref a_o_house_cells])), (a_o_house_cells, .inl (cI, 6, .inl f_o_house_cells)), (a_o_child, .inr (1, [.ref a_o_child_cells])), (a_o_child_cells, .inl (cI, 6, .inl f_o_child_cells)), (a_o_lived, .inr (1, [.ref a_o_lived_cells])), (a_o_lived_cells, .inl (cI, 6, .inl f_o_lived_cells)), (a_p2, .inr (4, [.int v_p2_houses, .int v_p2_children, .int v_p2_living, .int v_p2_sideBits, .int v_p2_inherited, .int v_p2_theYear, .ref a_p2_worth, .ref a_p2_birth, .ref a_p2_home, .ref a_p2_kind, .ref a_p2_wealth])), (a_p2_birth, .inr (1, [.ref a_p2_birth_cells])), (a_p2_birth_cells, .inl (cI, 7, .inl f_p2_birth_cells)), (a_p2_home, .inr (1, [.ref a_p2_home_cells])), (a_p2_home_cells, .inl (cI, 7, .inl f_p2_home_cells)), (a_p2_kind, .inr (1, [.ref a_p2_kind_cells])), (a_p2_kind_cells, .inl (cI, 7, .inl f_p2_kind_cells))]) (kr_V (As := [.ref a_p2, .int x4]) (rest := []) ⟨hx, hb, hml, hown, hts⟩ hK hN hP hD hl.1 (c_X2_countWrong l dC dI cI cZ a_o a_o_house a_o_child a_o_lived a_o_house_cells a_o_child_cells a_o_lived_cells a_p2 a_p2_worth a_p2_birth a_p2_home a_p2_kind a_p2_wealth a_p2_birth_cells a_p2_home_cells a_p2_kind_cells v_o_count f_o_house_cells f_o_child_cells f_o_lived_cells v_p2_houses v_p2_children v_p2_living v_p2_sideBits v_p2_inherited v_p2_theYear f_p2_birth_cells f_p2_home_cells f_p2_kind_cells x4 u4 hu4 H.size) sg_X2_countWrong ⟨rfl, rfl⟩ ⟨Nat.le_of_ble_eq_true rfl, Nat.le_of_ble_eq_true rfl⟩ gX2_alwaysOn_X2_countWrong 0 rfl rfl rfl [0, 1, 2, 3, 4, 5, 6, 7, 8, 9, 10, 11, 12, 13] (by decide) rfl rfl rfl (Nat.le_of_ble_eq_true rfl) dX2_alwaysOn_22 ⟨Nat.zero_le _, Nat.zero_le _⟩) hA hP hD hS [0, 1, 2, 3, 4, 5, 6, 7, 8, 9, 10, 11, 12, 13] rfl rfl rfl (fun H locs hP hD hS => ?_)
        refine lv_if_eq (tgt := 31) hx hb dX2_alwaysOn_25 (by decide) (fun c5 => ?_) (fun c5 => ?_)
        · replace hf := kt c5 hf
          refine lv_iload_n hx hb dX2_alwaysOn_31 rfl (lv_at hl 1 rfl) ?_
          refine lv_iconst (v := (1 : Int32)) hx hb dX2_alwaysOn_32 (by decide) ?_
          refine lv_icmp_ne (tgt := 41) hx hb dX2_alwaysOn_33 (by decide) (fun c6 => ?_) (fun c6 => ?_)
          · replace hf := kf c6 hf
            refine lv_aload_n hx hb dX2_alwaysOn_41 rfl (lv_at hl 2 rfl) ?_
            refine va_getN (D := (dC, dI)) (ci := 4) (v := .int v_p2_houses) (C := RX4) (T := TX4) (N := 11) hx hb hts in_X2_alwaysOn_X4 hown hK hP 7 rfl rfl 0 (by decide) hk34 (fun _ h9 => h9) rfl dX2_alwaysOn_42 ?_
            obtain ⟨u7, hu7, hf⟩ := kb1_e hf
            refine kc_i (wn := [(a_o, .inr (2, [.ref a_o_house, .ref a_o_child, .ref a_o_lived, .int v_o_count])), (a_o_house, .inr (1, [.ref a_o_house_cells])), (a_o_house_cells, .inl (cI, 6, .inl f_o_house_cells)), (a_o_child, .inr (1, [.ref a_o_child_cells])), (a_o_child_cells, .inl (cI, 6, .inl f_o_child_cells)), (a_o_lived, .inr (1, [.ref a_o_lived_cells])), (a_o_lived_cells, .inl (cI, 6, .inl f_o_lived_cells)), (a_p2, .inr (4, [.int v_p2_houses, .int v_p2_children, .int v_p2_living, .int v_p2_sideBits, .int v_p2_inherited, .int v_p2_theYear, .ref a_p2_worth, .ref a_p2_birth, .ref a_p2_home, .ref a_p2_kind, .ref a_p2_wealth])), (a_p2_birth, .inr (1, [.ref a_p2_birth_cells])), (a_p2_birth_cells, .inl (cI, 7, .inl f_p2_birth_cells)), (a_p2_home, .inr (1, [.ref a_p2_home_cells])), (a_p2_home_cells, .inl (cI, 7, .inl f_p2_home_cells)), (a_p2_kind, .inr (1, [.ref a_p2_kind_cells])), (a_p2_kind_cells, .inl (cI, 7, .inl f_p2_kind_cells))]) (kr_N (host := RX5) (As := [.int v_p2_houses]) (rest := []) ⟨hx, hb, hml, hown, hts⟩ hK hN hP hD hl.1 (c_X5_bit l dC dI cI cZ v_p2_houses u7 hu7 H.size) sg_X5_bit ⟨rfl, rfl⟩ ⟨Nat.le_of_ble_eq_true rfl, Nat.le_of_ble_eq_true rfl⟩ gX2_alwaysOn_X5_bit_n39 (by decide +kernel) (by decide +kernel) (by decide +kernel) [] (by decide) rfl rfl rfl (Nat.le_of_ble_eq_true rfl) dX2_alwaysOn_45 ⟨Nat.zero_le _, Nat.zero_le _⟩) hA hP hD hS [] rfl rfl rfl (fun H locs hP hD hS => ?_)
            refine lv_iconst (v := (1 : Int32)) hx hb dX2_alwaysOn_48 (by decide) ?_
            refine lv_isub hx hb dX2_alwaysOn_49 ?_
            refine lv_iload hx hb dX2_alwaysOn_50 (lv_at hl 4 rfl) ?_
            refine lv_iconst (v := (-1 : Int32)) hx hb dX2_alwaysOn_52 (by decide) ?_
            refine lv_ixor hx hb dX2_alwaysOn_53 ?_
            refine lv_iand hx hb dX2_alwaysOn_54 ?_
            exact J_55 x3 x4 ((u7 - (1 : Int32)) &&& (x4 ^^^ (-1 : Int32))) H locs ls hP hD hS (lv_sub hl [0, 1, 2, 3, 4] rfl) hf
          · replace hf := kt c6 hf
            refine lv_iload hx hb dX2_alwaysOn_36 (lv_at hl 4 rfl) ?_
            refine lv_goto (tgt := 55) hx hb dX2_alwaysOn_38 (by decide) ?_
            exact J_55 x3 x4 x4 H locs ls hP hD hS (lv_sub hl [0, 1, 2, 3, 4] rfl) hf
        · replace hf := kf c5 hf
          refine lv_goto (tgt := 73) hx hb dX2_alwaysOn_28 (by decide) ?_
          refine lv_iinc (v := (x4 + (1 : Int32))) (lv' := [(4, .int (x4 + (1 : Int32))), (0, .ref a_o), (1, .int x1), (2, .ref a_p2), (3, .int x3)]) hx hb dX2_alwaysOn_73 hl (k := 4) rfl rfl (by decide) rfl (fun ls hl => ?_)
          refine lv_goto (tgt := 6) hx hb dX2_alwaysOn_76 (by decide) ?_
          exact ih_6 x3 (x4 + (1 : Int32)) H locs ls hP hD hS (lv_sub hl [1, 2, 3, 4, 0] rfl) hf
  unfold f_X2_alwaysOn at hf
  refine lv_bipush (v := (-9 : Int32)) hx hb dX2_alwaysOn_0 (by decide) ?_
  refine lv_istore_n (lv' := [(3, .int (-9 : Int32)), (0, .ref a_o), (1, .int x1), (2, .ref a_p2)]) hx hb dX2_alwaysOn_2 rfl hl (by decide) rfl (fun ls hl => ?_)
  refine lv_iconst (v := (0 : Int32)) hx hb dX2_alwaysOn_3 (by decide) ?_
  refine lv_istore (lv' := [(4, .int (0 : Int32)), (3, .int (-9 : Int32)), (0, .ref a_o), (1, .int x1), (2, .ref a_p2)]) hx hb dX2_alwaysOn_4 hl (by decide) rfl (fun ls hl => ?_)
  exact J_6 1000 (-9 : Int32) (0 : Int32) H locs ls hP hD hS (lv_sub hl [2, 3, 4, 1, 0] rfl) hf
theorem sg_X2_leastWrong : kSig yX2_leastWrong wsX2_leastWrong cX2_leastWrong 6 (some .int) RX2 1 := ⟨⟨_, rfl⟩, rfl, by decide, by decide +kernel, by decide +kernel, by decide +kernel⟩
abbrev rm_X2_leastWrong : Room := { frames := 5, cells := 0, slots := 0, locals := 122 }
set_option maxRecDepth 20000 in
theorem in_X2_leastWrong_X4 : ∀ w ∈ u_ws RX4 TX4 11, w ∈ wsX2_leastWrong := by decide +kernel
set_option maxHeartbeats 4000000 in
set_option maxRecDepth 100000 in
theorem c_X2_leastWrong (l : Launch) (dC : Nat → ClassId) (dI : Nat → Nat → Nat) (cI cZ : ClassId) (a_o a_o_house a_o_child a_o_lived a_o_house_cells a_o_child_cells a_o_lived_cells a_p1 a_p1_worth a_p1_birth a_p1_home a_p1_kind a_p1_wealth a_p1_birth_cells a_p1_home_cells a_p1_kind_cells : Nat) (v_o_count : Int32) (f_o_house_cells : Nat → Int32) (f_o_child_cells : Nat → Int32) (f_o_lived_cells : Nat → Int32) (v_p1_houses : Int32) (v_p1_children : Int32) (v_p1_living : Int32) (v_p1_sideBits : Int32) (v_p1_inherited : Int32) (v_p1_theYear : Int32) (f_p1_birth_cells : Nat → Int32) (f_p1_home_cells : Nat → Int32) (f_p1_kind_cells : Nat → Int32)  (u : Int32) (hf : f_X2_leastWrong v_o_count f_o_house_cells f_o_child_cells f_o_lived_cells v_p1_houses v_p1_children f_p1_birth_cells f_p1_home_cells f_p1_kind_cells = some u) : kMi l yX2_leastWrong wsX2_leastWrong rm_X2_leastWrong (dC, dI) (kTy cI cZ) [.ref a_o, .ref a_p1] [(a_o, .inr (2, [.ref a_o_house, .ref a_o_child, .ref a_o_lived, .int v_o_count])), (a_o_house, .inr (1, [.ref a_o_house_cells])), (a_o_house_cells, .inl (cI, 6, .inl f_o_house_cells)), (a_o_child, .inr (1, [.ref a_o_child_cells])), (a_o_child_cells, .inl (cI, 6, .inl f_o_child_cells)), (a_o_lived, .inr (1, [.ref a_o_lived_cells])), (a_o_lived_cells, .inl (cI, 6, .inl f_o_lived_cells)), (a_p1, .inr (4, [.int v_p1_houses, .int v_p1_children, .int v_p1_living, .int v_p1_sideBits, .int v_p1_inherited, .int v_p1_theYear, .ref a_p1_worth, .ref a_p1_birth, .ref a_p1_home, .ref a_p1_kind, .ref a_p1_wealth])), (a_p1_birth, .inr (1, [.ref a_p1_birth_cells])), (a_p1_birth_cells, .inl (cI, 7, .inl f_p1_birth_cells)), (a_p1_home, .inr (1, [.ref a_p1_home_cells])), (a_p1_home_cells, .inl (cI, 7, .inl f_p1_home_cells)), (a_p1_kind, .inr (1, [.ref a_p1_kind_cells])), (a_p1_kind_cells, .inl (cI, 7, .inl f_p1_kind_cells))] [(a_o, .inr (2, [.ref a_o_house, .ref a_o_child, .ref a_o_lived, .int v_o_count])), (a_o_house, .inr (1, [.ref a_o_house_cells])), (a_o_house_cells, .inl (cI, 6, .inl f_o_house_cells)), (a_o_child, .inr (1, [.ref a_o_child_cells])), (a_o_child_cells, .inl (cI, 6, .inl f_o_child_cells)), (a_o_lived, .inr (1, [.ref a_o_lived_cells])), (a_o_lived_cells, .inl (cI, 6, .inl f_o_lived_cells)), (a_p1, .inr (4, [.int v_p1_houses, .int v_p1_children, .int v_p1_living, .int v_p1_sideBits, .int v_p1_inherited, .int v_p1_theYear, .ref a_p1_worth, .ref a_p1_birth, .ref a_p1_home, .ref a_p1_kind, .ref a_p1_wealth])), (a_p1_birth, .inr (1, [.ref a_p1_birth_cells])), (a_p1_birth_cells, .inl (cI, 7, .inl f_p1_birth_cells)), (a_p1_home, .inr (1, [.ref a_p1_home_cells])), (a_p1_home_cells, .inl (cI, 7, .inl f_p1_home_cells)), (a_p1_kind, .inr (1, [.ref a_p1_kind_cells])), (a_p1_kind_cells, .inl (cI, 7, .inl f_p1_kind_cells))] u := by
  refine kMi_of sg_X2_leastWrong ⟨rfl, rfl⟩ (Nat.le_of_ble_eq_true rfl) ?_
  intro p e s m args below meth c A H0 Q hx hb hml hown hts hK hN hA hend H locs ls hP hD hS hl
  have hl : lv_has ls 6 [(0, .ref a_o), (1, .ref a_p1)] := hl
  have hk34 := va_Nw.use (A := args) rfl (hN (.fieldLinkNest RX2 34 RX4 "houses" "I" RX5) (by decide +kernel))
  have J_12 : ∀ (n_12 : Nat), ∀ (x2 : Int32) (x3 : Int32) (x4 : Int32) (H : Heap) (locs : List Loc) (ls : Array Slot), va_P (dC, dI) vwCl [(a_o, .inr (2, [.ref a_o_house, .ref a_o_child, .ref a_o_lived, .int v_o_count])), (a_o_house, .inr (1, [.ref a_o_house_cells])), (a_o_house_cells, .inl (cI, 6, .inl f_o_house_cells)), (a_o_child, .inr (1, [.ref a_o_child_cells])), (a_o_child_cells, .inl (cI, 6, .inl f_o_child_cells)), (a_o_lived, .inr (1, [.ref a_o_lived_cells])), (a_o_lived_cells, .inl (cI, 6, .inl f_o_lived_cells)), (a_p1, .inr (4, [.int v_p1_houses, .int v_p1_children, .int v_p1_living, .int v_p1_sideBits, .int v_p1_inherited, .int v_p1_theYear, .ref a_p1_worth, .ref a_p1_birth, .ref a_p1_home, .ref a_p1_kind, .ref a_p1_wealth])), (a_p1_birth, .inr (1, [.ref a_p1_birth_cells])), (a_p1_birth_cells, .inl (cI, 7, .inl f_p1_birth_cells)), (a_p1_home, .inr (1, [.ref a_p1_home_cells])), (a_p1_home_cells, .inl (cI, 7, .inl f_p1_home_cells)), (a_p1_kind, .inr (1, [.ref a_p1_kind_cells])), (a_p1_kind_cells, .inl (cI, 7, .inl f_p1_kind_cells))] H → va_D A [(a_o, .inr (2, [.ref a_o_house, .ref a_o_child, .ref a_o_lived, .int v_o_count])), (a_o_house, .inr (1, [.ref a_o_house_cells])), (a_o_house_cells, .inl (cI, 6, .inl f_o_house_cells)), (a_o_child, .inr (1, [.ref a_o_child_cells])), (a_o_child_cells, .inl (cI, 6, .inl f_o_child_cells)), (a_o_lived, .inr (1, [.ref a_o_lived_cells])), (a_o_lived_cells, .inl (cI, 6, .inl f_o_lived_cells)), (a_p1, .inr (4, [.int v_p1_houses, .int v_p1_children, .int v_p1_living, .int v_p1_sideBits, .int v_p1_inherited, .int v_p1_theYear, .ref a_p1_worth, .ref a_p1_birth, .ref a_p1_home, .ref a_p1_kind, .ref a_p1_wealth])), (a_p1_birth, .inr (1, [.ref a_p1_birth_cells])), (a_p1_birth_cells, .inl (cI, 7, .inl f_p1_birth_cells)), (a_p1_home, .inr (1, [.ref a_p1_home_cells])), (a_p1_home_cells, .inl (cI, 7, .inl f_p1_home_cells)), (a_p1_kind, .inr (1, [.ref a_p1_kind_cells])), (a_p1_kind_cells, .inl (cI, 7, .inl f_p1_kind_cells))] → va_S A H0 H locs → lv_has ls 6 [(0, .ref a_o), (1, .ref a_p1), (2, .int x2), (3, .int x3), (4, .int x4)] → f_X2_leastWrong_12 v_o_count f_o_house_cells f_o_child_cells f_o_lived_cells v_p1_houses v_p1_children f_p1_birth_cells f_p1_home_cells f_p1_kind_cells n_12 x2 x3 x4 = some u → W p l e rm_X2_leastWrong s m args below meth c H locs 0 0 Q (F0 m 12 ls []) := by
    intro n_12
    induction n_12 with
    | zero => intro x2 x3 x4 H locs ls hP hD hS hl hf; exact nomatch hf
    | succ n_12 ih_12 =>
      intro x2 x3 x4 H locs ls hP hD hS hl hf
      have hf : f_X2_leastWrong_12_b v_o_count f_o_house_cells f_o_child_cells f_o_lived_cells v_p1_houses v_p1_children f_p1_birth_cells f_p1_home_cells f_p1_kind_cells (f_X2_leastWrong_12 v_o_count f_o_house_cells f_o_child_cells f_o_lived_cells v_p1_houses v_p1_children f_p1_birth_cells f_p1_home_cells f_p1_kind_cells n_12) x2 x3 x4 = some u := hf
      unfold f_X2_leastWrong_12_b at hf
      refine lv_iload hx hb dX2_leastWrong_12 (lv_at hl 4 rfl) ?_
      refine lv_aload_n hx hb dX2_leastWrong_14 rfl (lv_at hl 1 rfl) ?_
      refine va_getN (D := (dC, dI)) (ci := 4) (v := .int v_p1_houses) (C := RX4) (T := TX4) (N := 11) hx hb hts in_X2_leastWrong_X4 hown hK hP 7 rfl rfl 0 (by decide) hk34 (fun _ h9 => h9) rfl dX2_leastWrong_15 ?_
      obtain ⟨u1, hu1, hf⟩ := kb1_e hf
      refine kc_i (wn := [(a_o, .inr (2, [.ref a_o_house, .ref a_o_child, .ref a_o_lived, .int v_o_count])), (a_o_house, .inr (1, [.ref a_o_house_cells])), (a_o_house_cells, .inl (cI, 6, .inl f_o_house_cells)), (a_o_child, .inr (1, [.ref a_o_child_cells])), (a_o_child_cells, .inl (cI, 6, .inl f_o_child_cells)), (a_o_lived, .inr (1, [.ref a_o_lived_cells])), (a_o_lived_cells, .inl (cI, 6, .inl f_o_lived_cells)), (a_p1, .inr (4, [.int v_p1_houses, .int v_p1_children, .int v_p1_living, .int v_p1_sideBits, .int v_p1_inherited, .int v_p1_theYear, .ref a_p1_worth, .ref a_p1_birth, .ref a_p1_home, .ref a_p1_kind, .ref a_p1_wealth])), (a_p1_birth, .inr (1, [.ref a_p1_birth_cells])), (a_p1_birth_cells, .inl (cI, 7, .inl f_p1_birth_cells)), (a_p1_home, .inr (1, [.ref a_p1_home_cells])), (a_p1_home_cells, .inl (cI, 7, .inl f_p1_home_cells)), (a_p1_kind, .inr (1, [.ref a_p1_kind_cells])), (a_p1_kind_cells, .inl (cI, 7, .inl f_p1_kind_cells))]) (kr_N (host := RX5) (As := [.int v_p1_houses]) (rest := [.int x4]) ⟨hx, hb, hml, hown, hts⟩ hK hN hP hD hl.1 (c_X5_bit l dC dI cI cZ v_p1_houses u1 hu1 H.size) sg_X5_bit ⟨rfl, rfl⟩ ⟨Nat.le_of_ble_eq_true rfl, Nat.le_of_ble_eq_true rfl⟩ gX2_leastWrong_X5_bit_n39 (by decide +kernel) (by decide +kernel) (by decide +kernel) [] (by decide) rfl rfl rfl (Nat.le_of_ble_eq_true rfl) dX2_leastWrong_18 ⟨Nat.zero_le _, Nat.zero_le _⟩) hA hP hD hS [] rfl rfl rfl (fun H locs hP hD hS => ?_)
      refine lv_icmp_ge (tgt := 51) hx hb dX2_leastWrong_21 (by decide) (fun c2 => ?_) (fun c2 => ?_)
      · replace hf := kt c2 hf
        refine lv_iload_n hx hb dX2_leastWrong_51 rfl (lv_at hl 2 rfl) ?_
        cases hf
        exact hend _ _ _ _ dX2_leastWrong_52 rfl hP hS
      · replace hf := kf c2 hf
        refine lv_aload_n hx hb dX2_leastWrong_24 rfl (lv_at hl 0 rfl) ?_
        refine lv_aload_n hx hb dX2_leastWrong_25 rfl (lv_at hl 1 rfl) ?_
        refine lv_iload hx hb dX2_leastWrong_26 (lv_at hl 4 rfl) ?_
        obtain ⟨u3, hu3, hf⟩ := kb1_e hf
        refine kc_i (wn := [(a_o, .inr (2, [.ref a_o_house, .ref a_o_child, .ref a_o_lived, .int v_o_count])), (a_o_house, .inr (1, [.ref a_o_house_cells])), (a_o_house_cells, .inl (cI, 6, .inl f_o_house_cells)), (a_o_child, .inr (1, [.ref a_o_child_cells])), (a_o_child_cells, .inl (cI, 6, .inl f_o_child_cells)), (a_o_lived, .inr (1, [.ref a_o_lived_cells])), (a_o_lived_cells, .inl (cI, 6, .inl f_o_lived_cells)), (a_p1, .inr (4, [.int v_p1_houses, .int v_p1_children, .int v_p1_living, .int v_p1_sideBits, .int v_p1_inherited, .int v_p1_theYear, .ref a_p1_worth, .ref a_p1_birth, .ref a_p1_home, .ref a_p1_kind, .ref a_p1_wealth])), (a_p1_birth, .inr (1, [.ref a_p1_birth_cells])), (a_p1_birth_cells, .inl (cI, 7, .inl f_p1_birth_cells)), (a_p1_home, .inr (1, [.ref a_p1_home_cells])), (a_p1_home_cells, .inl (cI, 7, .inl f_p1_home_cells)), (a_p1_kind, .inr (1, [.ref a_p1_kind_cells])), (a_p1_kind_cells, .inl (cI, 7, .inl f_p1_kind_cells))]) (kr_V (As := [.ref a_p1, .int x4]) (rest := []) ⟨hx, hb, hml, hown, hts⟩ hK hN hP hD hl.1 (c_X2_countWrong l dC dI cI cZ a_o a_o_house a_o_child a_o_lived a_o_house_cells a_o_child_cells a_o_lived_cells a_p1 a_p1_worth a_p1_birth a_p1_home a_p1_kind a_p1_wealth a_p1_birth_cells a_p1_home_cells a_p1_kind_cells v_o_count f_o_house_cells f_o_child_cells f_o_lived_cells v_p1_houses v_p1_children v_p1_living v_p1_sideBits v_p1_inherited v_p1_theYear f_p1_birth_cells f_p1_home_cells f_p1_kind_cells x4 u3 hu3 H.size) sg_X2_countWrong ⟨rfl, rfl⟩ ⟨Nat.le_of_ble_eq_true rfl, Nat.le_of_ble_eq_true rfl⟩ gX2_leastWrong_X2_countWrong 0 rfl rfl rfl [0, 1, 2, 3, 4, 5, 6, 7, 8, 9, 10, 11, 12, 13] (by decide) rfl rfl rfl (Nat.le_of_ble_eq_true rfl) dX2_leastWrong_28 ⟨Nat.zero_le _, Nat.zero_le _⟩) hA hP hD hS [0, 1, 2, 3, 4, 5, 6, 7, 8, 9, 10, 11, 12, 13] rfl rfl rfl (fun H locs hP hD hS => ?_)
        refine lv_istore (lv' := [(5, .int u3), (0, .ref a_o), (1, .ref a_p1), (2, .int x2), (3, .int x3), (4, .int x4)]) hx hb dX2_leastWrong_31 hl (by decide) rfl (fun ls hl => ?_)
        refine lv_iload hx hb dX2_leastWrong_33 (lv_at hl 0 rfl) ?_
        refine lv_iload_n hx hb dX2_leastWrong_35 rfl (lv_at hl 4 rfl) ?_
        refine lv_icmp_ge (tgt := 45) hx hb dX2_leastWrong_36 (by decide) (fun c4 => ?_) (fun c4 => ?_)
        · replace hf := kt c4 hf
          refine lv_iinc (v := (x4 + (1 : Int32))) (lv' := [(4, .int (x4 + (1 : Int32))), (5, .int u3), (0, .ref a_o), (1, .ref a_p1), (2, .int x2), (3, .int x3)]) hx hb dX2_leastWrong_45 hl (k := 5) rfl rfl (by decide) rfl (fun ls hl => ?_)
          refine lv_goto (tgt := 12) hx hb dX2_leastWrong_48 (by decide) ?_
          exact ih_12 x2 x3 (x4 + (1 : Int32)) H locs ls hP hD hS (lv_sub hl [2, 3, 4, 5, 0] rfl) hf
        · replace hf := kf c4 hf
          refine lv_iload hx hb dX2_leastWrong_39 (lv_at hl 0 rfl) ?_
          refine lv_istore_n (lv' := [(3, .int u3), (5, .int u3), (0, .ref a_o), (1, .ref a_p1), (2, .int x2), (4, .int x4)]) hx hb dX2_leastWrong_41 rfl hl (by decide) rfl (fun ls hl => ?_)
          refine lv_iload hx hb dX2_leastWrong_42 (lv_at hl 5 rfl) ?_
          refine lv_istore_n (lv' := [(2, .int x4), (3, .int u3), (5, .int u3), (0, .ref a_o), (1, .ref a_p1), (4, .int x4)]) hx hb dX2_leastWrong_44 rfl hl (by decide) rfl (fun ls hl => ?_)
          refine lv_iinc (v := (x4 + (1 : Int32))) (lv' := [(4, .int (x4 + (1 : Int32))), (2, .int x4), (3, .int u3), (5, .int u3), (0, .ref a_o), (1, .ref a_p1)]) hx hb dX2_leastWrong_45 hl (k := 5) rfl rfl (by decide) rfl (fun ls hl => ?_)
          refine lv_goto (tgt := 12) hx hb dX2_leastWrong_48 (by decide) ?_
          exact ih_12 x4 u3 (x4 + (1 : Int32)) H locs ls hP hD hS (lv_sub hl [4, 5, 1, 2, 0] rfl) hf
  unfold f_X2_leastWrong at hf
  refine lv_iconst (v := (0 : Int32)) hx hb dX2_leastWrong_0 (by decide) ?_
  refine lv_istore_n (lv' := [(2, .int (0 : Int32)), (0, .ref a_o), (1, .ref a_p1)]) hx hb dX2_leastWrong_1 rfl hl (by decide) rfl (fun ls hl => ?_)
  refine lv_aload_n hx hb dX2_leastWrong_2 rfl (lv_at hl 1 rfl) ?_
  refine lv_aload_n hx hb dX2_leastWrong_3 rfl (lv_at hl 2 rfl) ?_
  refine lv_iload_n hx hb dX2_leastWrong_4 rfl (lv_at hl 0 rfl) ?_
  obtain ⟨u5, hu5, hf⟩ := kb1_e hf
  refine kc_i (wn := [(a_o, .inr (2, [.ref a_o_house, .ref a_o_child, .ref a_o_lived, .int v_o_count])), (a_o_house, .inr (1, [.ref a_o_house_cells])), (a_o_house_cells, .inl (cI, 6, .inl f_o_house_cells)), (a_o_child, .inr (1, [.ref a_o_child_cells])), (a_o_child_cells, .inl (cI, 6, .inl f_o_child_cells)), (a_o_lived, .inr (1, [.ref a_o_lived_cells])), (a_o_lived_cells, .inl (cI, 6, .inl f_o_lived_cells)), (a_p1, .inr (4, [.int v_p1_houses, .int v_p1_children, .int v_p1_living, .int v_p1_sideBits, .int v_p1_inherited, .int v_p1_theYear, .ref a_p1_worth, .ref a_p1_birth, .ref a_p1_home, .ref a_p1_kind, .ref a_p1_wealth])), (a_p1_birth, .inr (1, [.ref a_p1_birth_cells])), (a_p1_birth_cells, .inl (cI, 7, .inl f_p1_birth_cells)), (a_p1_home, .inr (1, [.ref a_p1_home_cells])), (a_p1_home_cells, .inl (cI, 7, .inl f_p1_home_cells)), (a_p1_kind, .inr (1, [.ref a_p1_kind_cells])), (a_p1_kind_cells, .inl (cI, 7, .inl f_p1_kind_cells))]) (kr_V (As := [.ref a_p1, .int (0 : Int32)]) (rest := []) ⟨hx, hb, hml, hown, hts⟩ hK hN hP hD hl.1 (c_X2_countWrong l dC dI cI cZ a_o a_o_house a_o_child a_o_lived a_o_house_cells a_o_child_cells a_o_lived_cells a_p1 a_p1_worth a_p1_birth a_p1_home a_p1_kind a_p1_wealth a_p1_birth_cells a_p1_home_cells a_p1_kind_cells v_o_count f_o_house_cells f_o_child_cells f_o_lived_cells v_p1_houses v_p1_children v_p1_living v_p1_sideBits v_p1_inherited v_p1_theYear f_p1_birth_cells f_p1_home_cells f_p1_kind_cells (0 : Int32) u5 hu5 H.size) sg_X2_countWrong ⟨rfl, rfl⟩ ⟨Nat.le_of_ble_eq_true rfl, Nat.le_of_ble_eq_true rfl⟩ gX2_leastWrong_X2_countWrong 0 rfl rfl rfl [0, 1, 2, 3, 4, 5, 6, 7, 8, 9, 10, 11, 12, 13] (by decide) rfl rfl rfl (Nat.le_of_ble_eq_true rfl) dX2_leastWrong_5 ⟨Nat.zero_le _, Nat.zero_le _⟩) hA hP hD hS [0, 1, 2, 3, 4, 5, 6, 7, 8, 9, 10, 11, 12, 13] rfl rfl rfl (fun H locs hP hD hS => ?_)
  refine lv_istore_n (lv' := [(3, .int u5), (2, .int (0 : Int32)), (0, .ref a_o), (1, .ref a_p1)]) hx hb dX2_leastWrong_8 rfl hl (by decide) rfl (fun ls hl => ?_)
  refine lv_iconst (v := (1 : Int32)) hx hb dX2_leastWrong_9 (by decide) ?_
  refine lv_istore (lv' := [(4, .int (1 : Int32)), (3, .int u5), (2, .int (0 : Int32)), (0, .ref a_o), (1, .ref a_p1)]) hx hb dX2_leastWrong_10 hl (by decide) rfl (fun ls hl => ?_)
  exact J_12 1000 (0 : Int32) u5 (1 : Int32) H locs ls hP hD hS (lv_sub hl [3, 4, 2, 1, 0] rfl) hf
theorem sg_X3_append : kSig yX3_append wsX3_append cX3_append 2 (some .int) RX3 1 := ⟨⟨_, rfl⟩, rfl, by decide, by decide +kernel, by decide +kernel, by decide +kernel⟩
abbrev rm_X3_append : Room := { frames := 1, cells := 0, slots := 0, locals := 22 }
set_option maxRecDepth 20000 in
theorem in_X3_append_X3 : ∀ w ∈ u_ws RX3 TX3 2, w ∈ wsX3_append := by decide +kernel
set_option maxHeartbeats 4000000 in
set_option maxRecDepth 100000 in
theorem c_X3_append (l : Launch) (dC : Nat → ClassId) (dI : Nat → Nat → Nat) (cI cZ : ClassId) (a_o a_o_bytes a_o_bytes_cells : Nat) (v_o_length : Int32) (f_o_bytes_cells : Nat → Int32) (x1 : Int32) (u : Int32 × Int32 × (Nat → Int32)) (hf : f_X3_append v_o_length f_o_bytes_cells x1 = some u) : kMi l yX3_append wsX3_append rm_X3_append (dC, dI) (kTy cI cZ) [.ref a_o, .int x1] [(a_o, .inr (3, [.ref a_o_bytes, .int v_o_length])), (a_o_bytes, .inr (1, [.ref a_o_bytes_cells])), (a_o_bytes_cells, .inl (cI, 48, .inl f_o_bytes_cells))] [(a_o, .inr (3, [.ref a_o_bytes, .int u.2.1])), (a_o_bytes, .inr (1, [.ref a_o_bytes_cells])), (a_o_bytes_cells, .inl (cI, 48, .inl u.2.2))] u.1 := by
  refine kMi_of sg_X3_append ⟨rfl, rfl⟩ (Nat.le_of_ble_eq_true rfl) ?_
  intro p e s m args below meth c A H0 Q hx hb hml hown hts hK hN hA hend H locs ls hP hD hS hl
  have hl : lv_has ls 2 [(0, .ref a_o), (1, .int x1)] := hl
  have hk14 := hts (.fieldLink RX3 14 "YoungestHouse$Text" "bytes" "LYoungestHouse$Row;") (by decide +kernel)
  have hk20 := hts (.fieldLink RX3 20 "YoungestHouse$Text" "length" "I") (by decide +kernel)
  unfold f_X3_append at hf
  refine lv_aload_n hx hb dX3_append_0 rfl (lv_at hl 0 rfl) ?_
  refine va_get (D := (dC, dI)) (ci := 3) (v := .ref a_o_bytes) (C := RX3) (T := TX3) (N := 2) hx hb hts in_X3_append_X3 hown hK hP 0 rfl rfl 0 (by decide) hk14 (fun _ h9 => h9) rfl dX3_append_1 ?_
  refine lv_aload_n hx hb dX3_append_4 rfl (lv_at hl 0 rfl) ?_
  refine va_get (D := (dC, dI)) (ci := 3) (v := .int v_o_length) (C := RX3) (T := TX3) (N := 2) hx hb hts in_X3_append_X3 hown hK hP 0 rfl rfl 1 (by decide) hk20 (fun _ h9 => h9) rfl dX3_append_5 ?_
  refine lv_iload_n hx hb dX3_append_8 rfl (lv_at hl 1 rfl) ?_
  obtain ⟨u1, hu1, hf⟩ := kb1_e hf
  refine kc_v (wn := [(a_o, .inr (3, [.ref a_o_bytes, .int v_o_length])), (a_o_bytes, .inr (1, [.ref a_o_bytes_cells])), (a_o_bytes_cells, .inl (cI, 48, .inl u1))]) (kr_V (As := [.int v_o_length, .int x1]) (rest := []) ⟨hx, hb, hml, hown, hts⟩ hK hN hP hD hl.1 (c_X1_set l dC dI cI cZ a_o_bytes a_o_bytes_cells 48 f_o_bytes_cells v_o_length x1 u1 hu1 H.size) sg_X1_set ⟨rfl, rfl⟩ ⟨Nat.le_of_ble_eq_true rfl, Nat.le_of_ble_eq_true rfl⟩ gX3_append_X1_set 1 rfl rfl rfl [1, 2] (by decide) rfl rfl rfl (Nat.le_of_ble_eq_true rfl) dX3_append_9 ⟨Nat.zero_le _, Nat.zero_le _⟩) hA hP hD hS [1, 2] rfl rfl rfl (fun H locs hP hD hS => ?_)
  refine lv_aload_n hx hb dX3_append_12 rfl (lv_at hl 0 rfl) ?_
  refine lv_dup hx hb dX3_append_13 rfl ?_
  refine va_get (D := (dC, dI)) (ci := 3) (v := .int v_o_length) (C := RX3) (T := TX3) (N := 2) hx hb hts in_X3_append_X3 hown hK hP 0 rfl rfl 1 (by decide) hk20 (fun _ h9 => h9) rfl dX3_append_14 ?_
  refine lv_iconst (v := (1 : Int32)) hx hb dX3_append_17 (by decide) ?_
  refine lv_iadd hx hb dX3_append_18 ?_
  refine va_put (D := (dC, dI)) (ci := 3) (v := .int (v_o_length + (1 : Int32))) (ty := .int) (C := RX3) (T := TX3) (N := 2) hx hb hts in_X3_append_X3 tyX3 tyX3_ok nmX3 hown hK hP hD hS 0 rfl rfl 1 (by decide) hk20 (fun _ h9 => h9) rfl (by decide +kernel) rfl rfl (Nat.le_of_ble_eq_true rfl) dX3_append_19 (fun H locs hP hD hS => ?_)
  have hP : va_P (dC, dI) vwCl [(a_o, .inr (3, [.ref a_o_bytes, .int (v_o_length + (1 : Int32))])), (a_o_bytes, .inr (1, [.ref a_o_bytes_cells])), (a_o_bytes_cells, .inl (cI, 48, .inl u1))] H := hP
  have hD : va_D A [(a_o, .inr (3, [.ref a_o_bytes, .int (v_o_length + (1 : Int32))])), (a_o_bytes, .inr (1, [.ref a_o_bytes_cells])), (a_o_bytes_cells, .inl (cI, 48, .inl u1))] := hD
  refine lv_aload_n hx hb dX3_append_22 rfl (lv_at hl 0 rfl) ?_
  refine va_get (D := (dC, dI)) (ci := 3) (v := .int (v_o_length + (1 : Int32))) (C := RX3) (T := TX3) (N := 2) hx hb hts in_X3_append_X3 hown hK hP 0 rfl rfl 1 (by decide) hk20 (fun _ h9 => h9) rfl dX3_append_23 ?_
  cases hf
  exact hend _ _ _ _ dX3_append_26 rfl hP hS
theorem sg_X4_clear : kSig yX4_clear wsX4_clear cX4_clear 1 none RX4 0 := ⟨⟨_, rfl⟩, rfl, by decide, by decide +kernel, by decide +kernel, by decide +kernel⟩
abbrev rm_X4_clear : Room := { frames := 0, cells := 0, slots := 0, locals := 0 }
set_option maxRecDepth 20000 in
theorem in_X4_clear_X4 : ∀ w ∈ u_ws RX4 TX4 11, w ∈ wsX4_clear := by decide +kernel
set_option maxHeartbeats 4000000 in
set_option maxRecDepth 100000 in
theorem c_X4_clear (l : Launch) (dC : Nat → ClassId) (dI : Nat → Nat → Nat) (cI cZ : ClassId) (a_o a_o_worth a_o_birth a_o_home a_o_kind a_o_wealth : Nat) (v_o_houses : Int32) (v_o_children : Int32) (v_o_living : Int32) (v_o_sideBits : Int32) (v_o_inherited : Int32) (v_o_theYear : Int32)  (u : Int32 × Int32 × Int32 × Int32 × Int32 × Int32) (hf : f_X4_clear v_o_houses v_o_children v_o_living v_o_sideBits v_o_inherited v_o_theYear = some u) : kMv l yX4_clear wsX4_clear rm_X4_clear (dC, dI) (kTy cI cZ) [.ref a_o] [(a_o, .inr (4, [.int v_o_houses, .int v_o_children, .int v_o_living, .int v_o_sideBits, .int v_o_inherited, .int v_o_theYear, .ref a_o_worth, .ref a_o_birth, .ref a_o_home, .ref a_o_kind, .ref a_o_wealth]))] [(a_o, .inr (4, [.int u.1, .int u.2.1, .int u.2.2.1, .int u.2.2.2.1, .int u.2.2.2.2.1, .int u.2.2.2.2.2, .ref a_o_worth, .ref a_o_birth, .ref a_o_home, .ref a_o_kind, .ref a_o_wealth]))]  := by
  refine kMv_of sg_X4_clear ⟨rfl, rfl⟩ (Nat.le_of_ble_eq_true rfl) ?_
  intro p e s m args below meth c A H0 Q hx hb hml hown hts hK hN hA hend H locs ls hP hD hS hl
  have hl : lv_has ls 1 [(0, .ref a_o)] := hl
  have hk32 := hts (.fieldLink RX4 32 "YoungestHouse$Town" "houses" "I") (by decide +kernel)
  have hk36 := hts (.fieldLink RX4 36 "YoungestHouse$Town" "children" "I") (by decide +kernel)
  have hk39 := hts (.fieldLink RX4 39 "YoungestHouse$Town" "living" "I") (by decide +kernel)
  have hk42 := hts (.fieldLink RX4 42 "YoungestHouse$Town" "sideBits" "I") (by decide +kernel)
  have hk45 := hts (.fieldLink RX4 45 "YoungestHouse$Town" "inherited" "I") (by decide +kernel)
  have hk48 := hts (.fieldLink RX4 48 "YoungestHouse$Town" "theYear" "I") (by decide +kernel)
  unfold f_X4_clear at hf
  refine lv_aload_n hx hb dX4_clear_0 rfl (lv_at hl 0 rfl) ?_
  refine lv_iconst (v := (0 : Int32)) hx hb dX4_clear_1 (by decide) ?_
  refine va_put (D := (dC, dI)) (ci := 4) (v := .int (0 : Int32)) (ty := .int) (C := RX4) (T := TX4) (N := 11) hx hb hts in_X4_clear_X4 tyX4 tyX4_ok nmX4 hown hK hP hD hS 0 rfl rfl 0 (by decide) hk32 (fun _ h9 => h9) rfl (by decide +kernel) rfl rfl (Nat.le_of_ble_eq_true rfl) dX4_clear_2 (fun H locs hP hD hS => ?_)
  have hP : va_P (dC, dI) vwCl [(a_o, .inr (4, [.int (0 : Int32), .int v_o_children, .int v_o_living, .int v_o_sideBits, .int v_o_inherited, .int v_o_theYear, .ref a_o_worth, .ref a_o_birth, .ref a_o_home, .ref a_o_kind, .ref a_o_wealth]))] H := hP
  have hD : va_D A [(a_o, .inr (4, [.int (0 : Int32), .int v_o_children, .int v_o_living, .int v_o_sideBits, .int v_o_inherited, .int v_o_theYear, .ref a_o_worth, .ref a_o_birth, .ref a_o_home, .ref a_o_kind, .ref a_o_wealth]))] := hD
  refine lv_aload_n hx hb dX4_clear_5 rfl (lv_at hl 0 rfl) ?_
  refine lv_iconst (v := (0 : Int32)) hx hb dX4_clear_6 (by decide) ?_
  refine va_put (D := (dC, dI)) (ci := 4) (v := .int (0 : Int32)) (ty := .int) (C := RX4) (T := TX4) (N := 11) hx hb hts in_X4_clear_X4 tyX4 tyX4_ok nmX4 hown hK hP hD hS 0 rfl rfl 1 (by decide) hk36 (fun _ h9 => h9) rfl (by decide +kernel) rfl rfl (Nat.le_of_ble_eq_true rfl) dX4_clear_7 (fun H locs hP hD hS => ?_)
  have hP : va_P (dC, dI) vwCl [(a_o, .inr (4, [.int (0 : Int32), .int (0 : Int32), .int v_o_living, .int v_o_sideBits, .int v_o_inherited, .int v_o_theYear, .ref a_o_worth, .ref a_o_birth, .ref a_o_home, .ref a_o_kind, .ref a_o_wealth]))] H := hP
  have hD : va_D A [(a_o, .inr (4, [.int (0 : Int32), .int (0 : Int32), .int v_o_living, .int v_o_sideBits, .int v_o_inherited, .int v_o_theYear, .ref a_o_worth, .ref a_o_birth, .ref a_o_home, .ref a_o_kind, .ref a_o_wealth]))] := hD
  refine lv_aload_n hx hb dX4_clear_10 rfl (lv_at hl 0 rfl) ?_
  refine lv_iconst (v := (0 : Int32)) hx hb dX4_clear_11 (by decide) ?_
  refine va_put (D := (dC, dI)) (ci := 4) (v := .int (0 : Int32)) (ty := .int) (C := RX4) (T := TX4) (N := 11) hx hb hts in_X4_clear_X4 tyX4 tyX4_ok nmX4 hown hK hP hD hS 0 rfl rfl 2 (by decide) hk39 (fun _ h9 => h9) rfl (by decide +kernel) rfl rfl (Nat.le_of_ble_eq_true rfl) dX4_clear_12 (fun H locs hP hD hS => ?_)
  have hP : va_P (dC, dI) vwCl [(a_o, .inr (4, [.int (0 : Int32), .int (0 : Int32), .int (0 : Int32), .int v_o_sideBits, .int v_o_inherited, .int v_o_theYear, .ref a_o_worth, .ref a_o_birth, .ref a_o_home, .ref a_o_kind, .ref a_o_wealth]))] H := hP
  have hD : va_D A [(a_o, .inr (4, [.int (0 : Int32), .int (0 : Int32), .int (0 : Int32), .int v_o_sideBits, .int v_o_inherited, .int v_o_theYear, .ref a_o_worth, .ref a_o_birth, .ref a_o_home, .ref a_o_kind, .ref a_o_wealth]))] := hD
  refine lv_aload_n hx hb dX4_clear_15 rfl (lv_at hl 0 rfl) ?_
  refine lv_iconst (v := (0 : Int32)) hx hb dX4_clear_16 (by decide) ?_
  refine va_put (D := (dC, dI)) (ci := 4) (v := .int (0 : Int32)) (ty := .int) (C := RX4) (T := TX4) (N := 11) hx hb hts in_X4_clear_X4 tyX4 tyX4_ok nmX4 hown hK hP hD hS 0 rfl rfl 3 (by decide) hk42 (fun _ h9 => h9) rfl (by decide +kernel) rfl rfl (Nat.le_of_ble_eq_true rfl) dX4_clear_17 (fun H locs hP hD hS => ?_)
  have hP : va_P (dC, dI) vwCl [(a_o, .inr (4, [.int (0 : Int32), .int (0 : Int32), .int (0 : Int32), .int (0 : Int32), .int v_o_inherited, .int v_o_theYear, .ref a_o_worth, .ref a_o_birth, .ref a_o_home, .ref a_o_kind, .ref a_o_wealth]))] H := hP
  have hD : va_D A [(a_o, .inr (4, [.int (0 : Int32), .int (0 : Int32), .int (0 : Int32), .int (0 : Int32), .int v_o_inherited, .int v_o_theYear, .ref a_o_worth, .ref a_o_birth, .ref a_o_home, .ref a_o_kind, .ref a_o_wealth]))] := hD
  refine lv_aload_n hx hb dX4_clear_20 rfl (lv_at hl 0 rfl) ?_
  refine lv_iconst (v := (0 : Int32)) hx hb dX4_clear_21 (by decide) ?_
  refine va_put (D := (dC, dI)) (ci := 4) (v := .int (0 : Int32)) (ty := .int) (C := RX4) (T := TX4) (N := 11) hx hb hts in_X4_clear_X4 tyX4 tyX4_ok nmX4 hown hK hP hD hS 0 rfl rfl 4 (by decide) hk45 (fun _ h9 => h9) rfl (by decide +kernel) rfl rfl (Nat.le_of_ble_eq_true rfl) dX4_clear_22 (fun H locs hP hD hS => ?_)
  have hP : va_P (dC, dI) vwCl [(a_o, .inr (4, [.int (0 : Int32), .int (0 : Int32), .int (0 : Int32), .int (0 : Int32), .int (0 : Int32), .int v_o_theYear, .ref a_o_worth, .ref a_o_birth, .ref a_o_home, .ref a_o_kind, .ref a_o_wealth]))] H := hP
  have hD : va_D A [(a_o, .inr (4, [.int (0 : Int32), .int (0 : Int32), .int (0 : Int32), .int (0 : Int32), .int (0 : Int32), .int v_o_theYear, .ref a_o_worth, .ref a_o_birth, .ref a_o_home, .ref a_o_kind, .ref a_o_wealth]))] := hD
  refine lv_aload_n hx hb dX4_clear_25 rfl (lv_at hl 0 rfl) ?_
  refine lv_iconst (v := (0 : Int32)) hx hb dX4_clear_26 (by decide) ?_
  refine va_put (D := (dC, dI)) (ci := 4) (v := .int (0 : Int32)) (ty := .int) (C := RX4) (T := TX4) (N := 11) hx hb hts in_X4_clear_X4 tyX4 tyX4_ok nmX4 hown hK hP hD hS 0 rfl rfl 5 (by decide) hk48 (fun _ h9 => h9) rfl (by decide +kernel) rfl rfl (Nat.le_of_ble_eq_true rfl) dX4_clear_27 (fun H locs hP hD hS => ?_)
  have hP : va_P (dC, dI) vwCl [(a_o, .inr (4, [.int (0 : Int32), .int (0 : Int32), .int (0 : Int32), .int (0 : Int32), .int (0 : Int32), .int (0 : Int32), .ref a_o_worth, .ref a_o_birth, .ref a_o_home, .ref a_o_kind, .ref a_o_wealth]))] H := hP
  have hD : va_D A [(a_o, .inr (4, [.int (0 : Int32), .int (0 : Int32), .int (0 : Int32), .int (0 : Int32), .int (0 : Int32), .int (0 : Int32), .ref a_o_worth, .ref a_o_birth, .ref a_o_home, .ref a_o_kind, .ref a_o_wealth]))] := hD
  cases hf
  exact hend _ _ _ _ dX4_clear_30 hP hS
theorem sg_X3_isFrom : kSig yX3_isFrom wsX3_isFrom cX3_isFrom 5 (some .boolean) RX3 3 := ⟨⟨_, rfl⟩, rfl, by decide, by decide +kernel, by decide +kernel, by decide +kernel⟩
abbrev rm_X3_isFrom : Room := { frames := 1, cells := 0, slots := 0, locals := 21 }
set_option maxRecDepth 20000 in
theorem in_X3_isFrom_X3 : ∀ w ∈ u_ws RX3 TX3 2, w ∈ wsX3_isFrom := by decide +kernel
set_option maxHeartbeats 4000000 in
set_option maxRecDepth 100000 in
theorem c_X3_isFrom (l : Launch) (dC : Nat → ClassId) (dI : Nat → Nat → Nat) (cI cZ : ClassId) (a_o a_o_bytes a_o_bytes_cells : Nat) (v_o_length : Int32) (f_o_bytes_cells : Nat → Int32) (x1 : Int32) (x2 : Int32) (x3 : Int32) (u : Int32) (hf : f_X3_isFrom v_o_length f_o_bytes_cells x1 x2 x3 = some u) : kMi l yX3_isFrom wsX3_isFrom rm_X3_isFrom (dC, dI) (kTy cI cZ) [.ref a_o, .int x1, .int x2, .int x3] [(a_o, .inr (3, [.ref a_o_bytes, .int v_o_length])), (a_o_bytes, .inr (1, [.ref a_o_bytes_cells])), (a_o_bytes_cells, .inl (cI, 48, .inl f_o_bytes_cells))] [(a_o, .inr (3, [.ref a_o_bytes, .int v_o_length])), (a_o_bytes, .inr (1, [.ref a_o_bytes_cells])), (a_o_bytes_cells, .inl (cI, 48, .inl f_o_bytes_cells))] u := by
  refine kMi_of sg_X3_isFrom ⟨rfl, rfl⟩ (Nat.le_of_ble_eq_true rfl) ?_
  intro p e s m args below meth c A H0 Q hx hb hml hown hts hK hN hA hend H locs ls hP hD hS hl
  have hl : lv_has ls 5 [(0, .ref a_o), (1, .int x1), (2, .int x2), (3, .int x3)] := hl
  have hk14 := hts (.fieldLink RX3 14 "YoungestHouse$Text" "bytes" "LYoungestHouse$Row;") (by decide +kernel)
  have hk20 := hts (.fieldLink RX3 20 "YoungestHouse$Text" "length" "I") (by decide +kernel)
  unfold f_X3_isFrom at hf
  refine lv_iload_n hx hb dX3_isFrom_0 rfl (lv_at hl 1 rfl) ?_
  refine lv_aload_n hx hb dX3_isFrom_1 rfl (lv_at hl 0 rfl) ?_
  refine va_get (D := (dC, dI)) (ci := 3) (v := .int v_o_length) (C := RX3) (T := TX3) (N := 2) hx hb hts in_X3_isFrom_X3 hown hK hP 0 rfl rfl 1 (by decide) hk20 (fun _ h9 => h9) rfl dX3_isFrom_2 ?_
  refine lv_icmp_lt (tgt := 10) hx hb dX3_isFrom_5 (by decide) (fun c1 => ?_) (fun c1 => ?_)
  · replace hf := kt c1 hf
    refine lv_aload_n hx hb dX3_isFrom_10 rfl (lv_at hl 0 rfl) ?_
    refine va_get (D := (dC, dI)) (ci := 3) (v := .ref a_o_bytes) (C := RX3) (T := TX3) (N := 2) hx hb hts in_X3_isFrom_X3 hown hK hP 0 rfl rfl 0 (by decide) hk14 (fun _ h9 => h9) rfl dX3_isFrom_11 ?_
    refine lv_iload_n hx hb dX3_isFrom_14 rfl (lv_at hl 1 rfl) ?_
    obtain ⟨u2, hu2, hf⟩ := kb1_e hf
    refine kc_i (wn := [(a_o, .inr (3, [.ref a_o_bytes, .int v_o_length])), (a_o_bytes, .inr (1, [.ref a_o_bytes_cells])), (a_o_bytes_cells, .inl (cI, 48, .inl f_o_bytes_cells))]) (kr_V (As := [.int x1]) (rest := []) ⟨hx, hb, hml, hown, hts⟩ hK hN hP hD hl.1 (c_X1_get l dC dI cI cZ a_o_bytes a_o_bytes_cells 48 f_o_bytes_cells x1 u2 hu2 H.size) sg_X1_get ⟨rfl, rfl⟩ ⟨Nat.le_of_ble_eq_true rfl, Nat.le_of_ble_eq_true rfl⟩ gX3_isFrom_X1_get 1 rfl rfl rfl [1, 2] (by decide) rfl rfl rfl (Nat.le_of_ble_eq_true rfl) dX3_isFrom_15 ⟨Nat.zero_le _, Nat.zero_le _⟩) hA hP hD hS [1, 2] rfl rfl rfl (fun H locs hP hD hS => ?_)
    refine lv_istore (lv' := [(4, .int u2), (0, .ref a_o), (1, .int x1), (2, .int x2), (3, .int x3)]) hx hb dX3_isFrom_18 hl (by decide) rfl (fun ls hl => ?_)
    refine lv_iload hx hb dX3_isFrom_20 (lv_at hl 0 rfl) ?_
    refine lv_iload_n hx hb dX3_isFrom_22 rfl (lv_at hl 3 rfl) ?_
    refine lv_icmp_lt (tgt := 36) hx hb dX3_isFrom_23 (by decide) (fun c3 => ?_) (fun c3 => ?_)
    · replace hf := kt c3 hf
      refine lv_iconst (v := (0 : Int32)) hx hb dX3_isFrom_36 (by decide) ?_
      cases hf
      exact hend _ _ _ _ dX3_isFrom_37 rfl hP hS
    · replace hf := kf c3 hf
      refine lv_iload hx hb dX3_isFrom_26 (lv_at hl 0 rfl) ?_
      refine lv_iload_n hx hb dX3_isFrom_28 rfl (lv_at hl 4 rfl) ?_
      refine lv_icmp_gt (tgt := 36) hx hb dX3_isFrom_29 (by decide) (fun c4 => ?_) (fun c4 => ?_)
      · replace hf := kt c4 hf
        refine lv_iconst (v := (0 : Int32)) hx hb dX3_isFrom_36 (by decide) ?_
        cases hf
        exact hend _ _ _ _ dX3_isFrom_37 rfl hP hS
      · replace hf := kf c4 hf
        refine lv_iconst (v := (1 : Int32)) hx hb dX3_isFrom_32 (by decide) ?_
        refine lv_goto (tgt := 37) hx hb dX3_isFrom_33 (by decide) ?_
        cases hf
        exact hend _ _ _ _ dX3_isFrom_37 rfl hP hS
  · replace hf := kf c1 hf
    refine lv_iconst (v := (0 : Int32)) hx hb dX3_isFrom_8 (by decide) ?_
    cases hf
    exact hend _ _ _ _ dX3_isFrom_9 rfl hP hS
theorem sg_X3_faultOfHouse : kSig yX3_faultOfHouse wsX3_faultOfHouse cX3_faultOfHouse 3 (some .int) RX3 2 := ⟨⟨_, rfl⟩, rfl, by decide, by decide +kernel, by decide +kernel, by decide +kernel⟩
abbrev rm_X3_faultOfHouse : Room := { frames := 2, cells := 0, slots := 0, locals := 45 }
set_option maxRecDepth 20000 in
theorem in_X3_faultOfHouse_X4 : ∀ w ∈ u_ws RX4 TX4 11, w ∈ wsX3_faultOfHouse := by decide +kernel
set_option maxHeartbeats 4000000 in
set_option maxRecDepth 100000 in
theorem c_X3_faultOfHouse (l : Launch) (dC : Nat → ClassId) (dI : Nat → Nat → Nat) (cI cZ : ClassId) (a_o a_o_bytes a_o_bytes_cells a_p2 a_p2_worth a_p2_birth a_p2_home a_p2_kind a_p2_wealth : Nat) (v_o_length : Int32) (f_o_bytes_cells : Nat → Int32) (v_p2_houses : Int32) (v_p2_children : Int32) (v_p2_living : Int32) (v_p2_sideBits : Int32) (v_p2_inherited : Int32) (v_p2_theYear : Int32) (x1 : Int32) (u : Int32) (hf : f_X3_faultOfHouse v_o_length f_o_bytes_cells v_p2_houses x1 = some u) : kMi l yX3_faultOfHouse wsX3_faultOfHouse rm_X3_faultOfHouse (dC, dI) (kTy cI cZ) [.ref a_o, .int x1, .ref a_p2] [(a_o, .inr (3, [.ref a_o_bytes, .int v_o_length])), (a_o_bytes, .inr (1, [.ref a_o_bytes_cells])), (a_o_bytes_cells, .inl (cI, 48, .inl f_o_bytes_cells)), (a_p2, .inr (4, [.int v_p2_houses, .int v_p2_children, .int v_p2_living, .int v_p2_sideBits, .int v_p2_inherited, .int v_p2_theYear, .ref a_p2_worth, .ref a_p2_birth, .ref a_p2_home, .ref a_p2_kind, .ref a_p2_wealth]))] [(a_o, .inr (3, [.ref a_o_bytes, .int v_o_length])), (a_o_bytes, .inr (1, [.ref a_o_bytes_cells])), (a_o_bytes_cells, .inl (cI, 48, .inl f_o_bytes_cells)), (a_p2, .inr (4, [.int v_p2_houses, .int v_p2_children, .int v_p2_living, .int v_p2_sideBits, .int v_p2_inherited, .int v_p2_theYear, .ref a_p2_worth, .ref a_p2_birth, .ref a_p2_home, .ref a_p2_kind, .ref a_p2_wealth]))] u := by
  refine kMi_of sg_X3_faultOfHouse ⟨rfl, rfl⟩ (Nat.le_of_ble_eq_true rfl) ?_
  intro p e s m args below meth c A H0 Q hx hb hml hown hts hK hN hA hend H locs ls hP hD hS hl
  have hl : lv_has ls 3 [(0, .ref a_o), (1, .int x1), (2, .ref a_p2)] := hl
  have hk58 := va_Nw.use (A := args) rfl (hN (.fieldLinkNest RX3 58 RX4 "houses" "I" RX5) (by decide +kernel))
  unfold f_X3_faultOfHouse at hf
  refine lv_aload_n hx hb dX3_faultOfHouse_0 rfl (lv_at hl 2 rfl) ?_
  refine va_getN (D := (dC, dI)) (ci := 4) (v := .int v_p2_houses) (C := RX4) (T := TX4) (N := 11) hx hb hts in_X3_faultOfHouse_X4 hown hK hP 3 rfl rfl 0 (by decide) hk58 (fun _ h9 => h9) rfl dX3_faultOfHouse_1 ?_
  refine lv_iconst (v := (3 : Int32)) hx hb dX3_faultOfHouse_4 (by decide) ?_
  refine lv_icmp_lt (tgt := 10) hx hb dX3_faultOfHouse_5 (by decide) (fun c1 => ?_) (fun c1 => ?_)
  · replace hf := kt c1 hf
    refine lv_aload_n hx hb dX3_faultOfHouse_10 rfl (lv_at hl 0 rfl) ?_
    refine lv_iload_n hx hb dX3_faultOfHouse_11 rfl (lv_at hl 1 rfl) ?_
    refine lv_iconst (v := (1 : Int32)) hx hb dX3_faultOfHouse_12 (by decide) ?_
    refine lv_iadd hx hb dX3_faultOfHouse_13 ?_
    refine lv_bipush (v := (48 : Int32)) hx hb dX3_faultOfHouse_14 (by decide) ?_
    refine lv_bipush (v := (49 : Int32)) hx hb dX3_faultOfHouse_16 (by decide) ?_
    obtain ⟨u2, hu2, hf⟩ := kb1_e hf
    refine kc_i (wn := [(a_o, .inr (3, [.ref a_o_bytes, .int v_o_length])), (a_o_bytes, .inr (1, [.ref a_o_bytes_cells])), (a_o_bytes_cells, .inl (cI, 48, .inl f_o_bytes_cells)), (a_p2, .inr (4, [.int v_p2_houses, .int v_p2_children, .int v_p2_living, .int v_p2_sideBits, .int v_p2_inherited, .int v_p2_theYear, .ref a_p2_worth, .ref a_p2_birth, .ref a_p2_home, .ref a_p2_kind, .ref a_p2_wealth]))]) (kr_V (As := [.int (x1 + (1 : Int32)), .int (48 : Int32), .int (49 : Int32)]) (rest := []) ⟨hx, hb, hml, hown, hts⟩ hK hN hP hD hl.1 (c_X3_isFrom l dC dI cI cZ a_o a_o_bytes a_o_bytes_cells v_o_length f_o_bytes_cells (x1 + (1 : Int32)) (48 : Int32) (49 : Int32) u2 hu2 H.size) sg_X3_isFrom ⟨rfl, rfl⟩ ⟨Nat.le_of_ble_eq_true rfl, Nat.le_of_ble_eq_true rfl⟩ gX3_faultOfHouse_X3_isFrom 0 rfl rfl rfl [0, 1, 2] (by decide) rfl rfl rfl (Nat.le_of_ble_eq_true rfl) dX3_faultOfHouse_18 ⟨Nat.zero_le _, Nat.zero_le _⟩) hA hP hD hS [0, 1, 2] rfl rfl rfl (fun H locs hP hD hS => ?_)
    refine lv_if_ne (tgt := 28) hx hb dX3_faultOfHouse_21 (by decide) (fun c3 => ?_) (fun c3 => ?_)
    · replace hf := kf c3 hf
      refine lv_aload_n hx hb dX3_faultOfHouse_28 rfl (lv_at hl 0 rfl) ?_
      refine lv_iload_n hx hb dX3_faultOfHouse_29 rfl (lv_at hl 1 rfl) ?_
      refine lv_iconst (v := (2 : Int32)) hx hb dX3_faultOfHouse_30 (by decide) ?_
      refine lv_iadd hx hb dX3_faultOfHouse_31 ?_
      refine lv_bipush (v := (49 : Int32)) hx hb dX3_faultOfHouse_32 (by decide) ?_
      refine lv_bipush (v := (57 : Int32)) hx hb dX3_faultOfHouse_34 (by decide) ?_
      obtain ⟨u4, hu4, hf⟩ := kb1_e hf
      refine kc_i (wn := [(a_o, .inr (3, [.ref a_o_bytes, .int v_o_length])), (a_o_bytes, .inr (1, [.ref a_o_bytes_cells])), (a_o_bytes_cells, .inl (cI, 48, .inl f_o_bytes_cells)), (a_p2, .inr (4, [.int v_p2_houses, .int v_p2_children, .int v_p2_living, .int v_p2_sideBits, .int v_p2_inherited, .int v_p2_theYear, .ref a_p2_worth, .ref a_p2_birth, .ref a_p2_home, .ref a_p2_kind, .ref a_p2_wealth]))]) (kr_V (As := [.int (x1 + (2 : Int32)), .int (49 : Int32), .int (57 : Int32)]) (rest := []) ⟨hx, hb, hml, hown, hts⟩ hK hN hP hD hl.1 (c_X3_isFrom l dC dI cI cZ a_o a_o_bytes a_o_bytes_cells v_o_length f_o_bytes_cells (x1 + (2 : Int32)) (49 : Int32) (57 : Int32) u4 hu4 H.size) sg_X3_isFrom ⟨rfl, rfl⟩ ⟨Nat.le_of_ble_eq_true rfl, Nat.le_of_ble_eq_true rfl⟩ gX3_faultOfHouse_X3_isFrom 0 rfl rfl rfl [0, 1, 2] (by decide) rfl rfl rfl (Nat.le_of_ble_eq_true rfl) dX3_faultOfHouse_36 ⟨Nat.zero_le _, Nat.zero_le _⟩) hA hP hD hS [0, 1, 2] rfl rfl rfl (fun H locs hP hD hS => ?_)
      refine lv_if_ne (tgt := 46) hx hb dX3_faultOfHouse_39 (by decide) (fun c5 => ?_) (fun c5 => ?_)
      · replace hf := kf c5 hf
        refine lv_bipush (v := (-9 : Int32)) hx hb dX3_faultOfHouse_46 (by decide) ?_
        cases hf
        exact hend _ _ _ _ dX3_faultOfHouse_48 rfl hP hS
      · replace hf := kt c5 hf
        refine lv_iload_n hx hb dX3_faultOfHouse_42 rfl (lv_at hl 1 rfl) ?_
        refine lv_iconst (v := (2 : Int32)) hx hb dX3_faultOfHouse_43 (by decide) ?_
        refine lv_iadd hx hb dX3_faultOfHouse_44 ?_
        cases hf
        exact hend _ _ _ _ dX3_faultOfHouse_45 rfl hP hS
    · replace hf := kt c3 hf
      refine lv_iload_n hx hb dX3_faultOfHouse_24 rfl (lv_at hl 1 rfl) ?_
      refine lv_iconst (v := (1 : Int32)) hx hb dX3_faultOfHouse_25 (by decide) ?_
      refine lv_iadd hx hb dX3_faultOfHouse_26 ?_
      cases hf
      exact hend _ _ _ _ dX3_faultOfHouse_27 rfl hP hS
  · replace hf := kf c1 hf
    refine lv_iload_n hx hb dX3_faultOfHouse_8 rfl (lv_at hl 1 rfl) ?_
    cases hf
    exact hend _ _ _ _ dX3_faultOfHouse_9 rfl hP hS
theorem sg_X3_faultOfChild : kSig yX3_faultOfChild wsX3_faultOfChild cX3_faultOfChild 3 (some .int) RX3 2 := ⟨⟨_, rfl⟩, rfl, by decide, by decide +kernel, by decide +kernel, by decide +kernel⟩
abbrev rm_X3_faultOfChild : Room := { frames := 2, cells := 0, slots := 0, locals := 45 }
set_option maxRecDepth 20000 in
theorem in_X3_faultOfChild_X4 : ∀ w ∈ u_ws RX4 TX4 11, w ∈ wsX3_faultOfChild := by decide +kernel
set_option maxHeartbeats 4000000 in
set_option maxRecDepth 100000 in
theorem c_X3_faultOfChild (l : Launch) (dC : Nat → ClassId) (dI : Nat → Nat → Nat) (cI cZ : ClassId) (a_o a_o_bytes a_o_bytes_cells a_p2 a_p2_worth a_p2_birth a_p2_home a_p2_kind a_p2_wealth : Nat) (v_o_length : Int32) (f_o_bytes_cells : Nat → Int32) (v_p2_houses : Int32) (v_p2_children : Int32) (v_p2_living : Int32) (v_p2_sideBits : Int32) (v_p2_inherited : Int32) (v_p2_theYear : Int32) (x1 : Int32) (u : Int32) (hf : f_X3_faultOfChild v_o_length f_o_bytes_cells v_p2_houses v_p2_children x1 = some u) : kMi l yX3_faultOfChild wsX3_faultOfChild rm_X3_faultOfChild (dC, dI) (kTy cI cZ) [.ref a_o, .int x1, .ref a_p2] [(a_o, .inr (3, [.ref a_o_bytes, .int v_o_length])), (a_o_bytes, .inr (1, [.ref a_o_bytes_cells])), (a_o_bytes_cells, .inl (cI, 48, .inl f_o_bytes_cells)), (a_p2, .inr (4, [.int v_p2_houses, .int v_p2_children, .int v_p2_living, .int v_p2_sideBits, .int v_p2_inherited, .int v_p2_theYear, .ref a_p2_worth, .ref a_p2_birth, .ref a_p2_home, .ref a_p2_kind, .ref a_p2_wealth]))] [(a_o, .inr (3, [.ref a_o_bytes, .int v_o_length])), (a_o_bytes, .inr (1, [.ref a_o_bytes_cells])), (a_o_bytes_cells, .inl (cI, 48, .inl f_o_bytes_cells)), (a_p2, .inr (4, [.int v_p2_houses, .int v_p2_children, .int v_p2_living, .int v_p2_sideBits, .int v_p2_inherited, .int v_p2_theYear, .ref a_p2_worth, .ref a_p2_birth, .ref a_p2_home, .ref a_p2_kind, .ref a_p2_wealth]))] u := by
  refine kMi_of sg_X3_faultOfChild ⟨rfl, rfl⟩ (Nat.le_of_ble_eq_true rfl) ?_
  intro p e s m args below meth c A H0 Q hx hb hml hown hts hK hN hA hend H locs ls hP hD hS hl
  have hl : lv_has ls 3 [(0, .ref a_o), (1, .int x1), (2, .ref a_p2)] := hl
  have hk58 := va_Nw.use (A := args) rfl (hN (.fieldLinkNest RX3 58 RX4 "houses" "I" RX5) (by decide +kernel))
  have hk61 := va_Nw.use (A := args) rfl (hN (.fieldLinkNest RX3 61 RX4 "children" "I" RX5) (by decide +kernel))
  unfold f_X3_faultOfChild at hf
  refine lv_aload_n hx hb dX3_faultOfChild_0 rfl (lv_at hl 0 rfl) ?_
  refine lv_iload_n hx hb dX3_faultOfChild_1 rfl (lv_at hl 1 rfl) ?_
  refine lv_bipush (v := (67 : Int32)) hx hb dX3_faultOfChild_2 (by decide) ?_
  refine lv_bipush (v := (67 : Int32)) hx hb dX3_faultOfChild_4 (by decide) ?_
  obtain ⟨u1, hu1, hf⟩ := kb1_e hf
  refine kc_i (wn := [(a_o, .inr (3, [.ref a_o_bytes, .int v_o_length])), (a_o_bytes, .inr (1, [.ref a_o_bytes_cells])), (a_o_bytes_cells, .inl (cI, 48, .inl f_o_bytes_cells)), (a_p2, .inr (4, [.int v_p2_houses, .int v_p2_children, .int v_p2_living, .int v_p2_sideBits, .int v_p2_inherited, .int v_p2_theYear, .ref a_p2_worth, .ref a_p2_birth, .ref a_p2_home, .ref a_p2_kind, .ref a_p2_wealth]))]) (kr_V (As := [.int x1, .int (67 : Int32), .int (67 : Int32)]) (rest := []) ⟨hx, hb, hml, hown, hts⟩ hK hN hP hD hl.1 (c_X3_isFrom l dC dI cI cZ a_o a_o_bytes a_o_bytes_cells v_o_length f_o_bytes_cells x1 (67 : Int32) (67 : Int32) u1 hu1 H.size) sg_X3_isFrom ⟨rfl, rfl⟩ ⟨Nat.le_of_ble_eq_true rfl, Nat.le_of_ble_eq_true rfl⟩ gX3_faultOfChild_X3_isFrom 0 rfl rfl rfl [0, 1, 2] (by decide) rfl rfl rfl (Nat.le_of_ble_eq_true rfl) dX3_faultOfChild_6 ⟨Nat.zero_le _, Nat.zero_le _⟩) hA hP hD hS [0, 1, 2] rfl rfl rfl (fun H locs hP hD hS => ?_)
  refine lv_if_ne (tgt := 14) hx hb dX3_faultOfChild_9 (by decide) (fun c2 => ?_) (fun c2 => ?_)
  · replace hf := kf c2 hf
    refine lv_aload_n hx hb dX3_faultOfChild_14 rfl (lv_at hl 2 rfl) ?_
    refine va_getN (D := (dC, dI)) (ci := 4) (v := .int v_p2_houses) (C := RX4) (T := TX4) (N := 11) hx hb hts in_X3_faultOfChild_X4 hown hK hP 3 rfl rfl 0 (by decide) hk58 (fun _ h9 => h9) rfl dX3_faultOfChild_15 ?_
    refine lv_if_eq (tgt := 30) hx hb dX3_faultOfChild_18 (by decide) (fun c3 => ?_) (fun c3 => ?_)
    · replace hf := kt c3 hf
      refine lv_iload_n hx hb dX3_faultOfChild_30 rfl (lv_at hl 1 rfl) ?_
      cases hf
      exact hend _ _ _ _ dX3_faultOfChild_31 rfl hP hS
    · replace hf := kf c3 hf
      refine lv_aload_n hx hb dX3_faultOfChild_21 rfl (lv_at hl 2 rfl) ?_
      refine va_getN (D := (dC, dI)) (ci := 4) (v := .int v_p2_children) (C := RX4) (T := TX4) (N := 11) hx hb hts in_X3_faultOfChild_X4 hown hK hP 3 rfl rfl 1 (by decide) hk61 (fun _ h9 => h9) rfl dX3_faultOfChild_22 ?_
      refine lv_bipush (v := (6 : Int32)) hx hb dX3_faultOfChild_25 (by decide) ?_
      refine lv_icmp_lt (tgt := 32) hx hb dX3_faultOfChild_27 (by decide) (fun c4 => ?_) (fun c4 => ?_)
      · replace hf := kt c4 hf
        refine lv_aload_n hx hb dX3_faultOfChild_32 rfl (lv_at hl 0 rfl) ?_
        refine lv_iload_n hx hb dX3_faultOfChild_33 rfl (lv_at hl 1 rfl) ?_
        refine lv_iconst (v := (1 : Int32)) hx hb dX3_faultOfChild_34 (by decide) ?_
        refine lv_iadd hx hb dX3_faultOfChild_35 ?_
        refine lv_bipush (v := (48 : Int32)) hx hb dX3_faultOfChild_36 (by decide) ?_
        refine lv_bipush (v := (57 : Int32)) hx hb dX3_faultOfChild_38 (by decide) ?_
        obtain ⟨u5, hu5, hf⟩ := kb1_e hf
        refine kc_i (wn := [(a_o, .inr (3, [.ref a_o_bytes, .int v_o_length])), (a_o_bytes, .inr (1, [.ref a_o_bytes_cells])), (a_o_bytes_cells, .inl (cI, 48, .inl f_o_bytes_cells)), (a_p2, .inr (4, [.int v_p2_houses, .int v_p2_children, .int v_p2_living, .int v_p2_sideBits, .int v_p2_inherited, .int v_p2_theYear, .ref a_p2_worth, .ref a_p2_birth, .ref a_p2_home, .ref a_p2_kind, .ref a_p2_wealth]))]) (kr_V (As := [.int (x1 + (1 : Int32)), .int (48 : Int32), .int (57 : Int32)]) (rest := []) ⟨hx, hb, hml, hown, hts⟩ hK hN hP hD hl.1 (c_X3_isFrom l dC dI cI cZ a_o a_o_bytes a_o_bytes_cells v_o_length f_o_bytes_cells (x1 + (1 : Int32)) (48 : Int32) (57 : Int32) u5 hu5 H.size) sg_X3_isFrom ⟨rfl, rfl⟩ ⟨Nat.le_of_ble_eq_true rfl, Nat.le_of_ble_eq_true rfl⟩ gX3_faultOfChild_X3_isFrom 0 rfl rfl rfl [0, 1, 2] (by decide) rfl rfl rfl (Nat.le_of_ble_eq_true rfl) dX3_faultOfChild_40 ⟨Nat.zero_le _, Nat.zero_le _⟩) hA hP hD hS [0, 1, 2] rfl rfl rfl (fun H locs hP hD hS => ?_)
        refine lv_if_ne (tgt := 50) hx hb dX3_faultOfChild_43 (by decide) (fun c6 => ?_) (fun c6 => ?_)
        · replace hf := kf c6 hf
          refine lv_aload_n hx hb dX3_faultOfChild_50 rfl (lv_at hl 0 rfl) ?_
          refine lv_iload_n hx hb dX3_faultOfChild_51 rfl (lv_at hl 1 rfl) ?_
          refine lv_iconst (v := (2 : Int32)) hx hb dX3_faultOfChild_52 (by decide) ?_
          refine lv_iadd hx hb dX3_faultOfChild_53 ?_
          refine lv_bipush (v := (48 : Int32)) hx hb dX3_faultOfChild_54 (by decide) ?_
          refine lv_bipush (v := (48 : Int32)) hx hb dX3_faultOfChild_56 (by decide) ?_
          refine lv_aload_n hx hb dX3_faultOfChild_58 rfl (lv_at hl 2 rfl) ?_
          refine va_getN (D := (dC, dI)) (ci := 4) (v := .int v_p2_houses) (C := RX4) (T := TX4) (N := 11) hx hb hts in_X3_faultOfChild_X4 hown hK hP 3 rfl rfl 0 (by decide) hk58 (fun _ h9 => h9) rfl dX3_faultOfChild_59 ?_
          refine lv_iadd hx hb dX3_faultOfChild_62 ?_
          refine lv_iconst (v := (1 : Int32)) hx hb dX3_faultOfChild_63 (by decide) ?_
          refine lv_isub hx hb dX3_faultOfChild_64 ?_
          obtain ⟨u7, hu7, hf⟩ := kb1_e hf
          refine kc_i (wn := [(a_o, .inr (3, [.ref a_o_bytes, .int v_o_length])), (a_o_bytes, .inr (1, [.ref a_o_bytes_cells])), (a_o_bytes_cells, .inl (cI, 48, .inl f_o_bytes_cells)), (a_p2, .inr (4, [.int v_p2_houses, .int v_p2_children, .int v_p2_living, .int v_p2_sideBits, .int v_p2_inherited, .int v_p2_theYear, .ref a_p2_worth, .ref a_p2_birth, .ref a_p2_home, .ref a_p2_kind, .ref a_p2_wealth]))]) (kr_V (As := [.int (x1 + (2 : Int32)), .int (48 : Int32), .int (((48 : Int32) + v_p2_houses) - (1 : Int32))]) (rest := []) ⟨hx, hb, hml, hown, hts⟩ hK hN hP hD hl.1 (c_X3_isFrom l dC dI cI cZ a_o a_o_bytes a_o_bytes_cells v_o_length f_o_bytes_cells (x1 + (2 : Int32)) (48 : Int32) (((48 : Int32) + v_p2_houses) - (1 : Int32)) u7 hu7 H.size) sg_X3_isFrom ⟨rfl, rfl⟩ ⟨Nat.le_of_ble_eq_true rfl, Nat.le_of_ble_eq_true rfl⟩ gX3_faultOfChild_X3_isFrom 0 rfl rfl rfl [0, 1, 2] (by decide) rfl rfl rfl (Nat.le_of_ble_eq_true rfl) dX3_faultOfChild_65 ⟨Nat.zero_le _, Nat.zero_le _⟩) hA hP hD hS [0, 1, 2] rfl rfl rfl (fun H locs hP hD hS => ?_)
          refine lv_if_ne (tgt := 75) hx hb dX3_faultOfChild_68 (by decide) (fun c8 => ?_) (fun c8 => ?_)
          · replace hf := kf c8 hf
            refine lv_aload_n hx hb dX3_faultOfChild_75 rfl (lv_at hl 0 rfl) ?_
            refine lv_iload_n hx hb dX3_faultOfChild_76 rfl (lv_at hl 1 rfl) ?_
            refine lv_iconst (v := (3 : Int32)) hx hb dX3_faultOfChild_77 (by decide) ?_
            refine lv_iadd hx hb dX3_faultOfChild_78 ?_
            refine lv_bipush (v := (48 : Int32)) hx hb dX3_faultOfChild_79 (by decide) ?_
            refine lv_bipush (v := (51 : Int32)) hx hb dX3_faultOfChild_81 (by decide) ?_
            obtain ⟨u9, hu9, hf⟩ := kb1_e hf
            refine kc_i (wn := [(a_o, .inr (3, [.ref a_o_bytes, .int v_o_length])), (a_o_bytes, .inr (1, [.ref a_o_bytes_cells])), (a_o_bytes_cells, .inl (cI, 48, .inl f_o_bytes_cells)), (a_p2, .inr (4, [.int v_p2_houses, .int v_p2_children, .int v_p2_living, .int v_p2_sideBits, .int v_p2_inherited, .int v_p2_theYear, .ref a_p2_worth, .ref a_p2_birth, .ref a_p2_home, .ref a_p2_kind, .ref a_p2_wealth]))]) (kr_V (As := [.int (x1 + (3 : Int32)), .int (48 : Int32), .int (51 : Int32)]) (rest := []) ⟨hx, hb, hml, hown, hts⟩ hK hN hP hD hl.1 (c_X3_isFrom l dC dI cI cZ a_o a_o_bytes a_o_bytes_cells v_o_length f_o_bytes_cells (x1 + (3 : Int32)) (48 : Int32) (51 : Int32) u9 hu9 H.size) sg_X3_isFrom ⟨rfl, rfl⟩ ⟨Nat.le_of_ble_eq_true rfl, Nat.le_of_ble_eq_true rfl⟩ gX3_faultOfChild_X3_isFrom 0 rfl rfl rfl [0, 1, 2] (by decide) rfl rfl rfl (Nat.le_of_ble_eq_true rfl) dX3_faultOfChild_83 ⟨Nat.zero_le _, Nat.zero_le _⟩) hA hP hD hS [0, 1, 2] rfl rfl rfl (fun H locs hP hD hS => ?_)
            refine lv_if_ne (tgt := 93) hx hb dX3_faultOfChild_86 (by decide) (fun c10 => ?_) (fun c10 => ?_)
            · replace hf := kf c10 hf
              refine lv_bipush (v := (-9 : Int32)) hx hb dX3_faultOfChild_93 (by decide) ?_
              cases hf
              exact hend _ _ _ _ dX3_faultOfChild_95 rfl hP hS
            · replace hf := kt c10 hf
              refine lv_iload_n hx hb dX3_faultOfChild_89 rfl (lv_at hl 1 rfl) ?_
              refine lv_iconst (v := (3 : Int32)) hx hb dX3_faultOfChild_90 (by decide) ?_
              refine lv_iadd hx hb dX3_faultOfChild_91 ?_
              cases hf
              exact hend _ _ _ _ dX3_faultOfChild_92 rfl hP hS
          · replace hf := kt c8 hf
            refine lv_iload_n hx hb dX3_faultOfChild_71 rfl (lv_at hl 1 rfl) ?_
            refine lv_iconst (v := (2 : Int32)) hx hb dX3_faultOfChild_72 (by decide) ?_
            refine lv_iadd hx hb dX3_faultOfChild_73 ?_
            cases hf
            exact hend _ _ _ _ dX3_faultOfChild_74 rfl hP hS
        · replace hf := kt c6 hf
          refine lv_iload_n hx hb dX3_faultOfChild_46 rfl (lv_at hl 1 rfl) ?_
          refine lv_iconst (v := (1 : Int32)) hx hb dX3_faultOfChild_47 (by decide) ?_
          refine lv_iadd hx hb dX3_faultOfChild_48 ?_
          cases hf
          exact hend _ _ _ _ dX3_faultOfChild_49 rfl hP hS
      · replace hf := kf c4 hf
        refine lv_iload_n hx hb dX3_faultOfChild_30 rfl (lv_at hl 1 rfl) ?_
        cases hf
        exact hend _ _ _ _ dX3_faultOfChild_31 rfl hP hS
  · replace hf := kt c2 hf
    refine lv_iload_n hx hb dX3_faultOfChild_12 rfl (lv_at hl 1 rfl) ?_
    cases hf
    exact hend _ _ _ _ dX3_faultOfChild_13 rfl hP hS
theorem sg_X3_figure : kSig yX3_figure wsX3_figure cX3_figure 2 (some .int) RX3 1 := ⟨⟨_, rfl⟩, rfl, by decide, by decide +kernel, by decide +kernel, by decide +kernel⟩
abbrev rm_X3_figure : Room := { frames := 1, cells := 0, slots := 0, locals := 21 }
set_option maxRecDepth 20000 in
theorem in_X3_figure_X3 : ∀ w ∈ u_ws RX3 TX3 2, w ∈ wsX3_figure := by decide +kernel
set_option maxHeartbeats 4000000 in
set_option maxRecDepth 100000 in
theorem c_X3_figure (l : Launch) (dC : Nat → ClassId) (dI : Nat → Nat → Nat) (cI cZ : ClassId) (a_o a_o_bytes a_o_bytes_cells : Nat) (v_o_length : Int32) (f_o_bytes_cells : Nat → Int32) (x1 : Int32) (u : Int32) (hf : f_X3_figure f_o_bytes_cells x1 = some u) : kMi l yX3_figure wsX3_figure rm_X3_figure (dC, dI) (kTy cI cZ) [.ref a_o, .int x1] [(a_o, .inr (3, [.ref a_o_bytes, .int v_o_length])), (a_o_bytes, .inr (1, [.ref a_o_bytes_cells])), (a_o_bytes_cells, .inl (cI, 48, .inl f_o_bytes_cells))] [(a_o, .inr (3, [.ref a_o_bytes, .int v_o_length])), (a_o_bytes, .inr (1, [.ref a_o_bytes_cells])), (a_o_bytes_cells, .inl (cI, 48, .inl f_o_bytes_cells))] u := by
  refine kMi_of sg_X3_figure ⟨rfl, rfl⟩ (Nat.le_of_ble_eq_true rfl) ?_
  intro p e s m args below meth c A H0 Q hx hb hml hown hts hK hN hA hend H locs ls hP hD hS hl
  have hl : lv_has ls 2 [(0, .ref a_o), (1, .int x1)] := hl
  have hk14 := hts (.fieldLink RX3 14 "YoungestHouse$Text" "bytes" "LYoungestHouse$Row;") (by decide +kernel)
  unfold f_X3_figure at hf
  refine lv_aload_n hx hb dX3_figure_0 rfl (lv_at hl 0 rfl) ?_
  refine va_get (D := (dC, dI)) (ci := 3) (v := .ref a_o_bytes) (C := RX3) (T := TX3) (N := 2) hx hb hts in_X3_figure_X3 hown hK hP 0 rfl rfl 0 (by decide) hk14 (fun _ h9 => h9) rfl dX3_figure_1 ?_
  refine lv_iload_n hx hb dX3_figure_4 rfl (lv_at hl 1 rfl) ?_
  obtain ⟨u1, hu1, hf⟩ := kb1_e hf
  refine kc_i (wn := [(a_o, .inr (3, [.ref a_o_bytes, .int v_o_length])), (a_o_bytes, .inr (1, [.ref a_o_bytes_cells])), (a_o_bytes_cells, .inl (cI, 48, .inl f_o_bytes_cells))]) (kr_V (As := [.int x1]) (rest := []) ⟨hx, hb, hml, hown, hts⟩ hK hN hP hD hl.1 (c_X1_get l dC dI cI cZ a_o_bytes a_o_bytes_cells 48 f_o_bytes_cells x1 u1 hu1 H.size) sg_X1_get ⟨rfl, rfl⟩ ⟨Nat.le_of_ble_eq_true rfl, Nat.le_of_ble_eq_true rfl⟩ gX3_figure_X1_get 1 rfl rfl rfl [1, 2] (by decide) rfl rfl rfl (Nat.le_of_ble_eq_true rfl) dX3_figure_5 ⟨Nat.zero_le _, Nat.zero_le _⟩) hA hP hD hS [1, 2] rfl rfl rfl (fun H locs hP hD hS => ?_)
  refine lv_bipush (v := (48 : Int32)) hx hb dX3_figure_8 (by decide) ?_
  refine lv_isub hx hb dX3_figure_10 ?_
  cases hf
  exact hend _ _ _ _ dX3_figure_11 rfl hP hS
theorem sg_X4_addHouse : kSig yX4_addHouse wsX4_addHouse cX4_addHouse 3 none RX4 2 := ⟨⟨_, rfl⟩, rfl, by decide, by decide +kernel, by decide +kernel, by decide +kernel⟩
abbrev rm_X4_addHouse : Room := { frames := 1, cells := 0, slots := 0, locals := 22 }
set_option maxRecDepth 20000 in
theorem in_X4_addHouse_X4 : ∀ w ∈ u_ws RX4 TX4 11, w ∈ wsX4_addHouse := by decide +kernel
set_option maxHeartbeats 4000000 in
set_option maxRecDepth 100000 in
theorem c_X4_addHouse (l : Launch) (dC : Nat → ClassId) (dI : Nat → Nat → Nat) (cI cZ : ClassId) (a_o a_o_worth a_o_birth a_o_home a_o_kind a_o_wealth a_o_worth_cells : Nat) (v_o_houses : Int32) (v_o_children : Int32) (v_o_living : Int32) (v_o_sideBits : Int32) (v_o_inherited : Int32) (v_o_theYear : Int32) (f_o_worth_cells : Nat → Int32) (x1 : Int32) (x2 : Int32) (u : Int32 × Int32 × (Nat → Int32)) (hf : f_X4_addHouse v_o_houses v_o_sideBits f_o_worth_cells x1 x2 = some u) : kMv l yX4_addHouse wsX4_addHouse rm_X4_addHouse (dC, dI) (kTy cI cZ) [.ref a_o, .int x1, .int x2] [(a_o, .inr (4, [.int v_o_houses, .int v_o_children, .int v_o_living, .int v_o_sideBits, .int v_o_inherited, .int v_o_theYear, .ref a_o_worth, .ref a_o_birth, .ref a_o_home, .ref a_o_kind, .ref a_o_wealth])), (a_o_worth, .inr (1, [.ref a_o_worth_cells])), (a_o_worth_cells, .inl (cI, 3, .inl f_o_worth_cells))] [(a_o, .inr (4, [.int u.1, .int v_o_children, .int v_o_living, .int u.2.1, .int v_o_inherited, .int v_o_theYear, .ref a_o_worth, .ref a_o_birth, .ref a_o_home, .ref a_o_kind, .ref a_o_wealth])), (a_o_worth, .inr (1, [.ref a_o_worth_cells])), (a_o_worth_cells, .inl (cI, 3, .inl u.2.2))]  := by
  refine kMv_of sg_X4_addHouse ⟨rfl, rfl⟩ (Nat.le_of_ble_eq_true rfl) ?_
  intro p e s m args below meth c A H0 Q hx hb hml hown hts hK hN hA hend H locs ls hP hD hS hl
  have hl : lv_has ls 3 [(0, .ref a_o), (1, .int x1), (2, .int x2)] := hl
  have hk14 := hts (.fieldLink RX4 14 "YoungestHouse$Town" "worth" "LYoungestHouse$Row;") (by decide +kernel)
  have hk32 := hts (.fieldLink RX4 32 "YoungestHouse$Town" "houses" "I") (by decide +kernel)
  have hk42 := hts (.fieldLink RX4 42 "YoungestHouse$Town" "sideBits" "I") (by decide +kernel)
  have J_33 : ∀ (v_o_houses : Int32) (v_o_sideBits : Int32) (f_o_worth_cells : Nat → Int32) (H : Heap) (locs : List Loc) (ls : Array Slot), va_P (dC, dI) vwCl [(a_o, .inr (4, [.int v_o_houses, .int v_o_children, .int v_o_living, .int v_o_sideBits, .int v_o_inherited, .int v_o_theYear, .ref a_o_worth, .ref a_o_birth, .ref a_o_home, .ref a_o_kind, .ref a_o_wealth])), (a_o_worth, .inr (1, [.ref a_o_worth_cells])), (a_o_worth_cells, .inl (cI, 3, .inl f_o_worth_cells))] H → va_D A [(a_o, .inr (4, [.int v_o_houses, .int v_o_children, .int v_o_living, .int v_o_sideBits, .int v_o_inherited, .int v_o_theYear, .ref a_o_worth, .ref a_o_birth, .ref a_o_home, .ref a_o_kind, .ref a_o_wealth])), (a_o_worth, .inr (1, [.ref a_o_worth_cells])), (a_o_worth_cells, .inl (cI, 3, .inl f_o_worth_cells))] → va_S A H0 H locs → lv_has ls 3 [(0, .ref a_o)] → f_X4_addHouse_33 x1 x2 v_o_houses v_o_sideBits f_o_worth_cells = some u → W p l e rm_X4_addHouse s m args below meth c H locs 0 0 Q (F0 m 33 ls []) := by
    intro v_o_houses v_o_sideBits f_o_worth_cells H locs ls hP hD hS hl hf
    unfold f_X4_addHouse_33 at hf
    refine lv_aload_n hx hb dX4_addHouse_33 rfl (lv_at hl 0 rfl) ?_
    refine lv_dup hx hb dX4_addHouse_34 rfl ?_
    refine va_get (D := (dC, dI)) (ci := 4) (v := .int v_o_houses) (C := RX4) (T := TX4) (N := 11) hx hb hts in_X4_addHouse_X4 hown hK hP 0 rfl rfl 0 (by decide) hk32 (fun _ h9 => h9) rfl dX4_addHouse_35 ?_
    refine lv_iconst (v := (1 : Int32)) hx hb dX4_addHouse_38 (by decide) ?_
    refine lv_iadd hx hb dX4_addHouse_39 ?_
    refine va_put (D := (dC, dI)) (ci := 4) (v := .int (v_o_houses + (1 : Int32))) (ty := .int) (C := RX4) (T := TX4) (N := 11) hx hb hts in_X4_addHouse_X4 tyX4 tyX4_ok nmX4 hown hK hP hD hS 0 rfl rfl 0 (by decide) hk32 (fun _ h9 => h9) rfl (by decide +kernel) rfl rfl (Nat.le_of_ble_eq_true rfl) dX4_addHouse_40 (fun H locs hP hD hS => ?_)
    have hP : va_P (dC, dI) vwCl [(a_o, .inr (4, [.int (v_o_houses + (1 : Int32)), .int v_o_children, .int v_o_living, .int v_o_sideBits, .int v_o_inherited, .int v_o_theYear, .ref a_o_worth, .ref a_o_birth, .ref a_o_home, .ref a_o_kind, .ref a_o_wealth])), (a_o_worth, .inr (1, [.ref a_o_worth_cells])), (a_o_worth_cells, .inl (cI, 3, .inl f_o_worth_cells))] H := hP
    have hD : va_D A [(a_o, .inr (4, [.int (v_o_houses + (1 : Int32)), .int v_o_children, .int v_o_living, .int v_o_sideBits, .int v_o_inherited, .int v_o_theYear, .ref a_o_worth, .ref a_o_birth, .ref a_o_home, .ref a_o_kind, .ref a_o_wealth])), (a_o_worth, .inr (1, [.ref a_o_worth_cells])), (a_o_worth_cells, .inl (cI, 3, .inl f_o_worth_cells))] := hD
    cases hf
    exact hend _ _ _ _ dX4_addHouse_43 hP hS
  unfold f_X4_addHouse at hf
  refine lv_aload_n hx hb dX4_addHouse_0 rfl (lv_at hl 0 rfl) ?_
  refine va_get (D := (dC, dI)) (ci := 4) (v := .ref a_o_worth) (C := RX4) (T := TX4) (N := 11) hx hb hts in_X4_addHouse_X4 hown hK hP 0 rfl rfl 6 (by decide) hk14 (fun _ h9 => h9) rfl dX4_addHouse_1 ?_
  refine lv_aload_n hx hb dX4_addHouse_4 rfl (lv_at hl 0 rfl) ?_
  refine va_get (D := (dC, dI)) (ci := 4) (v := .int v_o_houses) (C := RX4) (T := TX4) (N := 11) hx hb hts in_X4_addHouse_X4 hown hK hP 0 rfl rfl 0 (by decide) hk32 (fun _ h9 => h9) rfl dX4_addHouse_5 ?_
  refine lv_iload_n hx hb dX4_addHouse_8 rfl (lv_at hl 2 rfl) ?_
  obtain ⟨u1, hu1, hf⟩ := kb1_e hf
  refine kc_v (wn := [(a_o, .inr (4, [.int v_o_houses, .int v_o_children, .int v_o_living, .int v_o_sideBits, .int v_o_inherited, .int v_o_theYear, .ref a_o_worth, .ref a_o_birth, .ref a_o_home, .ref a_o_kind, .ref a_o_wealth])), (a_o_worth, .inr (1, [.ref a_o_worth_cells])), (a_o_worth_cells, .inl (cI, 3, .inl u1))]) (kr_V (As := [.int v_o_houses, .int x2]) (rest := []) ⟨hx, hb, hml, hown, hts⟩ hK hN hP hD hl.1 (c_X1_set l dC dI cI cZ a_o_worth a_o_worth_cells 3 f_o_worth_cells v_o_houses x2 u1 hu1 H.size) sg_X1_set ⟨rfl, rfl⟩ ⟨Nat.le_of_ble_eq_true rfl, Nat.le_of_ble_eq_true rfl⟩ gX4_addHouse_X1_set 1 rfl rfl rfl [1, 2] (by decide) rfl rfl rfl (Nat.le_of_ble_eq_true rfl) dX4_addHouse_9 ⟨Nat.zero_le _, Nat.zero_le _⟩) hA hP hD hS [1, 2] rfl rfl rfl (fun H locs hP hD hS => ?_)
  refine lv_iload_n hx hb dX4_addHouse_12 rfl (lv_at hl 1 rfl) ?_
  refine lv_iconst (v := (1 : Int32)) hx hb dX4_addHouse_13 (by decide) ?_
  refine lv_icmp_ne (tgt := 33) hx hb dX4_addHouse_14 (by decide) (fun c2 => ?_) (fun c2 => ?_)
  · replace hf := kf c2 hf
    exact J_33 v_o_houses v_o_sideBits u1 H locs ls hP hD hS (lv_sub hl [0] rfl) hf
  · replace hf := kt c2 hf
    refine lv_aload_n hx hb dX4_addHouse_17 rfl (lv_at hl 0 rfl) ?_
    refine lv_dup hx hb dX4_addHouse_18 rfl ?_
    refine va_get (D := (dC, dI)) (ci := 4) (v := .int v_o_sideBits) (C := RX4) (T := TX4) (N := 11) hx hb hts in_X4_addHouse_X4 hown hK hP 0 rfl rfl 3 (by decide) hk42 (fun _ h9 => h9) rfl dX4_addHouse_19 ?_
    refine lv_aload_n hx hb dX4_addHouse_22 rfl (lv_at hl 0 rfl) ?_
    refine va_get (D := (dC, dI)) (ci := 4) (v := .int v_o_houses) (C := RX4) (T := TX4) (N := 11) hx hb hts in_X4_addHouse_X4 hown hK hP 0 rfl rfl 0 (by decide) hk32 (fun _ h9 => h9) rfl dX4_addHouse_23 ?_
    obtain ⟨u3, hu3, hf⟩ := kb1_e hf
    refine kc_i (wn := [(a_o, .inr (4, [.int v_o_houses, .int v_o_children, .int v_o_living, .int v_o_sideBits, .int v_o_inherited, .int v_o_theYear, .ref a_o_worth, .ref a_o_birth, .ref a_o_home, .ref a_o_kind, .ref a_o_wealth])), (a_o_worth, .inr (1, [.ref a_o_worth_cells])), (a_o_worth_cells, .inl (cI, 3, .inl u1))]) (kr_N (host := RX5) (As := [.int v_o_houses]) (rest := [.int v_o_sideBits, .ref a_o]) ⟨hx, hb, hml, hown, hts⟩ hK hN hP hD hl.1 (c_X5_bit l dC dI cI cZ v_o_houses u3 hu3 H.size) sg_X5_bit ⟨rfl, rfl⟩ ⟨Nat.le_of_ble_eq_true rfl, Nat.le_of_ble_eq_true rfl⟩ gX4_addHouse_X5_bit_n67 (by decide +kernel) (by decide +kernel) (by decide +kernel) [] (by decide) rfl rfl rfl (Nat.le_of_ble_eq_true rfl) dX4_addHouse_26 ⟨Nat.zero_le _, Nat.zero_le _⟩) hA hP hD hS [] rfl rfl rfl (fun H locs hP hD hS => ?_)
    refine lv_ior hx hb dX4_addHouse_29 ?_
    refine va_put (D := (dC, dI)) (ci := 4) (v := .int (v_o_sideBits ||| u3)) (ty := .int) (C := RX4) (T := TX4) (N := 11) hx hb hts in_X4_addHouse_X4 tyX4 tyX4_ok nmX4 hown hK hP hD hS 0 rfl rfl 3 (by decide) hk42 (fun _ h9 => h9) rfl (by decide +kernel) rfl rfl (Nat.le_of_ble_eq_true rfl) dX4_addHouse_30 (fun H locs hP hD hS => ?_)
    have hP : va_P (dC, dI) vwCl [(a_o, .inr (4, [.int v_o_houses, .int v_o_children, .int v_o_living, .int (v_o_sideBits ||| u3), .int v_o_inherited, .int v_o_theYear, .ref a_o_worth, .ref a_o_birth, .ref a_o_home, .ref a_o_kind, .ref a_o_wealth])), (a_o_worth, .inr (1, [.ref a_o_worth_cells])), (a_o_worth_cells, .inl (cI, 3, .inl u1))] H := hP
    have hD : va_D A [(a_o, .inr (4, [.int v_o_houses, .int v_o_children, .int v_o_living, .int (v_o_sideBits ||| u3), .int v_o_inherited, .int v_o_theYear, .ref a_o_worth, .ref a_o_birth, .ref a_o_home, .ref a_o_kind, .ref a_o_wealth])), (a_o_worth, .inr (1, [.ref a_o_worth_cells])), (a_o_worth_cells, .inl (cI, 3, .inl u1))] := hD
    exact J_33 v_o_houses (v_o_sideBits ||| u3) u1 H locs ls hP hD hS (lv_sub hl [0] rfl) hf
theorem sg_X4_addChild : kSig yX4_addChild wsX4_addChild cX4_addChild 5 (some .int) RX4 3 := ⟨⟨_, rfl⟩, rfl, by decide, by decide +kernel, by decide +kernel, by decide +kernel⟩
abbrev rm_X4_addChild : Room := { frames := 1, cells := 0, slots := 0, locals := 22 }
set_option maxRecDepth 20000 in
theorem in_X4_addChild_X4 : ∀ w ∈ u_ws RX4 TX4 11, w ∈ wsX4_addChild := by decide +kernel
set_option maxHeartbeats 4000000 in
set_option maxRecDepth 100000 in
theorem c_X4_addChild (l : Launch) (dC : Nat → ClassId) (dI : Nat → Nat → Nat) (cI cZ : ClassId) (a_o a_o_worth a_o_birth a_o_home a_o_kind a_o_wealth a_o_birth_cells a_o_home_cells a_o_kind_cells a_o_wealth_cells : Nat) (v_o_houses : Int32) (v_o_children : Int32) (v_o_living : Int32) (v_o_sideBits : Int32) (v_o_inherited : Int32) (v_o_theYear : Int32) (f_o_birth_cells : Nat → Int32) (f_o_home_cells : Nat → Int32) (f_o_kind_cells : Nat → Int32) (f_o_wealth_cells : Nat → Int32) (x1 : Int32) (x2 : Int32) (x3 : Int32) (u : Int32 × Int32 × Int32 × (Nat → Int32) × (Nat → Int32) × (Nat → Int32) × (Nat → Int32)) (hf : f_X4_addChild v_o_theYear v_o_children v_o_living f_o_birth_cells f_o_home_cells f_o_kind_cells f_o_wealth_cells x1 x2 x3 = some u) : kMi l yX4_addChild wsX4_addChild rm_X4_addChild (dC, dI) (kTy cI cZ) [.ref a_o, .int x1, .int x2, .int x3] [(a_o, .inr (4, [.int v_o_houses, .int v_o_children, .int v_o_living, .int v_o_sideBits, .int v_o_inherited, .int v_o_theYear, .ref a_o_worth, .ref a_o_birth, .ref a_o_home, .ref a_o_kind, .ref a_o_wealth])), (a_o_birth, .inr (1, [.ref a_o_birth_cells])), (a_o_birth_cells, .inl (cI, 7, .inl f_o_birth_cells)), (a_o_home, .inr (1, [.ref a_o_home_cells])), (a_o_home_cells, .inl (cI, 7, .inl f_o_home_cells)), (a_o_kind, .inr (1, [.ref a_o_kind_cells])), (a_o_kind_cells, .inl (cI, 7, .inl f_o_kind_cells)), (a_o_wealth, .inr (1, [.ref a_o_wealth_cells])), (a_o_wealth_cells, .inl (cI, 7, .inl f_o_wealth_cells))] [(a_o, .inr (4, [.int v_o_houses, .int u.2.1, .int u.2.2.1, .int v_o_sideBits, .int v_o_inherited, .int v_o_theYear, .ref a_o_worth, .ref a_o_birth, .ref a_o_home, .ref a_o_kind, .ref a_o_wealth])), (a_o_birth, .inr (1, [.ref a_o_birth_cells])), (a_o_birth_cells, .inl (cI, 7, .inl u.2.2.2.1)), (a_o_home, .inr (1, [.ref a_o_home_cells])), (a_o_home_cells, .inl (cI, 7, .inl u.2.2.2.2.1)), (a_o_kind, .inr (1, [.ref a_o_kind_cells])), (a_o_kind_cells, .inl (cI, 7, .inl u.2.2.2.2.2.1)), (a_o_wealth, .inr (1, [.ref a_o_wealth_cells])), (a_o_wealth_cells, .inl (cI, 7, .inl u.2.2.2.2.2.2))] u.1 := by
  refine kMi_of sg_X4_addChild ⟨rfl, rfl⟩ (Nat.le_of_ble_eq_true rfl) ?_
  intro p e s m args below meth c A H0 Q hx hb hml hown hts hK hN hA hend H locs ls hP hD hS hl
  have hl : lv_has ls 5 [(0, .ref a_o), (1, .int x1), (2, .int x2), (3, .int x3)] := hl
  have hk20 := hts (.fieldLink RX4 20 "YoungestHouse$Town" "birth" "LYoungestHouse$Row;") (by decide +kernel)
  have hk23 := hts (.fieldLink RX4 23 "YoungestHouse$Town" "home" "LYoungestHouse$Row;") (by decide +kernel)
  have hk26 := hts (.fieldLink RX4 26 "YoungestHouse$Town" "kind" "LYoungestHouse$Row;") (by decide +kernel)
  have hk29 := hts (.fieldLink RX4 29 "YoungestHouse$Town" "wealth" "LYoungestHouse$Row;") (by decide +kernel)
  have hk36 := hts (.fieldLink RX4 36 "YoungestHouse$Town" "children" "I") (by decide +kernel)
  have hk39 := hts (.fieldLink RX4 39 "YoungestHouse$Town" "living" "I") (by decide +kernel)
  have hk48 := hts (.fieldLink RX4 48 "YoungestHouse$Town" "theYear" "I") (by decide +kernel)
  unfold f_X4_addChild at hf
  refine lv_aload_n hx hb dX4_addChild_0 rfl (lv_at hl 0 rfl) ?_
  refine va_get (D := (dC, dI)) (ci := 4) (v := .int v_o_children) (C := RX4) (T := TX4) (N := 11) hx hb hts in_X4_addChild_X4 hown hK hP 0 rfl rfl 1 (by decide) hk36 (fun _ h9 => h9) rfl dX4_addChild_1 ?_
  refine lv_istore (lv' := [(4, .int v_o_children), (0, .ref a_o), (1, .int x1), (2, .int x2), (3, .int x3)]) hx hb dX4_addChild_4 hl (by decide) rfl (fun ls hl => ?_)
  refine lv_aload_n hx hb dX4_addChild_6 rfl (lv_at hl 1 rfl) ?_
  refine va_get (D := (dC, dI)) (ci := 4) (v := .ref a_o_birth) (C := RX4) (T := TX4) (N := 11) hx hb hts in_X4_addChild_X4 hown hK hP 0 rfl rfl 7 (by decide) hk20 (fun _ h9 => h9) rfl dX4_addChild_7 ?_
  refine lv_iload hx hb dX4_addChild_10 (lv_at hl 0 rfl) ?_
  refine lv_aload_n hx hb dX4_addChild_12 rfl (lv_at hl 1 rfl) ?_
  refine va_get (D := (dC, dI)) (ci := 4) (v := .int v_o_theYear) (C := RX4) (T := TX4) (N := 11) hx hb hts in_X4_addChild_X4 hown hK hP 0 rfl rfl 5 (by decide) hk48 (fun _ h9 => h9) rfl dX4_addChild_13 ?_
  refine lv_iload_n hx hb dX4_addChild_16 rfl (lv_at hl 2 rfl) ?_
  refine lv_isub hx hb dX4_addChild_17 ?_
  obtain ⟨u1, hu1, hf⟩ := kb1_e hf
  refine kc_v (wn := [(a_o, .inr (4, [.int v_o_houses, .int v_o_children, .int v_o_living, .int v_o_sideBits, .int v_o_inherited, .int v_o_theYear, .ref a_o_worth, .ref a_o_birth, .ref a_o_home, .ref a_o_kind, .ref a_o_wealth])), (a_o_birth, .inr (1, [.ref a_o_birth_cells])), (a_o_birth_cells, .inl (cI, 7, .inl u1)), (a_o_home, .inr (1, [.ref a_o_home_cells])), (a_o_home_cells, .inl (cI, 7, .inl f_o_home_cells)), (a_o_kind, .inr (1, [.ref a_o_kind_cells])), (a_o_kind_cells, .inl (cI, 7, .inl f_o_kind_cells)), (a_o_wealth, .inr (1, [.ref a_o_wealth_cells])), (a_o_wealth_cells, .inl (cI, 7, .inl f_o_wealth_cells))]) (kr_V (As := [.int v_o_children, .int (v_o_theYear - x1)]) (rest := []) ⟨hx, hb, hml, hown, hts⟩ hK hN hP hD hl.1 (c_X1_set l dC dI cI cZ a_o_birth a_o_birth_cells 7 f_o_birth_cells v_o_children (v_o_theYear - x1) u1 hu1 H.size) sg_X1_set ⟨rfl, rfl⟩ ⟨Nat.le_of_ble_eq_true rfl, Nat.le_of_ble_eq_true rfl⟩ gX4_addChild_X1_set 1 rfl rfl rfl [1, 2] (by decide) rfl rfl rfl (Nat.le_of_ble_eq_true rfl) dX4_addChild_18 ⟨Nat.zero_le _, Nat.zero_le _⟩) hA hP hD hS [1, 2] rfl rfl rfl (fun H locs hP hD hS => ?_)
  refine lv_aload_n hx hb dX4_addChild_21 rfl (lv_at hl 1 rfl) ?_
  refine va_get (D := (dC, dI)) (ci := 4) (v := .ref a_o_home) (C := RX4) (T := TX4) (N := 11) hx hb hts in_X4_addChild_X4 hown hK hP 0 rfl rfl 8 (by decide) hk23 (fun _ h9 => h9) rfl dX4_addChild_22 ?_
  refine lv_iload hx hb dX4_addChild_25 (lv_at hl 0 rfl) ?_
  refine lv_iload_n hx hb dX4_addChild_27 rfl (lv_at hl 3 rfl) ?_
  obtain ⟨u2, hu2, hf⟩ := kb1_e hf
  refine kc_v (wn := [(a_o, .inr (4, [.int v_o_houses, .int v_o_children, .int v_o_living, .int v_o_sideBits, .int v_o_inherited, .int v_o_theYear, .ref a_o_worth, .ref a_o_birth, .ref a_o_home, .ref a_o_kind, .ref a_o_wealth])), (a_o_birth, .inr (1, [.ref a_o_birth_cells])), (a_o_birth_cells, .inl (cI, 7, .inl u1)), (a_o_home, .inr (1, [.ref a_o_home_cells])), (a_o_home_cells, .inl (cI, 7, .inl u2)), (a_o_kind, .inr (1, [.ref a_o_kind_cells])), (a_o_kind_cells, .inl (cI, 7, .inl f_o_kind_cells)), (a_o_wealth, .inr (1, [.ref a_o_wealth_cells])), (a_o_wealth_cells, .inl (cI, 7, .inl f_o_wealth_cells))]) (kr_V (As := [.int v_o_children, .int x2]) (rest := []) ⟨hx, hb, hml, hown, hts⟩ hK hN hP hD hl.1 (c_X1_set l dC dI cI cZ a_o_home a_o_home_cells 7 f_o_home_cells v_o_children x2 u2 hu2 H.size) sg_X1_set ⟨rfl, rfl⟩ ⟨Nat.le_of_ble_eq_true rfl, Nat.le_of_ble_eq_true rfl⟩ gX4_addChild_X1_set 3 rfl rfl rfl [3, 4] (by decide) rfl rfl rfl (Nat.le_of_ble_eq_true rfl) dX4_addChild_28 ⟨Nat.zero_le _, Nat.zero_le _⟩) hA hP hD hS [3, 4] rfl rfl rfl (fun H locs hP hD hS => ?_)
  refine lv_aload_n hx hb dX4_addChild_31 rfl (lv_at hl 1 rfl) ?_
  refine va_get (D := (dC, dI)) (ci := 4) (v := .ref a_o_kind) (C := RX4) (T := TX4) (N := 11) hx hb hts in_X4_addChild_X4 hown hK hP 0 rfl rfl 9 (by decide) hk26 (fun _ h9 => h9) rfl dX4_addChild_32 ?_
  refine lv_iload hx hb dX4_addChild_35 (lv_at hl 0 rfl) ?_
  refine lv_iload_n hx hb dX4_addChild_37 rfl (lv_at hl 4 rfl) ?_
  obtain ⟨u3, hu3, hf⟩ := kb1_e hf
  refine kc_v (wn := [(a_o, .inr (4, [.int v_o_houses, .int v_o_children, .int v_o_living, .int v_o_sideBits, .int v_o_inherited, .int v_o_theYear, .ref a_o_worth, .ref a_o_birth, .ref a_o_home, .ref a_o_kind, .ref a_o_wealth])), (a_o_birth, .inr (1, [.ref a_o_birth_cells])), (a_o_birth_cells, .inl (cI, 7, .inl u1)), (a_o_home, .inr (1, [.ref a_o_home_cells])), (a_o_home_cells, .inl (cI, 7, .inl u2)), (a_o_kind, .inr (1, [.ref a_o_kind_cells])), (a_o_kind_cells, .inl (cI, 7, .inl u3)), (a_o_wealth, .inr (1, [.ref a_o_wealth_cells])), (a_o_wealth_cells, .inl (cI, 7, .inl f_o_wealth_cells))]) (kr_V (As := [.int v_o_children, .int x3]) (rest := []) ⟨hx, hb, hml, hown, hts⟩ hK hN hP hD hl.1 (c_X1_set l dC dI cI cZ a_o_kind a_o_kind_cells 7 f_o_kind_cells v_o_children x3 u3 hu3 H.size) sg_X1_set ⟨rfl, rfl⟩ ⟨Nat.le_of_ble_eq_true rfl, Nat.le_of_ble_eq_true rfl⟩ gX4_addChild_X1_set 5 rfl rfl rfl [5, 6] (by decide) rfl rfl rfl (Nat.le_of_ble_eq_true rfl) dX4_addChild_38 ⟨Nat.zero_le _, Nat.zero_le _⟩) hA hP hD hS [5, 6] rfl rfl rfl (fun H locs hP hD hS => ?_)
  refine lv_aload_n hx hb dX4_addChild_41 rfl (lv_at hl 1 rfl) ?_
  refine va_get (D := (dC, dI)) (ci := 4) (v := .ref a_o_wealth) (C := RX4) (T := TX4) (N := 11) hx hb hts in_X4_addChild_X4 hown hK hP 0 rfl rfl 10 (by decide) hk29 (fun _ h9 => h9) rfl dX4_addChild_42 ?_
  refine lv_iload hx hb dX4_addChild_45 (lv_at hl 0 rfl) ?_
  refine lv_iconst (v := (0 : Int32)) hx hb dX4_addChild_47 (by decide) ?_
  obtain ⟨u4, hu4, hf⟩ := kb1_e hf
  refine kc_v (wn := [(a_o, .inr (4, [.int v_o_houses, .int v_o_children, .int v_o_living, .int v_o_sideBits, .int v_o_inherited, .int v_o_theYear, .ref a_o_worth, .ref a_o_birth, .ref a_o_home, .ref a_o_kind, .ref a_o_wealth])), (a_o_birth, .inr (1, [.ref a_o_birth_cells])), (a_o_birth_cells, .inl (cI, 7, .inl u1)), (a_o_home, .inr (1, [.ref a_o_home_cells])), (a_o_home_cells, .inl (cI, 7, .inl u2)), (a_o_kind, .inr (1, [.ref a_o_kind_cells])), (a_o_kind_cells, .inl (cI, 7, .inl u3)), (a_o_wealth, .inr (1, [.ref a_o_wealth_cells])), (a_o_wealth_cells, .inl (cI, 7, .inl u4))]) (kr_V (As := [.int v_o_children, .int (0 : Int32)]) (rest := []) ⟨hx, hb, hml, hown, hts⟩ hK hN hP hD hl.1 (c_X1_set l dC dI cI cZ a_o_wealth a_o_wealth_cells 7 f_o_wealth_cells v_o_children (0 : Int32) u4 hu4 H.size) sg_X1_set ⟨rfl, rfl⟩ ⟨Nat.le_of_ble_eq_true rfl, Nat.le_of_ble_eq_true rfl⟩ gX4_addChild_X1_set 7 rfl rfl rfl [7, 8] (by decide) rfl rfl rfl (Nat.le_of_ble_eq_true rfl) dX4_addChild_48 ⟨Nat.zero_le _, Nat.zero_le _⟩) hA hP hD hS [7, 8] rfl rfl rfl (fun H locs hP hD hS => ?_)
  refine lv_aload_n hx hb dX4_addChild_51 rfl (lv_at hl 1 rfl) ?_
  refine lv_dup hx hb dX4_addChild_52 rfl ?_
  refine va_get (D := (dC, dI)) (ci := 4) (v := .int v_o_living) (C := RX4) (T := TX4) (N := 11) hx hb hts in_X4_addChild_X4 hown hK hP 0 rfl rfl 2 (by decide) hk39 (fun _ h9 => h9) rfl dX4_addChild_53 ?_
  refine lv_iload hx hb dX4_addChild_56 (lv_at hl 0 rfl) ?_
  obtain ⟨u5, hu5, hf⟩ := kb1_e hf
  refine kc_i (wn := [(a_o, .inr (4, [.int v_o_houses, .int v_o_children, .int v_o_living, .int v_o_sideBits, .int v_o_inherited, .int v_o_theYear, .ref a_o_worth, .ref a_o_birth, .ref a_o_home, .ref a_o_kind, .ref a_o_wealth])), (a_o_birth, .inr (1, [.ref a_o_birth_cells])), (a_o_birth_cells, .inl (cI, 7, .inl u1)), (a_o_home, .inr (1, [.ref a_o_home_cells])), (a_o_home_cells, .inl (cI, 7, .inl u2)), (a_o_kind, .inr (1, [.ref a_o_kind_cells])), (a_o_kind_cells, .inl (cI, 7, .inl u3)), (a_o_wealth, .inr (1, [.ref a_o_wealth_cells])), (a_o_wealth_cells, .inl (cI, 7, .inl u4))]) (kr_N (host := RX5) (As := [.int v_o_children]) (rest := [.int v_o_living, .ref a_o]) ⟨hx, hb, hml, hown, hts⟩ hK hN hP hD hl.1 (c_X5_bit l dC dI cI cZ v_o_children u5 hu5 H.size) sg_X5_bit ⟨rfl, rfl⟩ ⟨Nat.le_of_ble_eq_true rfl, Nat.le_of_ble_eq_true rfl⟩ gX4_addChild_X5_bit_n67 (by decide +kernel) (by decide +kernel) (by decide +kernel) [] (by decide) rfl rfl rfl (Nat.le_of_ble_eq_true rfl) dX4_addChild_58 ⟨Nat.zero_le _, Nat.zero_le _⟩) hA hP hD hS [] rfl rfl rfl (fun H locs hP hD hS => ?_)
  refine lv_ior hx hb dX4_addChild_61 ?_
  refine va_put (D := (dC, dI)) (ci := 4) (v := .int (v_o_living ||| u5)) (ty := .int) (C := RX4) (T := TX4) (N := 11) hx hb hts in_X4_addChild_X4 tyX4 tyX4_ok nmX4 hown hK hP hD hS 0 rfl rfl 2 (by decide) hk39 (fun _ h9 => h9) rfl (by decide +kernel) rfl rfl (Nat.le_of_ble_eq_true rfl) dX4_addChild_62 (fun H locs hP hD hS => ?_)
  have hP : va_P (dC, dI) vwCl [(a_o, .inr (4, [.int v_o_houses, .int v_o_children, .int (v_o_living ||| u5), .int v_o_sideBits, .int v_o_inherited, .int v_o_theYear, .ref a_o_worth, .ref a_o_birth, .ref a_o_home, .ref a_o_kind, .ref a_o_wealth])), (a_o_birth, .inr (1, [.ref a_o_birth_cells])), (a_o_birth_cells, .inl (cI, 7, .inl u1)), (a_o_home, .inr (1, [.ref a_o_home_cells])), (a_o_home_cells, .inl (cI, 7, .inl u2)), (a_o_kind, .inr (1, [.ref a_o_kind_cells])), (a_o_kind_cells, .inl (cI, 7, .inl u3)), (a_o_wealth, .inr (1, [.ref a_o_wealth_cells])), (a_o_wealth_cells, .inl (cI, 7, .inl u4))] H := hP
  have hD : va_D A [(a_o, .inr (4, [.int v_o_houses, .int v_o_children, .int (v_o_living ||| u5), .int v_o_sideBits, .int v_o_inherited, .int v_o_theYear, .ref a_o_worth, .ref a_o_birth, .ref a_o_home, .ref a_o_kind, .ref a_o_wealth])), (a_o_birth, .inr (1, [.ref a_o_birth_cells])), (a_o_birth_cells, .inl (cI, 7, .inl u1)), (a_o_home, .inr (1, [.ref a_o_home_cells])), (a_o_home_cells, .inl (cI, 7, .inl u2)), (a_o_kind, .inr (1, [.ref a_o_kind_cells])), (a_o_kind_cells, .inl (cI, 7, .inl u3)), (a_o_wealth, .inr (1, [.ref a_o_wealth_cells])), (a_o_wealth_cells, .inl (cI, 7, .inl u4))] := hD
  refine lv_aload_n hx hb dX4_addChild_65 rfl (lv_at hl 1 rfl) ?_
  refine lv_dup hx hb dX4_addChild_66 rfl ?_
  refine va_get (D := (dC, dI)) (ci := 4) (v := .int v_o_children) (C := RX4) (T := TX4) (N := 11) hx hb hts in_X4_addChild_X4 hown hK hP 0 rfl rfl 1 (by decide) hk36 (fun _ h9 => h9) rfl dX4_addChild_67 ?_
  refine lv_iconst (v := (1 : Int32)) hx hb dX4_addChild_70 (by decide) ?_
  refine lv_iadd hx hb dX4_addChild_71 ?_
  refine va_put (D := (dC, dI)) (ci := 4) (v := .int (v_o_children + (1 : Int32))) (ty := .int) (C := RX4) (T := TX4) (N := 11) hx hb hts in_X4_addChild_X4 tyX4 tyX4_ok nmX4 hown hK hP hD hS 0 rfl rfl 1 (by decide) hk36 (fun _ h9 => h9) rfl (by decide +kernel) rfl rfl (Nat.le_of_ble_eq_true rfl) dX4_addChild_72 (fun H locs hP hD hS => ?_)
  have hP : va_P (dC, dI) vwCl [(a_o, .inr (4, [.int v_o_houses, .int (v_o_children + (1 : Int32)), .int (v_o_living ||| u5), .int v_o_sideBits, .int v_o_inherited, .int v_o_theYear, .ref a_o_worth, .ref a_o_birth, .ref a_o_home, .ref a_o_kind, .ref a_o_wealth])), (a_o_birth, .inr (1, [.ref a_o_birth_cells])), (a_o_birth_cells, .inl (cI, 7, .inl u1)), (a_o_home, .inr (1, [.ref a_o_home_cells])), (a_o_home_cells, .inl (cI, 7, .inl u2)), (a_o_kind, .inr (1, [.ref a_o_kind_cells])), (a_o_kind_cells, .inl (cI, 7, .inl u3)), (a_o_wealth, .inr (1, [.ref a_o_wealth_cells])), (a_o_wealth_cells, .inl (cI, 7, .inl u4))] H := hP
  have hD : va_D A [(a_o, .inr (4, [.int v_o_houses, .int (v_o_children + (1 : Int32)), .int (v_o_living ||| u5), .int v_o_sideBits, .int v_o_inherited, .int v_o_theYear, .ref a_o_worth, .ref a_o_birth, .ref a_o_home, .ref a_o_kind, .ref a_o_wealth])), (a_o_birth, .inr (1, [.ref a_o_birth_cells])), (a_o_birth_cells, .inl (cI, 7, .inl u1)), (a_o_home, .inr (1, [.ref a_o_home_cells])), (a_o_home_cells, .inl (cI, 7, .inl u2)), (a_o_kind, .inr (1, [.ref a_o_kind_cells])), (a_o_kind_cells, .inl (cI, 7, .inl u3)), (a_o_wealth, .inr (1, [.ref a_o_wealth_cells])), (a_o_wealth_cells, .inl (cI, 7, .inl u4))] := hD
  refine lv_iload hx hb dX4_addChild_75 (lv_at hl 0 rfl) ?_
  cases hf
  exact hend _ _ _ _ dX4_addChild_77 rfl hP hS
theorem sg_X3_readInto : kSig yX3_readInto wsX3_readInto cX3_readInto 5 (some .int) RX3 1 := ⟨⟨_, rfl⟩, rfl, by decide, by decide +kernel, by decide +kernel, by decide +kernel⟩
abbrev rm_X3_readInto : Room := { frames := 3, cells := 0, slots := 0, locals := 67 }
set_option maxRecDepth 20000 in
theorem in_X3_readInto_X3 : ∀ w ∈ u_ws RX3 TX3 2, w ∈ wsX3_readInto := by decide +kernel
set_option maxHeartbeats 4000000 in
set_option maxRecDepth 100000 in
theorem c_X3_readInto (l : Launch) (dC : Nat → ClassId) (dI : Nat → Nat → Nat) (cI cZ : ClassId) (a_o a_o_bytes a_o_bytes_cells a_p1 a_p1_worth a_p1_birth a_p1_home a_p1_kind a_p1_wealth a_p1_worth_cells a_p1_birth_cells a_p1_home_cells a_p1_kind_cells a_p1_wealth_cells : Nat) (v_o_length : Int32) (f_o_bytes_cells : Nat → Int32) (v_p1_houses : Int32) (v_p1_children : Int32) (v_p1_living : Int32) (v_p1_sideBits : Int32) (v_p1_inherited : Int32) (v_p1_theYear : Int32) (f_p1_worth_cells : Nat → Int32) (f_p1_birth_cells : Nat → Int32) (f_p1_home_cells : Nat → Int32) (f_p1_kind_cells : Nat → Int32) (f_p1_wealth_cells : Nat → Int32)  (u : Int32 × Int32 × Int32 × Int32 × Int32 × Int32 × Int32 × (Nat → Int32) × (Nat → Int32) × (Nat → Int32) × (Nat → Int32) × (Nat → Int32)) (hf : f_X3_readInto v_o_length f_o_bytes_cells v_p1_houses v_p1_children v_p1_living v_p1_sideBits v_p1_inherited v_p1_theYear f_p1_worth_cells f_p1_birth_cells f_p1_home_cells f_p1_kind_cells f_p1_wealth_cells = some u) : kMi l yX3_readInto wsX3_readInto rm_X3_readInto (dC, dI) (kTy cI cZ) [.ref a_o, .ref a_p1] [(a_o, .inr (3, [.ref a_o_bytes, .int v_o_length])), (a_o_bytes, .inr (1, [.ref a_o_bytes_cells])), (a_o_bytes_cells, .inl (cI, 48, .inl f_o_bytes_cells)), (a_p1, .inr (4, [.int v_p1_houses, .int v_p1_children, .int v_p1_living, .int v_p1_sideBits, .int v_p1_inherited, .int v_p1_theYear, .ref a_p1_worth, .ref a_p1_birth, .ref a_p1_home, .ref a_p1_kind, .ref a_p1_wealth])), (a_p1_worth, .inr (1, [.ref a_p1_worth_cells])), (a_p1_worth_cells, .inl (cI, 3, .inl f_p1_worth_cells)), (a_p1_birth, .inr (1, [.ref a_p1_birth_cells])), (a_p1_birth_cells, .inl (cI, 7, .inl f_p1_birth_cells)), (a_p1_home, .inr (1, [.ref a_p1_home_cells])), (a_p1_home_cells, .inl (cI, 7, .inl f_p1_home_cells)), (a_p1_kind, .inr (1, [.ref a_p1_kind_cells])), (a_p1_kind_cells, .inl (cI, 7, .inl f_p1_kind_cells)), (a_p1_wealth, .inr (1, [.ref a_p1_wealth_cells])), (a_p1_wealth_cells, .inl (cI, 7, .inl f_p1_wealth_cells))] [(a_o, .inr (3, [.ref a_o_bytes, .int v_o_length])), (a_o_bytes, .inr (1, [.ref a_o_bytes_cells])), (a_o_bytes_cells, .inl (cI, 48, .inl f_o_bytes_cells)), (a_p1, .inr (4, [.int u.2.1, .int u.2.2.1, .int u.2.2.2.1, .int u.2.2.2.2.1, .int u.2.2.2.2.2.1, .int u.2.2.2.2.2.2.1, .ref a_p1_worth, .ref a_p1_birth, .ref a_p1_home, .ref a_p1_kind, .ref a_p1_wealth])), (a_p1_worth, .inr (1, [.ref a_p1_worth_cells])), (a_p1_worth_cells, .inl (cI, 3, .inl u.2.2.2.2.2.2.2.1)), (a_p1_birth, .inr (1, [.ref a_p1_birth_cells])), (a_p1_birth_cells, .inl (cI, 7, .inl u.2.2.2.2.2.2.2.2.1)), (a_p1_home, .inr (1, [.ref a_p1_home_cells])), (a_p1_home_cells, .inl (cI, 7, .inl u.2.2.2.2.2.2.2.2.2.1)), (a_p1_kind, .inr (1, [.ref a_p1_kind_cells])), (a_p1_kind_cells, .inl (cI, 7, .inl u.2.2.2.2.2.2.2.2.2.2.1)), (a_p1_wealth, .inr (1, [.ref a_p1_wealth_cells])), (a_p1_wealth_cells, .inl (cI, 7, .inl u.2.2.2.2.2.2.2.2.2.2.2))] u.1 := by
  refine kMi_of sg_X3_readInto ⟨rfl, rfl⟩ (Nat.le_of_ble_eq_true rfl) ?_
  intro p e s m args below meth c A H0 Q hx hb hml hown hts hK hN hA hend H locs ls hP hD hS hl
  have hl : lv_has ls 5 [(0, .ref a_o), (1, .ref a_p1)] := hl
  have hk14 := hts (.fieldLink RX3 14 "YoungestHouse$Text" "bytes" "LYoungestHouse$Row;") (by decide +kernel)
  have hk20 := hts (.fieldLink RX3 20 "YoungestHouse$Text" "length" "I") (by decide +kernel)
  have J_20 : ∀ (n_20 : Nat), ∀ (v_p1_houses : Int32) (v_p1_children : Int32) (v_p1_living : Int32) (v_p1_sideBits : Int32) (v_p1_inherited : Int32) (v_p1_theYear : Int32) (f_p1_worth_cells : Nat → Int32) (f_p1_birth_cells : Nat → Int32) (f_p1_home_cells : Nat → Int32) (f_p1_kind_cells : Nat → Int32) (f_p1_wealth_cells : Nat → Int32) (x2 : Int32) (H : Heap) (locs : List Loc) (ls : Array Slot), va_P (dC, dI) vwCl [(a_o, .inr (3, [.ref a_o_bytes, .int v_o_length])), (a_o_bytes, .inr (1, [.ref a_o_bytes_cells])), (a_o_bytes_cells, .inl (cI, 48, .inl f_o_bytes_cells)), (a_p1, .inr (4, [.int v_p1_houses, .int v_p1_children, .int v_p1_living, .int v_p1_sideBits, .int v_p1_inherited, .int v_p1_theYear, .ref a_p1_worth, .ref a_p1_birth, .ref a_p1_home, .ref a_p1_kind, .ref a_p1_wealth])), (a_p1_worth, .inr (1, [.ref a_p1_worth_cells])), (a_p1_worth_cells, .inl (cI, 3, .inl f_p1_worth_cells)), (a_p1_birth, .inr (1, [.ref a_p1_birth_cells])), (a_p1_birth_cells, .inl (cI, 7, .inl f_p1_birth_cells)), (a_p1_home, .inr (1, [.ref a_p1_home_cells])), (a_p1_home_cells, .inl (cI, 7, .inl f_p1_home_cells)), (a_p1_kind, .inr (1, [.ref a_p1_kind_cells])), (a_p1_kind_cells, .inl (cI, 7, .inl f_p1_kind_cells)), (a_p1_wealth, .inr (1, [.ref a_p1_wealth_cells])), (a_p1_wealth_cells, .inl (cI, 7, .inl f_p1_wealth_cells))] H → va_D A [(a_o, .inr (3, [.ref a_o_bytes, .int v_o_length])), (a_o_bytes, .inr (1, [.ref a_o_bytes_cells])), (a_o_bytes_cells, .inl (cI, 48, .inl f_o_bytes_cells)), (a_p1, .inr (4, [.int v_p1_houses, .int v_p1_children, .int v_p1_living, .int v_p1_sideBits, .int v_p1_inherited, .int v_p1_theYear, .ref a_p1_worth, .ref a_p1_birth, .ref a_p1_home, .ref a_p1_kind, .ref a_p1_wealth])), (a_p1_worth, .inr (1, [.ref a_p1_worth_cells])), (a_p1_worth_cells, .inl (cI, 3, .inl f_p1_worth_cells)), (a_p1_birth, .inr (1, [.ref a_p1_birth_cells])), (a_p1_birth_cells, .inl (cI, 7, .inl f_p1_birth_cells)), (a_p1_home, .inr (1, [.ref a_p1_home_cells])), (a_p1_home_cells, .inl (cI, 7, .inl f_p1_home_cells)), (a_p1_kind, .inr (1, [.ref a_p1_kind_cells])), (a_p1_kind_cells, .inl (cI, 7, .inl f_p1_kind_cells)), (a_p1_wealth, .inr (1, [.ref a_p1_wealth_cells])), (a_p1_wealth_cells, .inl (cI, 7, .inl f_p1_wealth_cells))] → va_S A H0 H locs → lv_has ls 5 [(0, .ref a_o), (1, .ref a_p1), (2, .int x2)] → f_X3_readInto_20 v_o_length f_o_bytes_cells n_20 v_p1_houses v_p1_children v_p1_living v_p1_sideBits v_p1_inherited v_p1_theYear f_p1_worth_cells f_p1_birth_cells f_p1_home_cells f_p1_kind_cells f_p1_wealth_cells x2 = some u → W p l e rm_X3_readInto s m args below meth c H locs 0 0 Q (F0 m 20 ls []) := by
    intro n_20
    induction n_20 with
    | zero => intro v_p1_houses v_p1_children v_p1_living v_p1_sideBits v_p1_inherited v_p1_theYear f_p1_worth_cells f_p1_birth_cells f_p1_home_cells f_p1_kind_cells f_p1_wealth_cells x2 H locs ls hP hD hS hl hf; exact nomatch hf
    | succ n_20 ih_20 =>
      have J_129 : ∀ (v_p1_houses : Int32) (v_p1_children : Int32) (v_p1_living : Int32) (v_p1_sideBits : Int32) (v_p1_inherited : Int32) (v_p1_theYear : Int32) (f_p1_worth_cells : Nat → Int32) (f_p1_birth_cells : Nat → Int32) (f_p1_home_cells : Nat → Int32) (f_p1_kind_cells : Nat → Int32) (f_p1_wealth_cells : Nat → Int32) (x2 : Int32) (x3 : Int32) (H : Heap) (locs : List Loc) (ls : Array Slot), va_P (dC, dI) vwCl [(a_o, .inr (3, [.ref a_o_bytes, .int v_o_length])), (a_o_bytes, .inr (1, [.ref a_o_bytes_cells])), (a_o_bytes_cells, .inl (cI, 48, .inl f_o_bytes_cells)), (a_p1, .inr (4, [.int v_p1_houses, .int v_p1_children, .int v_p1_living, .int v_p1_sideBits, .int v_p1_inherited, .int v_p1_theYear, .ref a_p1_worth, .ref a_p1_birth, .ref a_p1_home, .ref a_p1_kind, .ref a_p1_wealth])), (a_p1_worth, .inr (1, [.ref a_p1_worth_cells])), (a_p1_worth_cells, .inl (cI, 3, .inl f_p1_worth_cells)), (a_p1_birth, .inr (1, [.ref a_p1_birth_cells])), (a_p1_birth_cells, .inl (cI, 7, .inl f_p1_birth_cells)), (a_p1_home, .inr (1, [.ref a_p1_home_cells])), (a_p1_home_cells, .inl (cI, 7, .inl f_p1_home_cells)), (a_p1_kind, .inr (1, [.ref a_p1_kind_cells])), (a_p1_kind_cells, .inl (cI, 7, .inl f_p1_kind_cells)), (a_p1_wealth, .inr (1, [.ref a_p1_wealth_cells])), (a_p1_wealth_cells, .inl (cI, 7, .inl f_p1_wealth_cells))] H → va_D A [(a_o, .inr (3, [.ref a_o_bytes, .int v_o_length])), (a_o_bytes, .inr (1, [.ref a_o_bytes_cells])), (a_o_bytes_cells, .inl (cI, 48, .inl f_o_bytes_cells)), (a_p1, .inr (4, [.int v_p1_houses, .int v_p1_children, .int v_p1_living, .int v_p1_sideBits, .int v_p1_inherited, .int v_p1_theYear, .ref a_p1_worth, .ref a_p1_birth, .ref a_p1_home, .ref a_p1_kind, .ref a_p1_wealth])), (a_p1_worth, .inr (1, [.ref a_p1_worth_cells])), (a_p1_worth_cells, .inl (cI, 3, .inl f_p1_worth_cells)), (a_p1_birth, .inr (1, [.ref a_p1_birth_cells])), (a_p1_birth_cells, .inl (cI, 7, .inl f_p1_birth_cells)), (a_p1_home, .inr (1, [.ref a_p1_home_cells])), (a_p1_home_cells, .inl (cI, 7, .inl f_p1_home_cells)), (a_p1_kind, .inr (1, [.ref a_p1_kind_cells])), (a_p1_kind_cells, .inl (cI, 7, .inl f_p1_kind_cells)), (a_p1_wealth, .inr (1, [.ref a_p1_wealth_cells])), (a_p1_wealth_cells, .inl (cI, 7, .inl f_p1_wealth_cells))] → va_S A H0 H locs → lv_has ls 5 [(0, .ref a_o), (1, .ref a_p1), (2, .int x2), (3, .int x3)] → f_X3_readInto_129 v_o_length f_o_bytes_cells (f_X3_readInto_20 v_o_length f_o_bytes_cells n_20) v_p1_houses v_p1_children v_p1_living v_p1_sideBits v_p1_inherited v_p1_theYear f_p1_worth_cells f_p1_birth_cells f_p1_home_cells f_p1_kind_cells f_p1_wealth_cells x2 x3 = some u → W p l e rm_X3_readInto s m args below meth c H locs 0 0 Q (F0 m 129 ls []) := by
        intro v_p1_houses v_p1_children v_p1_living v_p1_sideBits v_p1_inherited v_p1_theYear f_p1_worth_cells f_p1_birth_cells f_p1_home_cells f_p1_kind_cells f_p1_wealth_cells x2 x3 H locs ls hP hD hS hl hf
        unfold f_X3_readInto_129 at hf
        refine lv_iload_n hx hb dX3_readInto_129 rfl (lv_at hl 2 rfl) ?_
        refine lv_iload_n hx hb dX3_readInto_130 rfl (lv_at hl 3 rfl) ?_
        refine lv_if_eq (tgt := 138) hx hb dX3_readInto_131 (by decide) (fun c1 => ?_) (fun c1 => ?_)
        · replace hf := kt c1 hf
          refine lv_iconst (v := (4 : Int32)) hx hb dX3_readInto_138 (by decide) ?_
          refine lv_iadd hx hb dX3_readInto_139 ?_
          refine lv_istore_n (lv' := [(2, .int (x2 + (4 : Int32))), (0, .ref a_o), (1, .ref a_p1), (3, .int x3)]) hx hb dX3_readInto_140 rfl hl (by decide) rfl (fun ls hl => ?_)
          refine lv_goto (tgt := 20) hx hb dX3_readInto_141 (by decide) ?_
          exact ih_20 v_p1_houses v_p1_children v_p1_living v_p1_sideBits v_p1_inherited v_p1_theYear f_p1_worth_cells f_p1_birth_cells f_p1_home_cells f_p1_kind_cells f_p1_wealth_cells (x2 + (4 : Int32)) H locs ls hP hD hS (lv_sub hl [1, 2, 0] rfl) hf
        · replace hf := kf c1 hf
          refine lv_iconst (v := (3 : Int32)) hx hb dX3_readInto_134 (by decide) ?_
          refine lv_goto (tgt := 139) hx hb dX3_readInto_135 (by decide) ?_
          refine lv_iadd hx hb dX3_readInto_139 ?_
          refine lv_istore_n (lv' := [(2, .int (x2 + (3 : Int32))), (0, .ref a_o), (1, .ref a_p1), (3, .int x3)]) hx hb dX3_readInto_140 rfl hl (by decide) rfl (fun ls hl => ?_)
          refine lv_goto (tgt := 20) hx hb dX3_readInto_141 (by decide) ?_
          exact ih_20 v_p1_houses v_p1_children v_p1_living v_p1_sideBits v_p1_inherited v_p1_theYear f_p1_worth_cells f_p1_birth_cells f_p1_home_cells f_p1_kind_cells f_p1_wealth_cells (x2 + (3 : Int32)) H locs ls hP hD hS (lv_sub hl [1, 2, 0] rfl) hf
      have J_66 : ∀ (v_p1_houses : Int32) (v_p1_children : Int32) (v_p1_living : Int32) (v_p1_sideBits : Int32) (v_p1_inherited : Int32) (v_p1_theYear : Int32) (f_p1_worth_cells : Nat → Int32) (f_p1_birth_cells : Nat → Int32) (f_p1_home_cells : Nat → Int32) (f_p1_kind_cells : Nat → Int32) (f_p1_wealth_cells : Nat → Int32) (x2 : Int32) (x3 : Int32) (t0 : Int32) (H : Heap) (locs : List Loc) (ls : Array Slot), va_P (dC, dI) vwCl [(a_o, .inr (3, [.ref a_o_bytes, .int v_o_length])), (a_o_bytes, .inr (1, [.ref a_o_bytes_cells])), (a_o_bytes_cells, .inl (cI, 48, .inl f_o_bytes_cells)), (a_p1, .inr (4, [.int v_p1_houses, .int v_p1_children, .int v_p1_living, .int v_p1_sideBits, .int v_p1_inherited, .int v_p1_theYear, .ref a_p1_worth, .ref a_p1_birth, .ref a_p1_home, .ref a_p1_kind, .ref a_p1_wealth])), (a_p1_worth, .inr (1, [.ref a_p1_worth_cells])), (a_p1_worth_cells, .inl (cI, 3, .inl f_p1_worth_cells)), (a_p1_birth, .inr (1, [.ref a_p1_birth_cells])), (a_p1_birth_cells, .inl (cI, 7, .inl f_p1_birth_cells)), (a_p1_home, .inr (1, [.ref a_p1_home_cells])), (a_p1_home_cells, .inl (cI, 7, .inl f_p1_home_cells)), (a_p1_kind, .inr (1, [.ref a_p1_kind_cells])), (a_p1_kind_cells, .inl (cI, 7, .inl f_p1_kind_cells)), (a_p1_wealth, .inr (1, [.ref a_p1_wealth_cells])), (a_p1_wealth_cells, .inl (cI, 7, .inl f_p1_wealth_cells))] H → va_D A [(a_o, .inr (3, [.ref a_o_bytes, .int v_o_length])), (a_o_bytes, .inr (1, [.ref a_o_bytes_cells])), (a_o_bytes_cells, .inl (cI, 48, .inl f_o_bytes_cells)), (a_p1, .inr (4, [.int v_p1_houses, .int v_p1_children, .int v_p1_living, .int v_p1_sideBits, .int v_p1_inherited, .int v_p1_theYear, .ref a_p1_worth, .ref a_p1_birth, .ref a_p1_home, .ref a_p1_kind, .ref a_p1_wealth])), (a_p1_worth, .inr (1, [.ref a_p1_worth_cells])), (a_p1_worth_cells, .inl (cI, 3, .inl f_p1_worth_cells)), (a_p1_birth, .inr (1, [.ref a_p1_birth_cells])), (a_p1_birth_cells, .inl (cI, 7, .inl f_p1_birth_cells)), (a_p1_home, .inr (1, [.ref a_p1_home_cells])), (a_p1_home_cells, .inl (cI, 7, .inl f_p1_home_cells)), (a_p1_kind, .inr (1, [.ref a_p1_kind_cells])), (a_p1_kind_cells, .inl (cI, 7, .inl f_p1_kind_cells)), (a_p1_wealth, .inr (1, [.ref a_p1_wealth_cells])), (a_p1_wealth_cells, .inl (cI, 7, .inl f_p1_wealth_cells))] → va_S A H0 H locs → lv_has ls 5 [(0, .ref a_o), (1, .ref a_p1), (2, .int x2), (3, .int x3)] → f_X3_readInto_66 v_o_length f_o_bytes_cells (f_X3_readInto_20 v_o_length f_o_bytes_cells n_20) v_p1_houses v_p1_children v_p1_living v_p1_sideBits v_p1_inherited v_p1_theYear f_p1_worth_cells f_p1_birth_cells f_p1_home_cells f_p1_kind_cells f_p1_wealth_cells x2 x3 t0 = some u → W p l e rm_X3_readInto s m args below meth c H locs 0 0 Q (F0 m 66 ls [.int t0]) := by
        intro v_p1_houses v_p1_children v_p1_living v_p1_sideBits v_p1_inherited v_p1_theYear f_p1_worth_cells f_p1_birth_cells f_p1_home_cells f_p1_kind_cells f_p1_wealth_cells x2 x3 t0 H locs ls hP hD hS hl hf
        unfold f_X3_readInto_66 at hf
        refine lv_istore (lv' := [(4, .int t0), (0, .ref a_o), (1, .ref a_p1), (2, .int x2), (3, .int x3)]) hx hb dX3_readInto_66 hl (by decide) rfl (fun ls hl => ?_)
        refine lv_iload hx hb dX3_readInto_68 (lv_at hl 0 rfl) ?_
        refine lv_bipush (v := (-9 : Int32)) hx hb dX3_readInto_70 (by decide) ?_
        refine lv_icmp_eq (tgt := 78) hx hb dX3_readInto_72 (by decide) (fun c2 => ?_) (fun c2 => ?_)
        · replace hf := kt c2 hf
          refine lv_iload_n hx hb dX3_readInto_78 rfl (lv_at hl 4 rfl) ?_
          refine lv_if_eq (tgt := 103) hx hb dX3_readInto_79 (by decide) (fun c3 => ?_) (fun c3 => ?_)
          · replace hf := kt c3 hf
            refine lv_aload_n hx hb dX3_readInto_103 rfl (lv_at hl 2 rfl) ?_
            refine lv_aload_n hx hb dX3_readInto_104 rfl (lv_at hl 1 rfl) ?_
            refine lv_iload_n hx hb dX3_readInto_105 rfl (lv_at hl 3 rfl) ?_
            refine lv_iconst (v := (1 : Int32)) hx hb dX3_readInto_106 (by decide) ?_
            refine lv_iadd hx hb dX3_readInto_107 ?_
            obtain ⟨u4, hu4, hf⟩ := kb1_e hf
            refine kc_i (wn := [(a_o, .inr (3, [.ref a_o_bytes, .int v_o_length])), (a_o_bytes, .inr (1, [.ref a_o_bytes_cells])), (a_o_bytes_cells, .inl (cI, 48, .inl f_o_bytes_cells)), (a_p1, .inr (4, [.int v_p1_houses, .int v_p1_children, .int v_p1_living, .int v_p1_sideBits, .int v_p1_inherited, .int v_p1_theYear, .ref a_p1_worth, .ref a_p1_birth, .ref a_p1_home, .ref a_p1_kind, .ref a_p1_wealth])), (a_p1_worth, .inr (1, [.ref a_p1_worth_cells])), (a_p1_worth_cells, .inl (cI, 3, .inl f_p1_worth_cells)), (a_p1_birth, .inr (1, [.ref a_p1_birth_cells])), (a_p1_birth_cells, .inl (cI, 7, .inl f_p1_birth_cells)), (a_p1_home, .inr (1, [.ref a_p1_home_cells])), (a_p1_home_cells, .inl (cI, 7, .inl f_p1_home_cells)), (a_p1_kind, .inr (1, [.ref a_p1_kind_cells])), (a_p1_kind_cells, .inl (cI, 7, .inl f_p1_kind_cells)), (a_p1_wealth, .inr (1, [.ref a_p1_wealth_cells])), (a_p1_wealth_cells, .inl (cI, 7, .inl f_p1_wealth_cells))]) (kr_V (As := [.int (x2 + (1 : Int32))]) (rest := [.ref a_p1]) ⟨hx, hb, hml, hown, hts⟩ hK hN hP hD hl.1 (c_X3_figure l dC dI cI cZ a_o a_o_bytes a_o_bytes_cells v_o_length f_o_bytes_cells (x2 + (1 : Int32)) u4 hu4 H.size) sg_X3_figure ⟨rfl, rfl⟩ ⟨Nat.le_of_ble_eq_true rfl, Nat.le_of_ble_eq_true rfl⟩ gX3_readInto_X3_figure 0 rfl rfl rfl [0, 1, 2] (by decide) rfl rfl rfl (Nat.le_of_ble_eq_true rfl) dX3_readInto_108 ⟨Nat.zero_le _, Nat.zero_le _⟩) hA hP hD hS [0, 1, 2] rfl rfl rfl (fun H locs hP hD hS => ?_)
            refine lv_aload_n hx hb dX3_readInto_111 rfl (lv_at hl 1 rfl) ?_
            refine lv_iload_n hx hb dX3_readInto_112 rfl (lv_at hl 3 rfl) ?_
            refine lv_iconst (v := (2 : Int32)) hx hb dX3_readInto_113 (by decide) ?_
            refine lv_iadd hx hb dX3_readInto_114 ?_
            obtain ⟨u5, hu5, hf⟩ := kb1_e hf
            refine kc_i (wn := [(a_o, .inr (3, [.ref a_o_bytes, .int v_o_length])), (a_o_bytes, .inr (1, [.ref a_o_bytes_cells])), (a_o_bytes_cells, .inl (cI, 48, .inl f_o_bytes_cells)), (a_p1, .inr (4, [.int v_p1_houses, .int v_p1_children, .int v_p1_living, .int v_p1_sideBits, .int v_p1_inherited, .int v_p1_theYear, .ref a_p1_worth, .ref a_p1_birth, .ref a_p1_home, .ref a_p1_kind, .ref a_p1_wealth])), (a_p1_worth, .inr (1, [.ref a_p1_worth_cells])), (a_p1_worth_cells, .inl (cI, 3, .inl f_p1_worth_cells)), (a_p1_birth, .inr (1, [.ref a_p1_birth_cells])), (a_p1_birth_cells, .inl (cI, 7, .inl f_p1_birth_cells)), (a_p1_home, .inr (1, [.ref a_p1_home_cells])), (a_p1_home_cells, .inl (cI, 7, .inl f_p1_home_cells)), (a_p1_kind, .inr (1, [.ref a_p1_kind_cells])), (a_p1_kind_cells, .inl (cI, 7, .inl f_p1_kind_cells)), (a_p1_wealth, .inr (1, [.ref a_p1_wealth_cells])), (a_p1_wealth_cells, .inl (cI, 7, .inl f_p1_wealth_cells))]) (kr_V (As := [.int (x2 + (2 : Int32))]) (rest := [.int u4, .ref a_p1]) ⟨hx, hb, hml, hown, hts⟩ hK hN hP hD hl.1 (c_X3_figure l dC dI cI cZ a_o a_o_bytes a_o_bytes_cells v_o_length f_o_bytes_cells (x2 + (2 : Int32)) u5 hu5 H.size) sg_X3_figure ⟨rfl, rfl⟩ ⟨Nat.le_of_ble_eq_true rfl, Nat.le_of_ble_eq_true rfl⟩ gX3_readInto_X3_figure 0 rfl rfl rfl [0, 1, 2] (by decide) rfl rfl rfl (Nat.le_of_ble_eq_true rfl) dX3_readInto_115 ⟨Nat.zero_le _, Nat.zero_le _⟩) hA hP hD hS [0, 1, 2] rfl rfl rfl (fun H locs hP hD hS => ?_)
            refine lv_aload_n hx hb dX3_readInto_118 rfl (lv_at hl 1 rfl) ?_
            refine lv_iload_n hx hb dX3_readInto_119 rfl (lv_at hl 3 rfl) ?_
            refine lv_iconst (v := (3 : Int32)) hx hb dX3_readInto_120 (by decide) ?_
            refine lv_iadd hx hb dX3_readInto_121 ?_
            obtain ⟨u6, hu6, hf⟩ := kb1_e hf
            refine kc_i (wn := [(a_o, .inr (3, [.ref a_o_bytes, .int v_o_length])), (a_o_bytes, .inr (1, [.ref a_o_bytes_cells])), (a_o_bytes_cells, .inl (cI, 48, .inl f_o_bytes_cells)), (a_p1, .inr (4, [.int v_p1_houses, .int v_p1_children, .int v_p1_living, .int v_p1_sideBits, .int v_p1_inherited, .int v_p1_theYear, .ref a_p1_worth, .ref a_p1_birth, .ref a_p1_home, .ref a_p1_kind, .ref a_p1_wealth])), (a_p1_worth, .inr (1, [.ref a_p1_worth_cells])), (a_p1_worth_cells, .inl (cI, 3, .inl f_p1_worth_cells)), (a_p1_birth, .inr (1, [.ref a_p1_birth_cells])), (a_p1_birth_cells, .inl (cI, 7, .inl f_p1_birth_cells)), (a_p1_home, .inr (1, [.ref a_p1_home_cells])), (a_p1_home_cells, .inl (cI, 7, .inl f_p1_home_cells)), (a_p1_kind, .inr (1, [.ref a_p1_kind_cells])), (a_p1_kind_cells, .inl (cI, 7, .inl f_p1_kind_cells)), (a_p1_wealth, .inr (1, [.ref a_p1_wealth_cells])), (a_p1_wealth_cells, .inl (cI, 7, .inl f_p1_wealth_cells))]) (kr_V (As := [.int (x2 + (3 : Int32))]) (rest := [.int u5, .int u4, .ref a_p1]) ⟨hx, hb, hml, hown, hts⟩ hK hN hP hD hl.1 (c_X3_figure l dC dI cI cZ a_o a_o_bytes a_o_bytes_cells v_o_length f_o_bytes_cells (x2 + (3 : Int32)) u6 hu6 H.size) sg_X3_figure ⟨rfl, rfl⟩ ⟨Nat.le_of_ble_eq_true rfl, Nat.le_of_ble_eq_true rfl⟩ gX3_readInto_X3_figure 0 rfl rfl rfl [0, 1, 2] (by decide) rfl rfl rfl (Nat.le_of_ble_eq_true rfl) dX3_readInto_122 ⟨Nat.zero_le _, Nat.zero_le _⟩) hA hP hD hS [0, 1, 2] rfl rfl rfl (fun H locs hP hD hS => ?_)
            obtain ⟨u7, hu7, hf⟩ := kb1_e hf
            refine kc_i (wn := [(a_o, .inr (3, [.ref a_o_bytes, .int v_o_length])), (a_o_bytes, .inr (1, [.ref a_o_bytes_cells])), (a_o_bytes_cells, .inl (cI, 48, .inl f_o_bytes_cells)), (a_p1, .inr (4, [.int v_p1_houses, .int u7.2.1, .int u7.2.2.1, .int v_p1_sideBits, .int v_p1_inherited, .int v_p1_theYear, .ref a_p1_worth, .ref a_p1_birth, .ref a_p1_home, .ref a_p1_kind, .ref a_p1_wealth])), (a_p1_worth, .inr (1, [.ref a_p1_worth_cells])), (a_p1_worth_cells, .inl (cI, 3, .inl f_p1_worth_cells)), (a_p1_birth, .inr (1, [.ref a_p1_birth_cells])), (a_p1_birth_cells, .inl (cI, 7, .inl u7.2.2.2.1)), (a_p1_home, .inr (1, [.ref a_p1_home_cells])), (a_p1_home_cells, .inl (cI, 7, .inl u7.2.2.2.2.1)), (a_p1_kind, .inr (1, [.ref a_p1_kind_cells])), (a_p1_kind_cells, .inl (cI, 7, .inl u7.2.2.2.2.2.1)), (a_p1_wealth, .inr (1, [.ref a_p1_wealth_cells])), (a_p1_wealth_cells, .inl (cI, 7, .inl u7.2.2.2.2.2.2))]) (kr_V (As := [.int u4, .int u5, .int u6]) (rest := []) ⟨hx, hb, hml, hown, hts⟩ hK hN hP hD hl.1 (c_X4_addChild l dC dI cI cZ a_p1 a_p1_worth a_p1_birth a_p1_home a_p1_kind a_p1_wealth a_p1_birth_cells a_p1_home_cells a_p1_kind_cells a_p1_wealth_cells v_p1_houses v_p1_children v_p1_living v_p1_sideBits v_p1_inherited v_p1_theYear f_p1_birth_cells f_p1_home_cells f_p1_kind_cells f_p1_wealth_cells u4 u5 u6 u7 hu7 H.size) sg_X4_addChild ⟨rfl, rfl⟩ ⟨Nat.le_of_ble_eq_true rfl, Nat.le_of_ble_eq_true rfl⟩ gX3_readInto_X4_addChild 3 rfl rfl rfl [3, 6, 7, 8, 9, 10, 11, 12, 13] (by decide) rfl rfl rfl (Nat.le_of_ble_eq_true rfl) dX3_readInto_125 ⟨Nat.zero_le _, Nat.zero_le _⟩) hA hP hD hS [3, 6, 7, 8, 9, 10, 11, 12, 13] rfl rfl rfl (fun H locs hP hD hS => ?_)
            refine lv_pop hx hb dX3_readInto_128 rfl ?_
            exact J_129 v_p1_houses u7.2.1 u7.2.2.1 v_p1_sideBits v_p1_inherited v_p1_theYear f_p1_worth_cells u7.2.2.2.1 u7.2.2.2.2.1 u7.2.2.2.2.2.1 u7.2.2.2.2.2.2 x2 x3 H locs ls hP hD hS (lv_sub hl [1, 2, 3, 4] rfl) hf
          · replace hf := kf c3 hf
            refine lv_aload_n hx hb dX3_readInto_82 rfl (lv_at hl 2 rfl) ?_
            refine lv_aload_n hx hb dX3_readInto_83 rfl (lv_at hl 1 rfl) ?_
            refine lv_iload_n hx hb dX3_readInto_84 rfl (lv_at hl 3 rfl) ?_
            refine lv_iconst (v := (1 : Int32)) hx hb dX3_readInto_85 (by decide) ?_
            refine lv_iadd hx hb dX3_readInto_86 ?_
            obtain ⟨u8, hu8, hf⟩ := kb1_e hf
            refine kc_i (wn := [(a_o, .inr (3, [.ref a_o_bytes, .int v_o_length])), (a_o_bytes, .inr (1, [.ref a_o_bytes_cells])), (a_o_bytes_cells, .inl (cI, 48, .inl f_o_bytes_cells)), (a_p1, .inr (4, [.int v_p1_houses, .int v_p1_children, .int v_p1_living, .int v_p1_sideBits, .int v_p1_inherited, .int v_p1_theYear, .ref a_p1_worth, .ref a_p1_birth, .ref a_p1_home, .ref a_p1_kind, .ref a_p1_wealth])), (a_p1_worth, .inr (1, [.ref a_p1_worth_cells])), (a_p1_worth_cells, .inl (cI, 3, .inl f_p1_worth_cells)), (a_p1_birth, .inr (1, [.ref a_p1_birth_cells])), (a_p1_birth_cells, .inl (cI, 7, .inl f_p1_birth_cells)), (a_p1_home, .inr (1, [.ref a_p1_home_cells])), (a_p1_home_cells, .inl (cI, 7, .inl f_p1_home_cells)), (a_p1_kind, .inr (1, [.ref a_p1_kind_cells])), (a_p1_kind_cells, .inl (cI, 7, .inl f_p1_kind_cells)), (a_p1_wealth, .inr (1, [.ref a_p1_wealth_cells])), (a_p1_wealth_cells, .inl (cI, 7, .inl f_p1_wealth_cells))]) (kr_V (As := [.int (x2 + (1 : Int32))]) (rest := [.ref a_p1]) ⟨hx, hb, hml, hown, hts⟩ hK hN hP hD hl.1 (c_X3_figure l dC dI cI cZ a_o a_o_bytes a_o_bytes_cells v_o_length f_o_bytes_cells (x2 + (1 : Int32)) u8 hu8 H.size) sg_X3_figure ⟨rfl, rfl⟩ ⟨Nat.le_of_ble_eq_true rfl, Nat.le_of_ble_eq_true rfl⟩ gX3_readInto_X3_figure 0 rfl rfl rfl [0, 1, 2] (by decide) rfl rfl rfl (Nat.le_of_ble_eq_true rfl) dX3_readInto_87 ⟨Nat.zero_le _, Nat.zero_le _⟩) hA hP hD hS [0, 1, 2] rfl rfl rfl (fun H locs hP hD hS => ?_)
            refine lv_aload_n hx hb dX3_readInto_90 rfl (lv_at hl 1 rfl) ?_
            refine lv_iload_n hx hb dX3_readInto_91 rfl (lv_at hl 3 rfl) ?_
            refine lv_iconst (v := (2 : Int32)) hx hb dX3_readInto_92 (by decide) ?_
            refine lv_iadd hx hb dX3_readInto_93 ?_
            obtain ⟨u9, hu9, hf⟩ := kb1_e hf
            refine kc_i (wn := [(a_o, .inr (3, [.ref a_o_bytes, .int v_o_length])), (a_o_bytes, .inr (1, [.ref a_o_bytes_cells])), (a_o_bytes_cells, .inl (cI, 48, .inl f_o_bytes_cells)), (a_p1, .inr (4, [.int v_p1_houses, .int v_p1_children, .int v_p1_living, .int v_p1_sideBits, .int v_p1_inherited, .int v_p1_theYear, .ref a_p1_worth, .ref a_p1_birth, .ref a_p1_home, .ref a_p1_kind, .ref a_p1_wealth])), (a_p1_worth, .inr (1, [.ref a_p1_worth_cells])), (a_p1_worth_cells, .inl (cI, 3, .inl f_p1_worth_cells)), (a_p1_birth, .inr (1, [.ref a_p1_birth_cells])), (a_p1_birth_cells, .inl (cI, 7, .inl f_p1_birth_cells)), (a_p1_home, .inr (1, [.ref a_p1_home_cells])), (a_p1_home_cells, .inl (cI, 7, .inl f_p1_home_cells)), (a_p1_kind, .inr (1, [.ref a_p1_kind_cells])), (a_p1_kind_cells, .inl (cI, 7, .inl f_p1_kind_cells)), (a_p1_wealth, .inr (1, [.ref a_p1_wealth_cells])), (a_p1_wealth_cells, .inl (cI, 7, .inl f_p1_wealth_cells))]) (kr_V (As := [.int (x2 + (2 : Int32))]) (rest := [.int u8, .ref a_p1]) ⟨hx, hb, hml, hown, hts⟩ hK hN hP hD hl.1 (c_X3_figure l dC dI cI cZ a_o a_o_bytes a_o_bytes_cells v_o_length f_o_bytes_cells (x2 + (2 : Int32)) u9 hu9 H.size) sg_X3_figure ⟨rfl, rfl⟩ ⟨Nat.le_of_ble_eq_true rfl, Nat.le_of_ble_eq_true rfl⟩ gX3_readInto_X3_figure 0 rfl rfl rfl [0, 1, 2] (by decide) rfl rfl rfl (Nat.le_of_ble_eq_true rfl) dX3_readInto_94 ⟨Nat.zero_le _, Nat.zero_le _⟩) hA hP hD hS [0, 1, 2] rfl rfl rfl (fun H locs hP hD hS => ?_)
            obtain ⟨u10, hu10, hf⟩ := kb1_e hf
            refine kc_v (wn := [(a_o, .inr (3, [.ref a_o_bytes, .int v_o_length])), (a_o_bytes, .inr (1, [.ref a_o_bytes_cells])), (a_o_bytes_cells, .inl (cI, 48, .inl f_o_bytes_cells)), (a_p1, .inr (4, [.int u10.1, .int v_p1_children, .int v_p1_living, .int u10.2.1, .int v_p1_inherited, .int v_p1_theYear, .ref a_p1_worth, .ref a_p1_birth, .ref a_p1_home, .ref a_p1_kind, .ref a_p1_wealth])), (a_p1_worth, .inr (1, [.ref a_p1_worth_cells])), (a_p1_worth_cells, .inl (cI, 3, .inl u10.2.2)), (a_p1_birth, .inr (1, [.ref a_p1_birth_cells])), (a_p1_birth_cells, .inl (cI, 7, .inl f_p1_birth_cells)), (a_p1_home, .inr (1, [.ref a_p1_home_cells])), (a_p1_home_cells, .inl (cI, 7, .inl f_p1_home_cells)), (a_p1_kind, .inr (1, [.ref a_p1_kind_cells])), (a_p1_kind_cells, .inl (cI, 7, .inl f_p1_kind_cells)), (a_p1_wealth, .inr (1, [.ref a_p1_wealth_cells])), (a_p1_wealth_cells, .inl (cI, 7, .inl f_p1_wealth_cells))]) (kr_V (As := [.int u8, .int u9]) (rest := []) ⟨hx, hb, hml, hown, hts⟩ hK hN hP hD hl.1 (c_X4_addHouse l dC dI cI cZ a_p1 a_p1_worth a_p1_birth a_p1_home a_p1_kind a_p1_wealth a_p1_worth_cells v_p1_houses v_p1_children v_p1_living v_p1_sideBits v_p1_inherited v_p1_theYear f_p1_worth_cells u8 u9 u10 hu10 H.size) sg_X4_addHouse ⟨rfl, rfl⟩ ⟨Nat.le_of_ble_eq_true rfl, Nat.le_of_ble_eq_true rfl⟩ gX3_readInto_X4_addHouse 3 rfl rfl rfl [3, 4, 5] (by decide) rfl rfl rfl (Nat.le_of_ble_eq_true rfl) dX3_readInto_97 ⟨Nat.zero_le _, Nat.zero_le _⟩) hA hP hD hS [3, 4, 5] rfl rfl rfl (fun H locs hP hD hS => ?_)
            refine lv_goto (tgt := 129) hx hb dX3_readInto_100 (by decide) ?_
            exact J_129 u10.1 v_p1_children v_p1_living u10.2.1 v_p1_inherited v_p1_theYear u10.2.2 f_p1_birth_cells f_p1_home_cells f_p1_kind_cells f_p1_wealth_cells x2 x3 H locs ls hP hD hS (lv_sub hl [1, 2, 3, 4] rfl) hf
        · replace hf := kf c2 hf
          refine lv_iload hx hb dX3_readInto_75 (lv_at hl 0 rfl) ?_
          cases hf
          exact hend _ _ _ _ dX3_readInto_77 rfl hP hS
      have J_46 : ∀ (v_p1_houses : Int32) (v_p1_children : Int32) (v_p1_living : Int32) (v_p1_sideBits : Int32) (v_p1_inherited : Int32) (v_p1_theYear : Int32) (f_p1_worth_cells : Nat → Int32) (f_p1_birth_cells : Nat → Int32) (f_p1_home_cells : Nat → Int32) (f_p1_kind_cells : Nat → Int32) (f_p1_wealth_cells : Nat → Int32) (x2 : Int32) (t0 : Int32) (H : Heap) (locs : List Loc) (ls : Array Slot), va_P (dC, dI) vwCl [(a_o, .inr (3, [.ref a_o_bytes, .int v_o_length])), (a_o_bytes, .inr (1, [.ref a_o_bytes_cells])), (a_o_bytes_cells, .inl (cI, 48, .inl f_o_bytes_cells)), (a_p1, .inr (4, [.int v_p1_houses, .int v_p1_children, .int v_p1_living, .int v_p1_sideBits, .int v_p1_inherited, .int v_p1_theYear, .ref a_p1_worth, .ref a_p1_birth, .ref a_p1_home, .ref a_p1_kind, .ref a_p1_wealth])), (a_p1_worth, .inr (1, [.ref a_p1_worth_cells])), (a_p1_worth_cells, .inl (cI, 3, .inl f_p1_worth_cells)), (a_p1_birth, .inr (1, [.ref a_p1_birth_cells])), (a_p1_birth_cells, .inl (cI, 7, .inl f_p1_birth_cells)), (a_p1_home, .inr (1, [.ref a_p1_home_cells])), (a_p1_home_cells, .inl (cI, 7, .inl f_p1_home_cells)), (a_p1_kind, .inr (1, [.ref a_p1_kind_cells])), (a_p1_kind_cells, .inl (cI, 7, .inl f_p1_kind_cells)), (a_p1_wealth, .inr (1, [.ref a_p1_wealth_cells])), (a_p1_wealth_cells, .inl (cI, 7, .inl f_p1_wealth_cells))] H → va_D A [(a_o, .inr (3, [.ref a_o_bytes, .int v_o_length])), (a_o_bytes, .inr (1, [.ref a_o_bytes_cells])), (a_o_bytes_cells, .inl (cI, 48, .inl f_o_bytes_cells)), (a_p1, .inr (4, [.int v_p1_houses, .int v_p1_children, .int v_p1_living, .int v_p1_sideBits, .int v_p1_inherited, .int v_p1_theYear, .ref a_p1_worth, .ref a_p1_birth, .ref a_p1_home, .ref a_p1_kind, .ref a_p1_wealth])), (a_p1_worth, .inr (1, [.ref a_p1_worth_cells])), (a_p1_worth_cells, .inl (cI, 3, .inl f_p1_worth_cells)), (a_p1_birth, .inr (1, [.ref a_p1_birth_cells])), (a_p1_birth_cells, .inl (cI, 7, .inl f_p1_birth_cells)), (a_p1_home, .inr (1, [.ref a_p1_home_cells])), (a_p1_home_cells, .inl (cI, 7, .inl f_p1_home_cells)), (a_p1_kind, .inr (1, [.ref a_p1_kind_cells])), (a_p1_kind_cells, .inl (cI, 7, .inl f_p1_kind_cells)), (a_p1_wealth, .inr (1, [.ref a_p1_wealth_cells])), (a_p1_wealth_cells, .inl (cI, 7, .inl f_p1_wealth_cells))] → va_S A H0 H locs → lv_has ls 5 [(0, .ref a_o), (1, .ref a_p1), (2, .int x2)] → f_X3_readInto_46 v_o_length f_o_bytes_cells (f_X3_readInto_20 v_o_length f_o_bytes_cells n_20) v_p1_houses v_p1_children v_p1_living v_p1_sideBits v_p1_inherited v_p1_theYear f_p1_worth_cells f_p1_birth_cells f_p1_home_cells f_p1_kind_cells f_p1_wealth_cells x2 t0 = some u → W p l e rm_X3_readInto s m args below meth c H locs 0 0 Q (F0 m 46 ls [.int t0]) := by
        intro v_p1_houses v_p1_children v_p1_living v_p1_sideBits v_p1_inherited v_p1_theYear f_p1_worth_cells f_p1_birth_cells f_p1_home_cells f_p1_kind_cells f_p1_wealth_cells x2 t0 H locs ls hP hD hS hl hf
        unfold f_X3_readInto_46 at hf
        refine lv_istore_n (lv' := [(3, .int t0), (0, .ref a_o), (1, .ref a_p1), (2, .int x2)]) hx hb dX3_readInto_46 rfl hl (by decide) rfl (fun ls hl => ?_)
        refine lv_iload_n hx hb dX3_readInto_47 rfl (lv_at hl 0 rfl) ?_
        refine lv_if_eq (tgt := 60) hx hb dX3_readInto_48 (by decide) (fun c11 => ?_) (fun c11 => ?_)
        · replace hf := kt c11 hf
          refine lv_aload_n hx hb dX3_readInto_60 rfl (lv_at hl 1 rfl) ?_
          refine lv_iload_n hx hb dX3_readInto_61 rfl (lv_at hl 3 rfl) ?_
          refine lv_aload_n hx hb dX3_readInto_62 rfl (lv_at hl 2 rfl) ?_
          obtain ⟨u12, hu12, hf⟩ := kb1_e hf
          refine kc_i (wn := [(a_o, .inr (3, [.ref a_o_bytes, .int v_o_length])), (a_o_bytes, .inr (1, [.ref a_o_bytes_cells])), (a_o_bytes_cells, .inl (cI, 48, .inl f_o_bytes_cells)), (a_p1, .inr (4, [.int v_p1_houses, .int v_p1_children, .int v_p1_living, .int v_p1_sideBits, .int v_p1_inherited, .int v_p1_theYear, .ref a_p1_worth, .ref a_p1_birth, .ref a_p1_home, .ref a_p1_kind, .ref a_p1_wealth])), (a_p1_worth, .inr (1, [.ref a_p1_worth_cells])), (a_p1_worth_cells, .inl (cI, 3, .inl f_p1_worth_cells)), (a_p1_birth, .inr (1, [.ref a_p1_birth_cells])), (a_p1_birth_cells, .inl (cI, 7, .inl f_p1_birth_cells)), (a_p1_home, .inr (1, [.ref a_p1_home_cells])), (a_p1_home_cells, .inl (cI, 7, .inl f_p1_home_cells)), (a_p1_kind, .inr (1, [.ref a_p1_kind_cells])), (a_p1_kind_cells, .inl (cI, 7, .inl f_p1_kind_cells)), (a_p1_wealth, .inr (1, [.ref a_p1_wealth_cells])), (a_p1_wealth_cells, .inl (cI, 7, .inl f_p1_wealth_cells))]) (kr_V (As := [.int x2, .ref a_p1]) (rest := []) ⟨hx, hb, hml, hown, hts⟩ hK hN hP hD hl.1 (c_X3_faultOfChild l dC dI cI cZ a_o a_o_bytes a_o_bytes_cells a_p1 a_p1_worth a_p1_birth a_p1_home a_p1_kind a_p1_wealth v_o_length f_o_bytes_cells v_p1_houses v_p1_children v_p1_living v_p1_sideBits v_p1_inherited v_p1_theYear x2 u12 hu12 H.size) sg_X3_faultOfChild ⟨rfl, rfl⟩ ⟨Nat.le_of_ble_eq_true rfl, Nat.le_of_ble_eq_true rfl⟩ gX3_readInto_X3_faultOfChild 0 rfl rfl rfl [0, 1, 2, 3] (by decide) rfl rfl rfl (Nat.le_of_ble_eq_true rfl) dX3_readInto_63 ⟨Nat.zero_le _, Nat.zero_le _⟩) hA hP hD hS [0, 1, 2, 3] rfl rfl rfl (fun H locs hP hD hS => ?_)
          exact J_66 v_p1_houses v_p1_children v_p1_living v_p1_sideBits v_p1_inherited v_p1_theYear f_p1_worth_cells f_p1_birth_cells f_p1_home_cells f_p1_kind_cells f_p1_wealth_cells x2 t0 u12 H locs ls hP hD hS (lv_sub hl [1, 2, 3, 0] rfl) hf
        · replace hf := kf c11 hf
          refine lv_aload_n hx hb dX3_readInto_51 rfl (lv_at hl 1 rfl) ?_
          refine lv_iload_n hx hb dX3_readInto_52 rfl (lv_at hl 3 rfl) ?_
          refine lv_aload_n hx hb dX3_readInto_53 rfl (lv_at hl 2 rfl) ?_
          obtain ⟨u13, hu13, hf⟩ := kb1_e hf
          refine kc_i (wn := [(a_o, .inr (3, [.ref a_o_bytes, .int v_o_length])), (a_o_bytes, .inr (1, [.ref a_o_bytes_cells])), (a_o_bytes_cells, .inl (cI, 48, .inl f_o_bytes_cells)), (a_p1, .inr (4, [.int v_p1_houses, .int v_p1_children, .int v_p1_living, .int v_p1_sideBits, .int v_p1_inherited, .int v_p1_theYear, .ref a_p1_worth, .ref a_p1_birth, .ref a_p1_home, .ref a_p1_kind, .ref a_p1_wealth])), (a_p1_worth, .inr (1, [.ref a_p1_worth_cells])), (a_p1_worth_cells, .inl (cI, 3, .inl f_p1_worth_cells)), (a_p1_birth, .inr (1, [.ref a_p1_birth_cells])), (a_p1_birth_cells, .inl (cI, 7, .inl f_p1_birth_cells)), (a_p1_home, .inr (1, [.ref a_p1_home_cells])), (a_p1_home_cells, .inl (cI, 7, .inl f_p1_home_cells)), (a_p1_kind, .inr (1, [.ref a_p1_kind_cells])), (a_p1_kind_cells, .inl (cI, 7, .inl f_p1_kind_cells)), (a_p1_wealth, .inr (1, [.ref a_p1_wealth_cells])), (a_p1_wealth_cells, .inl (cI, 7, .inl f_p1_wealth_cells))]) (kr_V (As := [.int x2, .ref a_p1]) (rest := []) ⟨hx, hb, hml, hown, hts⟩ hK hN hP hD hl.1 (c_X3_faultOfHouse l dC dI cI cZ a_o a_o_bytes a_o_bytes_cells a_p1 a_p1_worth a_p1_birth a_p1_home a_p1_kind a_p1_wealth v_o_length f_o_bytes_cells v_p1_houses v_p1_children v_p1_living v_p1_sideBits v_p1_inherited v_p1_theYear x2 u13 hu13 H.size) sg_X3_faultOfHouse ⟨rfl, rfl⟩ ⟨Nat.le_of_ble_eq_true rfl, Nat.le_of_ble_eq_true rfl⟩ gX3_readInto_X3_faultOfHouse 0 rfl rfl rfl [0, 1, 2, 3] (by decide) rfl rfl rfl (Nat.le_of_ble_eq_true rfl) dX3_readInto_54 ⟨Nat.zero_le _, Nat.zero_le _⟩) hA hP hD hS [0, 1, 2, 3] rfl rfl rfl (fun H locs hP hD hS => ?_)
          refine lv_goto (tgt := 66) hx hb dX3_readInto_57 (by decide) ?_
          exact J_66 v_p1_houses v_p1_children v_p1_living v_p1_sideBits v_p1_inherited v_p1_theYear f_p1_worth_cells f_p1_birth_cells f_p1_home_cells f_p1_kind_cells f_p1_wealth_cells x2 t0 u13 H locs ls hP hD hS (lv_sub hl [1, 2, 3, 0] rfl) hf
      intro v_p1_houses v_p1_children v_p1_living v_p1_sideBits v_p1_inherited v_p1_theYear f_p1_worth_cells f_p1_birth_cells f_p1_home_cells f_p1_kind_cells f_p1_wealth_cells x2 H locs ls hP hD hS hl hf
      have hf : f_X3_readInto_20_b v_o_length f_o_bytes_cells (f_X3_readInto_20 v_o_length f_o_bytes_cells n_20) v_p1_houses v_p1_children v_p1_living v_p1_sideBits v_p1_inherited v_p1_theYear f_p1_worth_cells f_p1_birth_cells f_p1_home_cells f_p1_kind_cells f_p1_wealth_cells x2 = some u := hf
      unfold f_X3_readInto_20_b at hf
      refine lv_iload_n hx hb dX3_readInto_20 rfl (lv_at hl 2 rfl) ?_
      refine lv_aload_n hx hb dX3_readInto_21 rfl (lv_at hl 0 rfl) ?_
      refine va_get (D := (dC, dI)) (ci := 3) (v := .int v_o_length) (C := RX3) (T := TX3) (N := 2) hx hb hts in_X3_readInto_X3 hown hK hP 0 rfl rfl 1 (by decide) hk20 (fun _ h9 => h9) rfl dX3_readInto_22 ?_
      refine lv_icmp_ge (tgt := 144) hx hb dX3_readInto_25 (by decide) (fun c14 => ?_) (fun c14 => ?_)
      · replace hf := kt c14 hf
        refine lv_bipush (v := (-9 : Int32)) hx hb dX3_readInto_144 (by decide) ?_
        cases hf
        exact hend _ _ _ _ dX3_readInto_146 rfl hP hS
      · replace hf := kf c14 hf
        refine lv_aload_n hx hb dX3_readInto_28 rfl (lv_at hl 0 rfl) ?_
        refine va_get (D := (dC, dI)) (ci := 3) (v := .ref a_o_bytes) (C := RX3) (T := TX3) (N := 2) hx hb hts in_X3_readInto_X3 hown hK hP 0 rfl rfl 0 (by decide) hk14 (fun _ h9 => h9) rfl dX3_readInto_29 ?_
        refine lv_iload_n hx hb dX3_readInto_32 rfl (lv_at hl 2 rfl) ?_
        obtain ⟨u15, hu15, hf⟩ := kb1_e hf
        refine kc_i (wn := [(a_o, .inr (3, [.ref a_o_bytes, .int v_o_length])), (a_o_bytes, .inr (1, [.ref a_o_bytes_cells])), (a_o_bytes_cells, .inl (cI, 48, .inl f_o_bytes_cells)), (a_p1, .inr (4, [.int v_p1_houses, .int v_p1_children, .int v_p1_living, .int v_p1_sideBits, .int v_p1_inherited, .int v_p1_theYear, .ref a_p1_worth, .ref a_p1_birth, .ref a_p1_home, .ref a_p1_kind, .ref a_p1_wealth])), (a_p1_worth, .inr (1, [.ref a_p1_worth_cells])), (a_p1_worth_cells, .inl (cI, 3, .inl f_p1_worth_cells)), (a_p1_birth, .inr (1, [.ref a_p1_birth_cells])), (a_p1_birth_cells, .inl (cI, 7, .inl f_p1_birth_cells)), (a_p1_home, .inr (1, [.ref a_p1_home_cells])), (a_p1_home_cells, .inl (cI, 7, .inl f_p1_home_cells)), (a_p1_kind, .inr (1, [.ref a_p1_kind_cells])), (a_p1_kind_cells, .inl (cI, 7, .inl f_p1_kind_cells)), (a_p1_wealth, .inr (1, [.ref a_p1_wealth_cells])), (a_p1_wealth_cells, .inl (cI, 7, .inl f_p1_wealth_cells))]) (kr_V (As := [.int x2]) (rest := []) ⟨hx, hb, hml, hown, hts⟩ hK hN hP hD hl.1 (c_X1_get l dC dI cI cZ a_o_bytes a_o_bytes_cells 48 f_o_bytes_cells x2 u15 hu15 H.size) sg_X1_get ⟨rfl, rfl⟩ ⟨Nat.le_of_ble_eq_true rfl, Nat.le_of_ble_eq_true rfl⟩ gX3_readInto_X1_get 1 rfl rfl rfl [1, 2] (by decide) rfl rfl rfl (Nat.le_of_ble_eq_true rfl) dX3_readInto_33 ⟨Nat.zero_le _, Nat.zero_le _⟩) hA hP hD hS [1, 2] rfl rfl rfl (fun H locs hP hD hS => ?_)
        refine lv_bipush (v := (72 : Int32)) hx hb dX3_readInto_36 (by decide) ?_
        refine lv_icmp_ne (tgt := 45) hx hb dX3_readInto_38 (by decide) (fun c16 => ?_) (fun c16 => ?_)
        · replace hf := kf c16 hf
          refine lv_iconst (v := (0 : Int32)) hx hb dX3_readInto_45 (by decide) ?_
          exact J_46 v_p1_houses v_p1_children v_p1_living v_p1_sideBits v_p1_inherited v_p1_theYear f_p1_worth_cells f_p1_birth_cells f_p1_home_cells f_p1_kind_cells f_p1_wealth_cells x2 (0 : Int32) H locs ls hP hD hS (lv_sub hl [0, 1, 2] rfl) hf
        · replace hf := kt c16 hf
          refine lv_iconst (v := (1 : Int32)) hx hb dX3_readInto_41 (by decide) ?_
          refine lv_goto (tgt := 46) hx hb dX3_readInto_42 (by decide) ?_
          exact J_46 v_p1_houses v_p1_children v_p1_living v_p1_sideBits v_p1_inherited v_p1_theYear f_p1_worth_cells f_p1_birth_cells f_p1_home_cells f_p1_kind_cells f_p1_wealth_cells x2 (1 : Int32) H locs ls hP hD hS (lv_sub hl [0, 1, 2] rfl) hf
  unfold f_X3_readInto at hf
  refine lv_aload_n hx hb dX3_readInto_0 rfl (lv_at hl 1 rfl) ?_
  obtain ⟨u17, hu17, hf⟩ := kb1_e hf
  refine kc_v (wn := [(a_o, .inr (3, [.ref a_o_bytes, .int v_o_length])), (a_o_bytes, .inr (1, [.ref a_o_bytes_cells])), (a_o_bytes_cells, .inl (cI, 48, .inl f_o_bytes_cells)), (a_p1, .inr (4, [.int u17.1, .int u17.2.1, .int u17.2.2.1, .int u17.2.2.2.1, .int u17.2.2.2.2.1, .int u17.2.2.2.2.2, .ref a_p1_worth, .ref a_p1_birth, .ref a_p1_home, .ref a_p1_kind, .ref a_p1_wealth])), (a_p1_worth, .inr (1, [.ref a_p1_worth_cells])), (a_p1_worth_cells, .inl (cI, 3, .inl f_p1_worth_cells)), (a_p1_birth, .inr (1, [.ref a_p1_birth_cells])), (a_p1_birth_cells, .inl (cI, 7, .inl f_p1_birth_cells)), (a_p1_home, .inr (1, [.ref a_p1_home_cells])), (a_p1_home_cells, .inl (cI, 7, .inl f_p1_home_cells)), (a_p1_kind, .inr (1, [.ref a_p1_kind_cells])), (a_p1_kind_cells, .inl (cI, 7, .inl f_p1_kind_cells)), (a_p1_wealth, .inr (1, [.ref a_p1_wealth_cells])), (a_p1_wealth_cells, .inl (cI, 7, .inl f_p1_wealth_cells))]) (kr_V (As := []) (rest := []) ⟨hx, hb, hml, hown, hts⟩ hK hN hP hD hl.1 (c_X4_clear l dC dI cI cZ a_p1 a_p1_worth a_p1_birth a_p1_home a_p1_kind a_p1_wealth v_p1_houses v_p1_children v_p1_living v_p1_sideBits v_p1_inherited v_p1_theYear u17 hu17 H.size) sg_X4_clear ⟨rfl, rfl⟩ ⟨Nat.le_of_ble_eq_true rfl, Nat.le_of_ble_eq_true rfl⟩ gX3_readInto_X4_clear 3 rfl rfl rfl [3] (by decide) rfl rfl rfl (Nat.le_of_ble_eq_true rfl) dX3_readInto_1 ⟨Nat.zero_le _, Nat.zero_le _⟩) hA hP hD hS [3] rfl rfl rfl (fun H locs hP hD hS => ?_)
  refine lv_aload_n hx hb dX3_readInto_4 rfl (lv_at hl 0 rfl) ?_
  refine lv_iconst (v := (0 : Int32)) hx hb dX3_readInto_5 (by decide) ?_
  refine lv_bipush (v := (89 : Int32)) hx hb dX3_readInto_6 (by decide) ?_
  refine lv_bipush (v := (89 : Int32)) hx hb dX3_readInto_8 (by decide) ?_
  obtain ⟨u18, hu18, hf⟩ := kb1_e hf
  refine kc_i (wn := [(a_o, .inr (3, [.ref a_o_bytes, .int v_o_length])), (a_o_bytes, .inr (1, [.ref a_o_bytes_cells])), (a_o_bytes_cells, .inl (cI, 48, .inl f_o_bytes_cells)), (a_p1, .inr (4, [.int u17.1, .int u17.2.1, .int u17.2.2.1, .int u17.2.2.2.1, .int u17.2.2.2.2.1, .int u17.2.2.2.2.2, .ref a_p1_worth, .ref a_p1_birth, .ref a_p1_home, .ref a_p1_kind, .ref a_p1_wealth])), (a_p1_worth, .inr (1, [.ref a_p1_worth_cells])), (a_p1_worth_cells, .inl (cI, 3, .inl f_p1_worth_cells)), (a_p1_birth, .inr (1, [.ref a_p1_birth_cells])), (a_p1_birth_cells, .inl (cI, 7, .inl f_p1_birth_cells)), (a_p1_home, .inr (1, [.ref a_p1_home_cells])), (a_p1_home_cells, .inl (cI, 7, .inl f_p1_home_cells)), (a_p1_kind, .inr (1, [.ref a_p1_kind_cells])), (a_p1_kind_cells, .inl (cI, 7, .inl f_p1_kind_cells)), (a_p1_wealth, .inr (1, [.ref a_p1_wealth_cells])), (a_p1_wealth_cells, .inl (cI, 7, .inl f_p1_wealth_cells))]) (kr_V (As := [.int (0 : Int32), .int (89 : Int32), .int (89 : Int32)]) (rest := []) ⟨hx, hb, hml, hown, hts⟩ hK hN hP hD hl.1 (c_X3_isFrom l dC dI cI cZ a_o a_o_bytes a_o_bytes_cells v_o_length f_o_bytes_cells (0 : Int32) (89 : Int32) (89 : Int32) u18 hu18 H.size) sg_X3_isFrom ⟨rfl, rfl⟩ ⟨Nat.le_of_ble_eq_true rfl, Nat.le_of_ble_eq_true rfl⟩ gX3_readInto_X3_isFrom 0 rfl rfl rfl [0, 1, 2] (by decide) rfl rfl rfl (Nat.le_of_ble_eq_true rfl) dX3_readInto_10 ⟨Nat.zero_le _, Nat.zero_le _⟩) hA hP hD hS [0, 1, 2] rfl rfl rfl (fun H locs hP hD hS => ?_)
  refine lv_if_ne (tgt := 18) hx hb dX3_readInto_13 (by decide) (fun c19 => ?_) (fun c19 => ?_)
  · replace hf := kf c19 hf
    refine lv_iconst (v := (1 : Int32)) hx hb dX3_readInto_18 (by decide) ?_
    refine lv_istore_n (lv' := [(2, .int (1 : Int32)), (0, .ref a_o), (1, .ref a_p1)]) hx hb dX3_readInto_19 rfl hl (by decide) rfl (fun ls hl => ?_)
    exact J_20 1000 u17.1 u17.2.1 u17.2.2.1 u17.2.2.2.1 u17.2.2.2.2.1 u17.2.2.2.2.2 f_p1_worth_cells f_p1_birth_cells f_p1_home_cells f_p1_kind_cells f_p1_wealth_cells (1 : Int32) H locs ls hP hD hS (lv_sub hl [1, 2, 0] rfl) hf
  · replace hf := kt c19 hf
    refine lv_iconst (v := (0 : Int32)) hx hb dX3_readInto_16 (by decide) ?_
    cases hf
    exact hend _ _ _ _ dX3_readInto_17 rfl hP hS
theorem sg_X4_take : kSig yX4_take wsX4_take cX4_take 2 none RX4 1 := ⟨⟨_, rfl⟩, rfl, by decide, by decide +kernel, by decide +kernel, by decide +kernel⟩
abbrev rm_X4_take : Room := { frames := 2, cells := 0, slots := 0, locals := 43 }
set_option maxRecDepth 20000 in
theorem in_X4_take_X4 : ∀ w ∈ u_ws RX4 TX4 11, w ∈ wsX4_take := by decide +kernel
set_option maxHeartbeats 4000000 in
set_option maxRecDepth 100000 in
theorem c_X4_take (l : Launch) (dC : Nat → ClassId) (dI : Nat → Nat → Nat) (cI cZ : ClassId) (a_o a_o_worth a_o_birth a_o_home a_o_kind a_o_wealth a_o_worth_cells a_o_birth_cells a_o_home_cells a_o_kind_cells a_o_wealth_cells a_p1 a_p1_worth a_p1_birth a_p1_home a_p1_kind a_p1_wealth a_p1_worth_cells a_p1_birth_cells a_p1_home_cells a_p1_kind_cells a_p1_wealth_cells : Nat) (v_o_houses : Int32) (v_o_children : Int32) (v_o_living : Int32) (v_o_sideBits : Int32) (v_o_inherited : Int32) (v_o_theYear : Int32) (f_o_worth_cells : Nat → Int32) (f_o_birth_cells : Nat → Int32) (f_o_home_cells : Nat → Int32) (f_o_kind_cells : Nat → Int32) (f_o_wealth_cells : Nat → Int32) (v_p1_houses : Int32) (v_p1_children : Int32) (v_p1_living : Int32) (v_p1_sideBits : Int32) (v_p1_inherited : Int32) (v_p1_theYear : Int32) (f_p1_worth_cells : Nat → Int32) (f_p1_birth_cells : Nat → Int32) (f_p1_home_cells : Nat → Int32) (f_p1_kind_cells : Nat → Int32) (f_p1_wealth_cells : Nat → Int32)  (u : Int32 × Int32 × Int32 × Int32 × Int32 × Int32 × (Nat → Int32) × (Nat → Int32) × (Nat → Int32) × (Nat → Int32) × (Nat → Int32)) (hf : f_X4_take v_p1_houses v_p1_children v_p1_living v_p1_sideBits v_p1_inherited v_p1_theYear f_p1_worth_cells f_p1_birth_cells f_p1_home_cells f_p1_kind_cells f_p1_wealth_cells v_o_houses v_o_children v_o_living v_o_sideBits v_o_inherited v_o_theYear f_o_worth_cells f_o_birth_cells f_o_home_cells f_o_kind_cells f_o_wealth_cells = some u) : kMv l yX4_take wsX4_take rm_X4_take (dC, dI) (kTy cI cZ) [.ref a_o, .ref a_p1] [(a_o, .inr (4, [.int v_o_houses, .int v_o_children, .int v_o_living, .int v_o_sideBits, .int v_o_inherited, .int v_o_theYear, .ref a_o_worth, .ref a_o_birth, .ref a_o_home, .ref a_o_kind, .ref a_o_wealth])), (a_o_worth, .inr (1, [.ref a_o_worth_cells])), (a_o_worth_cells, .inl (cI, 3, .inl f_o_worth_cells)), (a_o_birth, .inr (1, [.ref a_o_birth_cells])), (a_o_birth_cells, .inl (cI, 7, .inl f_o_birth_cells)), (a_o_home, .inr (1, [.ref a_o_home_cells])), (a_o_home_cells, .inl (cI, 7, .inl f_o_home_cells)), (a_o_kind, .inr (1, [.ref a_o_kind_cells])), (a_o_kind_cells, .inl (cI, 7, .inl f_o_kind_cells)), (a_o_wealth, .inr (1, [.ref a_o_wealth_cells])), (a_o_wealth_cells, .inl (cI, 7, .inl f_o_wealth_cells)), (a_p1, .inr (4, [.int v_p1_houses, .int v_p1_children, .int v_p1_living, .int v_p1_sideBits, .int v_p1_inherited, .int v_p1_theYear, .ref a_p1_worth, .ref a_p1_birth, .ref a_p1_home, .ref a_p1_kind, .ref a_p1_wealth])), (a_p1_worth, .inr (1, [.ref a_p1_worth_cells])), (a_p1_worth_cells, .inl (cI, 3, .inl f_p1_worth_cells)), (a_p1_birth, .inr (1, [.ref a_p1_birth_cells])), (a_p1_birth_cells, .inl (cI, 7, .inl f_p1_birth_cells)), (a_p1_home, .inr (1, [.ref a_p1_home_cells])), (a_p1_home_cells, .inl (cI, 7, .inl f_p1_home_cells)), (a_p1_kind, .inr (1, [.ref a_p1_kind_cells])), (a_p1_kind_cells, .inl (cI, 7, .inl f_p1_kind_cells)), (a_p1_wealth, .inr (1, [.ref a_p1_wealth_cells])), (a_p1_wealth_cells, .inl (cI, 7, .inl f_p1_wealth_cells))] [(a_o, .inr (4, [.int u.1, .int u.2.1, .int u.2.2.1, .int u.2.2.2.1, .int u.2.2.2.2.1, .int u.2.2.2.2.2.1, .ref a_o_worth, .ref a_o_birth, .ref a_o_home, .ref a_o_kind, .ref a_o_wealth])), (a_o_worth, .inr (1, [.ref a_o_worth_cells])), (a_o_worth_cells, .inl (cI, 3, .inl u.2.2.2.2.2.2.1)), (a_o_birth, .inr (1, [.ref a_o_birth_cells])), (a_o_birth_cells, .inl (cI, 7, .inl u.2.2.2.2.2.2.2.1)), (a_o_home, .inr (1, [.ref a_o_home_cells])), (a_o_home_cells, .inl (cI, 7, .inl u.2.2.2.2.2.2.2.2.1)), (a_o_kind, .inr (1, [.ref a_o_kind_cells])), (a_o_kind_cells, .inl (cI, 7, .inl u.2.2.2.2.2.2.2.2.2.1)), (a_o_wealth, .inr (1, [.ref a_o_wealth_cells])), (a_o_wealth_cells, .inl (cI, 7, .inl u.2.2.2.2.2.2.2.2.2.2)), (a_p1, .inr (4, [.int v_p1_houses, .int v_p1_children, .int v_p1_living, .int v_p1_sideBits, .int v_p1_inherited, .int v_p1_theYear, .ref a_p1_worth, .ref a_p1_birth, .ref a_p1_home, .ref a_p1_kind, .ref a_p1_wealth])), (a_p1_worth, .inr (1, [.ref a_p1_worth_cells])), (a_p1_worth_cells, .inl (cI, 3, .inl f_p1_worth_cells)), (a_p1_birth, .inr (1, [.ref a_p1_birth_cells])), (a_p1_birth_cells, .inl (cI, 7, .inl f_p1_birth_cells)), (a_p1_home, .inr (1, [.ref a_p1_home_cells])), (a_p1_home_cells, .inl (cI, 7, .inl f_p1_home_cells)), (a_p1_kind, .inr (1, [.ref a_p1_kind_cells])), (a_p1_kind_cells, .inl (cI, 7, .inl f_p1_kind_cells)), (a_p1_wealth, .inr (1, [.ref a_p1_wealth_cells])), (a_p1_wealth_cells, .inl (cI, 7, .inl f_p1_wealth_cells))]  := by
  refine kMv_of sg_X4_take ⟨rfl, rfl⟩ (Nat.le_of_ble_eq_true rfl) ?_
  intro p e s m args below meth c A H0 Q hx hb hml hown hts hK hN hA hend H locs ls hP hD hS hl
  have hl : lv_has ls 2 [(0, .ref a_o), (1, .ref a_p1)] := hl
  have hk14 := hts (.fieldLink RX4 14 "YoungestHouse$Town" "worth" "LYoungestHouse$Row;") (by decide +kernel)
  have hk20 := hts (.fieldLink RX4 20 "YoungestHouse$Town" "birth" "LYoungestHouse$Row;") (by decide +kernel)
  have hk23 := hts (.fieldLink RX4 23 "YoungestHouse$Town" "home" "LYoungestHouse$Row;") (by decide +kernel)
  have hk26 := hts (.fieldLink RX4 26 "YoungestHouse$Town" "kind" "LYoungestHouse$Row;") (by decide +kernel)
  have hk29 := hts (.fieldLink RX4 29 "YoungestHouse$Town" "wealth" "LYoungestHouse$Row;") (by decide +kernel)
  have hk32 := hts (.fieldLink RX4 32 "YoungestHouse$Town" "houses" "I") (by decide +kernel)
  have hk36 := hts (.fieldLink RX4 36 "YoungestHouse$Town" "children" "I") (by decide +kernel)
  have hk39 := hts (.fieldLink RX4 39 "YoungestHouse$Town" "living" "I") (by decide +kernel)
  have hk42 := hts (.fieldLink RX4 42 "YoungestHouse$Town" "sideBits" "I") (by decide +kernel)
  have hk45 := hts (.fieldLink RX4 45 "YoungestHouse$Town" "inherited" "I") (by decide +kernel)
  have hk48 := hts (.fieldLink RX4 48 "YoungestHouse$Town" "theYear" "I") (by decide +kernel)
  unfold f_X4_take at hf
  refine lv_aload_n hx hb dX4_take_0 rfl (lv_at hl 0 rfl) ?_
  refine lv_aload_n hx hb dX4_take_1 rfl (lv_at hl 1 rfl) ?_
  refine va_get (D := (dC, dI)) (ci := 4) (v := .int v_p1_houses) (C := RX4) (T := TX4) (N := 11) hx hb hts in_X4_take_X4 hown hK hP 11 rfl rfl 0 (by decide) hk32 (fun _ h9 => h9) rfl dX4_take_2 ?_
  refine va_put (D := (dC, dI)) (ci := 4) (v := .int v_p1_houses) (ty := .int) (C := RX4) (T := TX4) (N := 11) hx hb hts in_X4_take_X4 tyX4 tyX4_ok nmX4 hown hK hP hD hS 0 rfl rfl 0 (by decide) hk32 (fun _ h9 => h9) rfl (by decide +kernel) rfl rfl (Nat.le_of_ble_eq_true rfl) dX4_take_5 (fun H locs hP hD hS => ?_)
  have hP : va_P (dC, dI) vwCl [(a_o, .inr (4, [.int v_p1_houses, .int v_o_children, .int v_o_living, .int v_o_sideBits, .int v_o_inherited, .int v_o_theYear, .ref a_o_worth, .ref a_o_birth, .ref a_o_home, .ref a_o_kind, .ref a_o_wealth])), (a_o_worth, .inr (1, [.ref a_o_worth_cells])), (a_o_worth_cells, .inl (cI, 3, .inl f_o_worth_cells)), (a_o_birth, .inr (1, [.ref a_o_birth_cells])), (a_o_birth_cells, .inl (cI, 7, .inl f_o_birth_cells)), (a_o_home, .inr (1, [.ref a_o_home_cells])), (a_o_home_cells, .inl (cI, 7, .inl f_o_home_cells)), (a_o_kind, .inr (1, [.ref a_o_kind_cells])), (a_o_kind_cells, .inl (cI, 7, .inl f_o_kind_cells)), (a_o_wealth, .inr (1, [.ref a_o_wealth_cells])), (a_o_wealth_cells, .inl (cI, 7, .inl f_o_wealth_cells)), (a_p1, .inr (4, [.int v_p1_houses, .int v_p1_children, .int v_p1_living, .int v_p1_sideBits, .int v_p1_inherited, .int v_p1_theYear, .ref a_p1_worth, .ref a_p1_birth, .ref a_p1_home, .ref a_p1_kind, .ref a_p1_wealth])), (a_p1_worth, .inr (1, [.ref a_p1_worth_cells])), (a_p1_worth_cells, .inl (cI, 3, .inl f_p1_worth_cells)), (a_p1_birth, .inr (1, [.ref a_p1_birth_cells])), (a_p1_birth_cells, .inl (cI, 7, .inl f_p1_birth_cells)), (a_p1_home, .inr (1, [.ref a_p1_home_cells])), (a_p1_home_cells, .inl (cI, 7, .inl f_p1_home_cells)), (a_p1_kind, .inr (1, [.ref a_p1_kind_cells])), (a_p1_kind_cells, .inl (cI, 7, .inl f_p1_kind_cells)), (a_p1_wealth, .inr (1, [.ref a_p1_wealth_cells])), (a_p1_wealth_cells, .inl (cI, 7, .inl f_p1_wealth_cells))] H := hP
  have hD : va_D A [(a_o, .inr (4, [.int v_p1_houses, .int v_o_children, .int v_o_living, .int v_o_sideBits, .int v_o_inherited, .int v_o_theYear, .ref a_o_worth, .ref a_o_birth, .ref a_o_home, .ref a_o_kind, .ref a_o_wealth])), (a_o_worth, .inr (1, [.ref a_o_worth_cells])), (a_o_worth_cells, .inl (cI, 3, .inl f_o_worth_cells)), (a_o_birth, .inr (1, [.ref a_o_birth_cells])), (a_o_birth_cells, .inl (cI, 7, .inl f_o_birth_cells)), (a_o_home, .inr (1, [.ref a_o_home_cells])), (a_o_home_cells, .inl (cI, 7, .inl f_o_home_cells)), (a_o_kind, .inr (1, [.ref a_o_kind_cells])), (a_o_kind_cells, .inl (cI, 7, .inl f_o_kind_cells)), (a_o_wealth, .inr (1, [.ref a_o_wealth_cells])), (a_o_wealth_cells, .inl (cI, 7, .inl f_o_wealth_cells)), (a_p1, .inr (4, [.int v_p1_houses, .int v_p1_children, .int v_p1_living, .int v_p1_sideBits, .int v_p1_inherited, .int v_p1_theYear, .ref a_p1_worth, .ref a_p1_birth, .ref a_p1_home, .ref a_p1_kind, .ref a_p1_wealth])), (a_p1_worth, .inr (1, [.ref a_p1_worth_cells])), (a_p1_worth_cells, .inl (cI, 3, .inl f_p1_worth_cells)), (a_p1_birth, .inr (1, [.ref a_p1_birth_cells])), (a_p1_birth_cells, .inl (cI, 7, .inl f_p1_birth_cells)), (a_p1_home, .inr (1, [.ref a_p1_home_cells])), (a_p1_home_cells, .inl (cI, 7, .inl f_p1_home_cells)), (a_p1_kind, .inr (1, [.ref a_p1_kind_cells])), (a_p1_kind_cells, .inl (cI, 7, .inl f_p1_kind_cells)), (a_p1_wealth, .inr (1, [.ref a_p1_wealth_cells])), (a_p1_wealth_cells, .inl (cI, 7, .inl f_p1_wealth_cells))] := hD
  refine lv_aload_n hx hb dX4_take_8 rfl (lv_at hl 0 rfl) ?_
  refine lv_aload_n hx hb dX4_take_9 rfl (lv_at hl 1 rfl) ?_
  refine va_get (D := (dC, dI)) (ci := 4) (v := .int v_p1_children) (C := RX4) (T := TX4) (N := 11) hx hb hts in_X4_take_X4 hown hK hP 11 rfl rfl 1 (by decide) hk36 (fun _ h9 => h9) rfl dX4_take_10 ?_
  refine va_put (D := (dC, dI)) (ci := 4) (v := .int v_p1_children) (ty := .int) (C := RX4) (T := TX4) (N := 11) hx hb hts in_X4_take_X4 tyX4 tyX4_ok nmX4 hown hK hP hD hS 0 rfl rfl 1 (by decide) hk36 (fun _ h9 => h9) rfl (by decide +kernel) rfl rfl (Nat.le_of_ble_eq_true rfl) dX4_take_13 (fun H locs hP hD hS => ?_)
  have hP : va_P (dC, dI) vwCl [(a_o, .inr (4, [.int v_p1_houses, .int v_p1_children, .int v_o_living, .int v_o_sideBits, .int v_o_inherited, .int v_o_theYear, .ref a_o_worth, .ref a_o_birth, .ref a_o_home, .ref a_o_kind, .ref a_o_wealth])), (a_o_worth, .inr (1, [.ref a_o_worth_cells])), (a_o_worth_cells, .inl (cI, 3, .inl f_o_worth_cells)), (a_o_birth, .inr (1, [.ref a_o_birth_cells])), (a_o_birth_cells, .inl (cI, 7, .inl f_o_birth_cells)), (a_o_home, .inr (1, [.ref a_o_home_cells])), (a_o_home_cells, .inl (cI, 7, .inl f_o_home_cells)), (a_o_kind, .inr (1, [.ref a_o_kind_cells])), (a_o_kind_cells, .inl (cI, 7, .inl f_o_kind_cells)), (a_o_wealth, .inr (1, [.ref a_o_wealth_cells])), (a_o_wealth_cells, .inl (cI, 7, .inl f_o_wealth_cells)), (a_p1, .inr (4, [.int v_p1_houses, .int v_p1_children, .int v_p1_living, .int v_p1_sideBits, .int v_p1_inherited, .int v_p1_theYear, .ref a_p1_worth, .ref a_p1_birth, .ref a_p1_home, .ref a_p1_kind, .ref a_p1_wealth])), (a_p1_worth, .inr (1, [.ref a_p1_worth_cells])), (a_p1_worth_cells, .inl (cI, 3, .inl f_p1_worth_cells)), (a_p1_birth, .inr (1, [.ref a_p1_birth_cells])), (a_p1_birth_cells, .inl (cI, 7, .inl f_p1_birth_cells)), (a_p1_home, .inr (1, [.ref a_p1_home_cells])), (a_p1_home_cells, .inl (cI, 7, .inl f_p1_home_cells)), (a_p1_kind, .inr (1, [.ref a_p1_kind_cells])), (a_p1_kind_cells, .inl (cI, 7, .inl f_p1_kind_cells)), (a_p1_wealth, .inr (1, [.ref a_p1_wealth_cells])), (a_p1_wealth_cells, .inl (cI, 7, .inl f_p1_wealth_cells))] H := hP
  have hD : va_D A [(a_o, .inr (4, [.int v_p1_houses, .int v_p1_children, .int v_o_living, .int v_o_sideBits, .int v_o_inherited, .int v_o_theYear, .ref a_o_worth, .ref a_o_birth, .ref a_o_home, .ref a_o_kind, .ref a_o_wealth])), (a_o_worth, .inr (1, [.ref a_o_worth_cells])), (a_o_worth_cells, .inl (cI, 3, .inl f_o_worth_cells)), (a_o_birth, .inr (1, [.ref a_o_birth_cells])), (a_o_birth_cells, .inl (cI, 7, .inl f_o_birth_cells)), (a_o_home, .inr (1, [.ref a_o_home_cells])), (a_o_home_cells, .inl (cI, 7, .inl f_o_home_cells)), (a_o_kind, .inr (1, [.ref a_o_kind_cells])), (a_o_kind_cells, .inl (cI, 7, .inl f_o_kind_cells)), (a_o_wealth, .inr (1, [.ref a_o_wealth_cells])), (a_o_wealth_cells, .inl (cI, 7, .inl f_o_wealth_cells)), (a_p1, .inr (4, [.int v_p1_houses, .int v_p1_children, .int v_p1_living, .int v_p1_sideBits, .int v_p1_inherited, .int v_p1_theYear, .ref a_p1_worth, .ref a_p1_birth, .ref a_p1_home, .ref a_p1_kind, .ref a_p1_wealth])), (a_p1_worth, .inr (1, [.ref a_p1_worth_cells])), (a_p1_worth_cells, .inl (cI, 3, .inl f_p1_worth_cells)), (a_p1_birth, .inr (1, [.ref a_p1_birth_cells])), (a_p1_birth_cells, .inl (cI, 7, .inl f_p1_birth_cells)), (a_p1_home, .inr (1, [.ref a_p1_home_cells])), (a_p1_home_cells, .inl (cI, 7, .inl f_p1_home_cells)), (a_p1_kind, .inr (1, [.ref a_p1_kind_cells])), (a_p1_kind_cells, .inl (cI, 7, .inl f_p1_kind_cells)), (a_p1_wealth, .inr (1, [.ref a_p1_wealth_cells])), (a_p1_wealth_cells, .inl (cI, 7, .inl f_p1_wealth_cells))] := hD
  refine lv_aload_n hx hb dX4_take_16 rfl (lv_at hl 0 rfl) ?_
  refine lv_aload_n hx hb dX4_take_17 rfl (lv_at hl 1 rfl) ?_
  refine va_get (D := (dC, dI)) (ci := 4) (v := .int v_p1_living) (C := RX4) (T := TX4) (N := 11) hx hb hts in_X4_take_X4 hown hK hP 11 rfl rfl 2 (by decide) hk39 (fun _ h9 => h9) rfl dX4_take_18 ?_
  refine va_put (D := (dC, dI)) (ci := 4) (v := .int v_p1_living) (ty := .int) (C := RX4) (T := TX4) (N := 11) hx hb hts in_X4_take_X4 tyX4 tyX4_ok nmX4 hown hK hP hD hS 0 rfl rfl 2 (by decide) hk39 (fun _ h9 => h9) rfl (by decide +kernel) rfl rfl (Nat.le_of_ble_eq_true rfl) dX4_take_21 (fun H locs hP hD hS => ?_)
  have hP : va_P (dC, dI) vwCl [(a_o, .inr (4, [.int v_p1_houses, .int v_p1_children, .int v_p1_living, .int v_o_sideBits, .int v_o_inherited, .int v_o_theYear, .ref a_o_worth, .ref a_o_birth, .ref a_o_home, .ref a_o_kind, .ref a_o_wealth])), (a_o_worth, .inr (1, [.ref a_o_worth_cells])), (a_o_worth_cells, .inl (cI, 3, .inl f_o_worth_cells)), (a_o_birth, .inr (1, [.ref a_o_birth_cells])), (a_o_birth_cells, .inl (cI, 7, .inl f_o_birth_cells)), (a_o_home, .inr (1, [.ref a_o_home_cells])), (a_o_home_cells, .inl (cI, 7, .inl f_o_home_cells)), (a_o_kind, .inr (1, [.ref a_o_kind_cells])), (a_o_kind_cells, .inl (cI, 7, .inl f_o_kind_cells)), (a_o_wealth, .inr (1, [.ref a_o_wealth_cells])), (a_o_wealth_cells, .inl (cI, 7, .inl f_o_wealth_cells)), (a_p1, .inr (4, [.int v_p1_houses, .int v_p1_children, .int v_p1_living, .int v_p1_sideBits, .int v_p1_inherited, .int v_p1_theYear, .ref a_p1_worth, .ref a_p1_birth, .ref a_p1_home, .ref a_p1_kind, .ref a_p1_wealth])), (a_p1_worth, .inr (1, [.ref a_p1_worth_cells])), (a_p1_worth_cells, .inl (cI, 3, .inl f_p1_worth_cells)), (a_p1_birth, .inr (1, [.ref a_p1_birth_cells])), (a_p1_birth_cells, .inl (cI, 7, .inl f_p1_birth_cells)), (a_p1_home, .inr (1, [.ref a_p1_home_cells])), (a_p1_home_cells, .inl (cI, 7, .inl f_p1_home_cells)), (a_p1_kind, .inr (1, [.ref a_p1_kind_cells])), (a_p1_kind_cells, .inl (cI, 7, .inl f_p1_kind_cells)), (a_p1_wealth, .inr (1, [.ref a_p1_wealth_cells])), (a_p1_wealth_cells, .inl (cI, 7, .inl f_p1_wealth_cells))] H := hP
  have hD : va_D A [(a_o, .inr (4, [.int v_p1_houses, .int v_p1_children, .int v_p1_living, .int v_o_sideBits, .int v_o_inherited, .int v_o_theYear, .ref a_o_worth, .ref a_o_birth, .ref a_o_home, .ref a_o_kind, .ref a_o_wealth])), (a_o_worth, .inr (1, [.ref a_o_worth_cells])), (a_o_worth_cells, .inl (cI, 3, .inl f_o_worth_cells)), (a_o_birth, .inr (1, [.ref a_o_birth_cells])), (a_o_birth_cells, .inl (cI, 7, .inl f_o_birth_cells)), (a_o_home, .inr (1, [.ref a_o_home_cells])), (a_o_home_cells, .inl (cI, 7, .inl f_o_home_cells)), (a_o_kind, .inr (1, [.ref a_o_kind_cells])), (a_o_kind_cells, .inl (cI, 7, .inl f_o_kind_cells)), (a_o_wealth, .inr (1, [.ref a_o_wealth_cells])), (a_o_wealth_cells, .inl (cI, 7, .inl f_o_wealth_cells)), (a_p1, .inr (4, [.int v_p1_houses, .int v_p1_children, .int v_p1_living, .int v_p1_sideBits, .int v_p1_inherited, .int v_p1_theYear, .ref a_p1_worth, .ref a_p1_birth, .ref a_p1_home, .ref a_p1_kind, .ref a_p1_wealth])), (a_p1_worth, .inr (1, [.ref a_p1_worth_cells])), (a_p1_worth_cells, .inl (cI, 3, .inl f_p1_worth_cells)), (a_p1_birth, .inr (1, [.ref a_p1_birth_cells])), (a_p1_birth_cells, .inl (cI, 7, .inl f_p1_birth_cells)), (a_p1_home, .inr (1, [.ref a_p1_home_cells])), (a_p1_home_cells, .inl (cI, 7, .inl f_p1_home_cells)), (a_p1_kind, .inr (1, [.ref a_p1_kind_cells])), (a_p1_kind_cells, .inl (cI, 7, .inl f_p1_kind_cells)), (a_p1_wealth, .inr (1, [.ref a_p1_wealth_cells])), (a_p1_wealth_cells, .inl (cI, 7, .inl f_p1_wealth_cells))] := hD
  refine lv_aload_n hx hb dX4_take_24 rfl (lv_at hl 0 rfl) ?_
  refine lv_aload_n hx hb dX4_take_25 rfl (lv_at hl 1 rfl) ?_
  refine va_get (D := (dC, dI)) (ci := 4) (v := .int v_p1_sideBits) (C := RX4) (T := TX4) (N := 11) hx hb hts in_X4_take_X4 hown hK hP 11 rfl rfl 3 (by decide) hk42 (fun _ h9 => h9) rfl dX4_take_26 ?_
  refine va_put (D := (dC, dI)) (ci := 4) (v := .int v_p1_sideBits) (ty := .int) (C := RX4) (T := TX4) (N := 11) hx hb hts in_X4_take_X4 tyX4 tyX4_ok nmX4 hown hK hP hD hS 0 rfl rfl 3 (by decide) hk42 (fun _ h9 => h9) rfl (by decide +kernel) rfl rfl (Nat.le_of_ble_eq_true rfl) dX4_take_29 (fun H locs hP hD hS => ?_)
  have hP : va_P (dC, dI) vwCl [(a_o, .inr (4, [.int v_p1_houses, .int v_p1_children, .int v_p1_living, .int v_p1_sideBits, .int v_o_inherited, .int v_o_theYear, .ref a_o_worth, .ref a_o_birth, .ref a_o_home, .ref a_o_kind, .ref a_o_wealth])), (a_o_worth, .inr (1, [.ref a_o_worth_cells])), (a_o_worth_cells, .inl (cI, 3, .inl f_o_worth_cells)), (a_o_birth, .inr (1, [.ref a_o_birth_cells])), (a_o_birth_cells, .inl (cI, 7, .inl f_o_birth_cells)), (a_o_home, .inr (1, [.ref a_o_home_cells])), (a_o_home_cells, .inl (cI, 7, .inl f_o_home_cells)), (a_o_kind, .inr (1, [.ref a_o_kind_cells])), (a_o_kind_cells, .inl (cI, 7, .inl f_o_kind_cells)), (a_o_wealth, .inr (1, [.ref a_o_wealth_cells])), (a_o_wealth_cells, .inl (cI, 7, .inl f_o_wealth_cells)), (a_p1, .inr (4, [.int v_p1_houses, .int v_p1_children, .int v_p1_living, .int v_p1_sideBits, .int v_p1_inherited, .int v_p1_theYear, .ref a_p1_worth, .ref a_p1_birth, .ref a_p1_home, .ref a_p1_kind, .ref a_p1_wealth])), (a_p1_worth, .inr (1, [.ref a_p1_worth_cells])), (a_p1_worth_cells, .inl (cI, 3, .inl f_p1_worth_cells)), (a_p1_birth, .inr (1, [.ref a_p1_birth_cells])), (a_p1_birth_cells, .inl (cI, 7, .inl f_p1_birth_cells)), (a_p1_home, .inr (1, [.ref a_p1_home_cells])), (a_p1_home_cells, .inl (cI, 7, .inl f_p1_home_cells)), (a_p1_kind, .inr (1, [.ref a_p1_kind_cells])), (a_p1_kind_cells, .inl (cI, 7, .inl f_p1_kind_cells)), (a_p1_wealth, .inr (1, [.ref a_p1_wealth_cells])), (a_p1_wealth_cells, .inl (cI, 7, .inl f_p1_wealth_cells))] H := hP
  have hD : va_D A [(a_o, .inr (4, [.int v_p1_houses, .int v_p1_children, .int v_p1_living, .int v_p1_sideBits, .int v_o_inherited, .int v_o_theYear, .ref a_o_worth, .ref a_o_birth, .ref a_o_home, .ref a_o_kind, .ref a_o_wealth])), (a_o_worth, .inr (1, [.ref a_o_worth_cells])), (a_o_worth_cells, .inl (cI, 3, .inl f_o_worth_cells)), (a_o_birth, .inr (1, [.ref a_o_birth_cells])), (a_o_birth_cells, .inl (cI, 7, .inl f_o_birth_cells)), (a_o_home, .inr (1, [.ref a_o_home_cells])), (a_o_home_cells, .inl (cI, 7, .inl f_o_home_cells)), (a_o_kind, .inr (1, [.ref a_o_kind_cells])), (a_o_kind_cells, .inl (cI, 7, .inl f_o_kind_cells)), (a_o_wealth, .inr (1, [.ref a_o_wealth_cells])), (a_o_wealth_cells, .inl (cI, 7, .inl f_o_wealth_cells)), (a_p1, .inr (4, [.int v_p1_houses, .int v_p1_children, .int v_p1_living, .int v_p1_sideBits, .int v_p1_inherited, .int v_p1_theYear, .ref a_p1_worth, .ref a_p1_birth, .ref a_p1_home, .ref a_p1_kind, .ref a_p1_wealth])), (a_p1_worth, .inr (1, [.ref a_p1_worth_cells])), (a_p1_worth_cells, .inl (cI, 3, .inl f_p1_worth_cells)), (a_p1_birth, .inr (1, [.ref a_p1_birth_cells])), (a_p1_birth_cells, .inl (cI, 7, .inl f_p1_birth_cells)), (a_p1_home, .inr (1, [.ref a_p1_home_cells])), (a_p1_home_cells, .inl (cI, 7, .inl f_p1_home_cells)), (a_p1_kind, .inr (1, [.ref a_p1_kind_cells])), (a_p1_kind_cells, .inl (cI, 7, .inl f_p1_kind_cells)), (a_p1_wealth, .inr (1, [.ref a_p1_wealth_cells])), (a_p1_wealth_cells, .inl (cI, 7, .inl f_p1_wealth_cells))] := hD
  refine lv_aload_n hx hb dX4_take_32 rfl (lv_at hl 0 rfl) ?_
  refine lv_aload_n hx hb dX4_take_33 rfl (lv_at hl 1 rfl) ?_
  refine va_get (D := (dC, dI)) (ci := 4) (v := .int v_p1_inherited) (C := RX4) (T := TX4) (N := 11) hx hb hts in_X4_take_X4 hown hK hP 11 rfl rfl 4 (by decide) hk45 (fun _ h9 => h9) rfl dX4_take_34 ?_
  refine va_put (D := (dC, dI)) (ci := 4) (v := .int v_p1_inherited) (ty := .int) (C := RX4) (T := TX4) (N := 11) hx hb hts in_X4_take_X4 tyX4 tyX4_ok nmX4 hown hK hP hD hS 0 rfl rfl 4 (by decide) hk45 (fun _ h9 => h9) rfl (by decide +kernel) rfl rfl (Nat.le_of_ble_eq_true rfl) dX4_take_37 (fun H locs hP hD hS => ?_)
  have hP : va_P (dC, dI) vwCl [(a_o, .inr (4, [.int v_p1_houses, .int v_p1_children, .int v_p1_living, .int v_p1_sideBits, .int v_p1_inherited, .int v_o_theYear, .ref a_o_worth, .ref a_o_birth, .ref a_o_home, .ref a_o_kind, .ref a_o_wealth])), (a_o_worth, .inr (1, [.ref a_o_worth_cells])), (a_o_worth_cells, .inl (cI, 3, .inl f_o_worth_cells)), (a_o_birth, .inr (1, [.ref a_o_birth_cells])), (a_o_birth_cells, .inl (cI, 7, .inl f_o_birth_cells)), (a_o_home, .inr (1, [.ref a_o_home_cells])), (a_o_home_cells, .inl (cI, 7, .inl f_o_home_cells)), (a_o_kind, .inr (1, [.ref a_o_kind_cells])), (a_o_kind_cells, .inl (cI, 7, .inl f_o_kind_cells)), (a_o_wealth, .inr (1, [.ref a_o_wealth_cells])), (a_o_wealth_cells, .inl (cI, 7, .inl f_o_wealth_cells)), (a_p1, .inr (4, [.int v_p1_houses, .int v_p1_children, .int v_p1_living, .int v_p1_sideBits, .int v_p1_inherited, .int v_p1_theYear, .ref a_p1_worth, .ref a_p1_birth, .ref a_p1_home, .ref a_p1_kind, .ref a_p1_wealth])), (a_p1_worth, .inr (1, [.ref a_p1_worth_cells])), (a_p1_worth_cells, .inl (cI, 3, .inl f_p1_worth_cells)), (a_p1_birth, .inr (1, [.ref a_p1_birth_cells])), (a_p1_birth_cells, .inl (cI, 7, .inl f_p1_birth_cells)), (a_p1_home, .inr (1, [.ref a_p1_home_cells])), (a_p1_home_cells, .inl (cI, 7, .inl f_p1_home_cells)), (a_p1_kind, .inr (1, [.ref a_p1_kind_cells])), (a_p1_kind_cells, .inl (cI, 7, .inl f_p1_kind_cells)), (a_p1_wealth, .inr (1, [.ref a_p1_wealth_cells])), (a_p1_wealth_cells, .inl (cI, 7, .inl f_p1_wealth_cells))] H := hP
  have hD : va_D A [(a_o, .inr (4, [.int v_p1_houses, .int v_p1_children, .int v_p1_living, .int v_p1_sideBits, .int v_p1_inherited, .int v_o_theYear, .ref a_o_worth, .ref a_o_birth, .ref a_o_home, .ref a_o_kind, .ref a_o_wealth])), (a_o_worth, .inr (1, [.ref a_o_worth_cells])), (a_o_worth_cells, .inl (cI, 3, .inl f_o_worth_cells)), (a_o_birth, .inr (1, [.ref a_o_birth_cells])), (a_o_birth_cells, .inl (cI, 7, .inl f_o_birth_cells)), (a_o_home, .inr (1, [.ref a_o_home_cells])), (a_o_home_cells, .inl (cI, 7, .inl f_o_home_cells)), (a_o_kind, .inr (1, [.ref a_o_kind_cells])), (a_o_kind_cells, .inl (cI, 7, .inl f_o_kind_cells)), (a_o_wealth, .inr (1, [.ref a_o_wealth_cells])), (a_o_wealth_cells, .inl (cI, 7, .inl f_o_wealth_cells)), (a_p1, .inr (4, [.int v_p1_houses, .int v_p1_children, .int v_p1_living, .int v_p1_sideBits, .int v_p1_inherited, .int v_p1_theYear, .ref a_p1_worth, .ref a_p1_birth, .ref a_p1_home, .ref a_p1_kind, .ref a_p1_wealth])), (a_p1_worth, .inr (1, [.ref a_p1_worth_cells])), (a_p1_worth_cells, .inl (cI, 3, .inl f_p1_worth_cells)), (a_p1_birth, .inr (1, [.ref a_p1_birth_cells])), (a_p1_birth_cells, .inl (cI, 7, .inl f_p1_birth_cells)), (a_p1_home, .inr (1, [.ref a_p1_home_cells])), (a_p1_home_cells, .inl (cI, 7, .inl f_p1_home_cells)), (a_p1_kind, .inr (1, [.ref a_p1_kind_cells])), (a_p1_kind_cells, .inl (cI, 7, .inl f_p1_kind_cells)), (a_p1_wealth, .inr (1, [.ref a_p1_wealth_cells])), (a_p1_wealth_cells, .inl (cI, 7, .inl f_p1_wealth_cells))] := hD
  refine lv_aload_n hx hb dX4_take_40 rfl (lv_at hl 0 rfl) ?_
  refine lv_aload_n hx hb dX4_take_41 rfl (lv_at hl 1 rfl) ?_
  refine va_get (D := (dC, dI)) (ci := 4) (v := .int v_p1_theYear) (C := RX4) (T := TX4) (N := 11) hx hb hts in_X4_take_X4 hown hK hP 11 rfl rfl 5 (by decide) hk48 (fun _ h9 => h9) rfl dX4_take_42 ?_
  refine va_put (D := (dC, dI)) (ci := 4) (v := .int v_p1_theYear) (ty := .int) (C := RX4) (T := TX4) (N := 11) hx hb hts in_X4_take_X4 tyX4 tyX4_ok nmX4 hown hK hP hD hS 0 rfl rfl 5 (by decide) hk48 (fun _ h9 => h9) rfl (by decide +kernel) rfl rfl (Nat.le_of_ble_eq_true rfl) dX4_take_45 (fun H locs hP hD hS => ?_)
  have hP : va_P (dC, dI) vwCl [(a_o, .inr (4, [.int v_p1_houses, .int v_p1_children, .int v_p1_living, .int v_p1_sideBits, .int v_p1_inherited, .int v_p1_theYear, .ref a_o_worth, .ref a_o_birth, .ref a_o_home, .ref a_o_kind, .ref a_o_wealth])), (a_o_worth, .inr (1, [.ref a_o_worth_cells])), (a_o_worth_cells, .inl (cI, 3, .inl f_o_worth_cells)), (a_o_birth, .inr (1, [.ref a_o_birth_cells])), (a_o_birth_cells, .inl (cI, 7, .inl f_o_birth_cells)), (a_o_home, .inr (1, [.ref a_o_home_cells])), (a_o_home_cells, .inl (cI, 7, .inl f_o_home_cells)), (a_o_kind, .inr (1, [.ref a_o_kind_cells])), (a_o_kind_cells, .inl (cI, 7, .inl f_o_kind_cells)), (a_o_wealth, .inr (1, [.ref a_o_wealth_cells])), (a_o_wealth_cells, .inl (cI, 7, .inl f_o_wealth_cells)), (a_p1, .inr (4, [.int v_p1_houses, .int v_p1_children, .int v_p1_living, .int v_p1_sideBits, .int v_p1_inherited, .int v_p1_theYear, .ref a_p1_worth, .ref a_p1_birth, .ref a_p1_home, .ref a_p1_kind, .ref a_p1_wealth])), (a_p1_worth, .inr (1, [.ref a_p1_worth_cells])), (a_p1_worth_cells, .inl (cI, 3, .inl f_p1_worth_cells)), (a_p1_birth, .inr (1, [.ref a_p1_birth_cells])), (a_p1_birth_cells, .inl (cI, 7, .inl f_p1_birth_cells)), (a_p1_home, .inr (1, [.ref a_p1_home_cells])), (a_p1_home_cells, .inl (cI, 7, .inl f_p1_home_cells)), (a_p1_kind, .inr (1, [.ref a_p1_kind_cells])), (a_p1_kind_cells, .inl (cI, 7, .inl f_p1_kind_cells)), (a_p1_wealth, .inr (1, [.ref a_p1_wealth_cells])), (a_p1_wealth_cells, .inl (cI, 7, .inl f_p1_wealth_cells))] H := hP
  have hD : va_D A [(a_o, .inr (4, [.int v_p1_houses, .int v_p1_children, .int v_p1_living, .int v_p1_sideBits, .int v_p1_inherited, .int v_p1_theYear, .ref a_o_worth, .ref a_o_birth, .ref a_o_home, .ref a_o_kind, .ref a_o_wealth])), (a_o_worth, .inr (1, [.ref a_o_worth_cells])), (a_o_worth_cells, .inl (cI, 3, .inl f_o_worth_cells)), (a_o_birth, .inr (1, [.ref a_o_birth_cells])), (a_o_birth_cells, .inl (cI, 7, .inl f_o_birth_cells)), (a_o_home, .inr (1, [.ref a_o_home_cells])), (a_o_home_cells, .inl (cI, 7, .inl f_o_home_cells)), (a_o_kind, .inr (1, [.ref a_o_kind_cells])), (a_o_kind_cells, .inl (cI, 7, .inl f_o_kind_cells)), (a_o_wealth, .inr (1, [.ref a_o_wealth_cells])), (a_o_wealth_cells, .inl (cI, 7, .inl f_o_wealth_cells)), (a_p1, .inr (4, [.int v_p1_houses, .int v_p1_children, .int v_p1_living, .int v_p1_sideBits, .int v_p1_inherited, .int v_p1_theYear, .ref a_p1_worth, .ref a_p1_birth, .ref a_p1_home, .ref a_p1_kind, .ref a_p1_wealth])), (a_p1_worth, .inr (1, [.ref a_p1_worth_cells])), (a_p1_worth_cells, .inl (cI, 3, .inl f_p1_worth_cells)), (a_p1_birth, .inr (1, [.ref a_p1_birth_cells])), (a_p1_birth_cells, .inl (cI, 7, .inl f_p1_birth_cells)), (a_p1_home, .inr (1, [.ref a_p1_home_cells])), (a_p1_home_cells, .inl (cI, 7, .inl f_p1_home_cells)), (a_p1_kind, .inr (1, [.ref a_p1_kind_cells])), (a_p1_kind_cells, .inl (cI, 7, .inl f_p1_kind_cells)), (a_p1_wealth, .inr (1, [.ref a_p1_wealth_cells])), (a_p1_wealth_cells, .inl (cI, 7, .inl f_p1_wealth_cells))] := hD
  refine lv_aload_n hx hb dX4_take_48 rfl (lv_at hl 0 rfl) ?_
  refine va_get (D := (dC, dI)) (ci := 4) (v := .ref a_o_worth) (C := RX4) (T := TX4) (N := 11) hx hb hts in_X4_take_X4 hown hK hP 0 rfl rfl 6 (by decide) hk14 (fun _ h9 => h9) rfl dX4_take_49 ?_
  refine lv_aload_n hx hb dX4_take_52 rfl (lv_at hl 1 rfl) ?_
  refine va_get (D := (dC, dI)) (ci := 4) (v := .ref a_p1_worth) (C := RX4) (T := TX4) (N := 11) hx hb hts in_X4_take_X4 hown hK hP 11 rfl rfl 6 (by decide) hk14 (fun _ h9 => h9) rfl dX4_take_53 ?_
  obtain ⟨u1, hu1, hf⟩ := kb1_e hf
  refine kc_v (wn := [(a_o, .inr (4, [.int v_p1_houses, .int v_p1_children, .int v_p1_living, .int v_p1_sideBits, .int v_p1_inherited, .int v_p1_theYear, .ref a_o_worth, .ref a_o_birth, .ref a_o_home, .ref a_o_kind, .ref a_o_wealth])), (a_o_worth, .inr (1, [.ref a_o_worth_cells])), (a_o_worth_cells, .inl (cI, 3, .inl u1)), (a_o_birth, .inr (1, [.ref a_o_birth_cells])), (a_o_birth_cells, .inl (cI, 7, .inl f_o_birth_cells)), (a_o_home, .inr (1, [.ref a_o_home_cells])), (a_o_home_cells, .inl (cI, 7, .inl f_o_home_cells)), (a_o_kind, .inr (1, [.ref a_o_kind_cells])), (a_o_kind_cells, .inl (cI, 7, .inl f_o_kind_cells)), (a_o_wealth, .inr (1, [.ref a_o_wealth_cells])), (a_o_wealth_cells, .inl (cI, 7, .inl f_o_wealth_cells)), (a_p1, .inr (4, [.int v_p1_houses, .int v_p1_children, .int v_p1_living, .int v_p1_sideBits, .int v_p1_inherited, .int v_p1_theYear, .ref a_p1_worth, .ref a_p1_birth, .ref a_p1_home, .ref a_p1_kind, .ref a_p1_wealth])), (a_p1_worth, .inr (1, [.ref a_p1_worth_cells])), (a_p1_worth_cells, .inl (cI, 3, .inl f_p1_worth_cells)), (a_p1_birth, .inr (1, [.ref a_p1_birth_cells])), (a_p1_birth_cells, .inl (cI, 7, .inl f_p1_birth_cells)), (a_p1_home, .inr (1, [.ref a_p1_home_cells])), (a_p1_home_cells, .inl (cI, 7, .inl f_p1_home_cells)), (a_p1_kind, .inr (1, [.ref a_p1_kind_cells])), (a_p1_kind_cells, .inl (cI, 7, .inl f_p1_kind_cells)), (a_p1_wealth, .inr (1, [.ref a_p1_wealth_cells])), (a_p1_wealth_cells, .inl (cI, 7, .inl f_p1_wealth_cells))]) (kr_V (As := [.ref a_p1_worth]) (rest := []) ⟨hx, hb, hml, hown, hts⟩ hK hN hP hD hl.1 (c_X1_take l dC dI cI cZ a_o_worth a_o_worth_cells a_p1_worth a_p1_worth_cells 3 3 f_o_worth_cells f_p1_worth_cells u1 hu1 H.size) sg_X1_take ⟨rfl, rfl⟩ ⟨Nat.le_of_ble_eq_true rfl, Nat.le_of_ble_eq_true rfl⟩ gX4_take_X1_take 1 rfl rfl rfl [1, 2, 12, 13] (by decide) rfl rfl rfl (Nat.le_of_ble_eq_true rfl) dX4_take_56 ⟨Nat.zero_le _, Nat.zero_le _⟩) hA hP hD hS [1, 2, 12, 13] rfl rfl rfl (fun H locs hP hD hS => ?_)
  refine lv_aload_n hx hb dX4_take_59 rfl (lv_at hl 0 rfl) ?_
  refine va_get (D := (dC, dI)) (ci := 4) (v := .ref a_o_birth) (C := RX4) (T := TX4) (N := 11) hx hb hts in_X4_take_X4 hown hK hP 0 rfl rfl 7 (by decide) hk20 (fun _ h9 => h9) rfl dX4_take_60 ?_
  refine lv_aload_n hx hb dX4_take_63 rfl (lv_at hl 1 rfl) ?_
  refine va_get (D := (dC, dI)) (ci := 4) (v := .ref a_p1_birth) (C := RX4) (T := TX4) (N := 11) hx hb hts in_X4_take_X4 hown hK hP 11 rfl rfl 7 (by decide) hk20 (fun _ h9 => h9) rfl dX4_take_64 ?_
  obtain ⟨u2, hu2, hf⟩ := kb1_e hf
  refine kc_v (wn := [(a_o, .inr (4, [.int v_p1_houses, .int v_p1_children, .int v_p1_living, .int v_p1_sideBits, .int v_p1_inherited, .int v_p1_theYear, .ref a_o_worth, .ref a_o_birth, .ref a_o_home, .ref a_o_kind, .ref a_o_wealth])), (a_o_worth, .inr (1, [.ref a_o_worth_cells])), (a_o_worth_cells, .inl (cI, 3, .inl u1)), (a_o_birth, .inr (1, [.ref a_o_birth_cells])), (a_o_birth_cells, .inl (cI, 7, .inl u2)), (a_o_home, .inr (1, [.ref a_o_home_cells])), (a_o_home_cells, .inl (cI, 7, .inl f_o_home_cells)), (a_o_kind, .inr (1, [.ref a_o_kind_cells])), (a_o_kind_cells, .inl (cI, 7, .inl f_o_kind_cells)), (a_o_wealth, .inr (1, [.ref a_o_wealth_cells])), (a_o_wealth_cells, .inl (cI, 7, .inl f_o_wealth_cells)), (a_p1, .inr (4, [.int v_p1_houses, .int v_p1_children, .int v_p1_living, .int v_p1_sideBits, .int v_p1_inherited, .int v_p1_theYear, .ref a_p1_worth, .ref a_p1_birth, .ref a_p1_home, .ref a_p1_kind, .ref a_p1_wealth])), (a_p1_worth, .inr (1, [.ref a_p1_worth_cells])), (a_p1_worth_cells, .inl (cI, 3, .inl f_p1_worth_cells)), (a_p1_birth, .inr (1, [.ref a_p1_birth_cells])), (a_p1_birth_cells, .inl (cI, 7, .inl f_p1_birth_cells)), (a_p1_home, .inr (1, [.ref a_p1_home_cells])), (a_p1_home_cells, .inl (cI, 7, .inl f_p1_home_cells)), (a_p1_kind, .inr (1, [.ref a_p1_kind_cells])), (a_p1_kind_cells, .inl (cI, 7, .inl f_p1_kind_cells)), (a_p1_wealth, .inr (1, [.ref a_p1_wealth_cells])), (a_p1_wealth_cells, .inl (cI, 7, .inl f_p1_wealth_cells))]) (kr_V (As := [.ref a_p1_birth]) (rest := []) ⟨hx, hb, hml, hown, hts⟩ hK hN hP hD hl.1 (c_X1_take l dC dI cI cZ a_o_birth a_o_birth_cells a_p1_birth a_p1_birth_cells 7 7 f_o_birth_cells f_p1_birth_cells u2 hu2 H.size) sg_X1_take ⟨rfl, rfl⟩ ⟨Nat.le_of_ble_eq_true rfl, Nat.le_of_ble_eq_true rfl⟩ gX4_take_X1_take 3 rfl rfl rfl [3, 4, 14, 15] (by decide) rfl rfl rfl (Nat.le_of_ble_eq_true rfl) dX4_take_67 ⟨Nat.zero_le _, Nat.zero_le _⟩) hA hP hD hS [3, 4, 14, 15] rfl rfl rfl (fun H locs hP hD hS => ?_)
  refine lv_aload_n hx hb dX4_take_70 rfl (lv_at hl 0 rfl) ?_
  refine va_get (D := (dC, dI)) (ci := 4) (v := .ref a_o_home) (C := RX4) (T := TX4) (N := 11) hx hb hts in_X4_take_X4 hown hK hP 0 rfl rfl 8 (by decide) hk23 (fun _ h9 => h9) rfl dX4_take_71 ?_
  refine lv_aload_n hx hb dX4_take_74 rfl (lv_at hl 1 rfl) ?_
  refine va_get (D := (dC, dI)) (ci := 4) (v := .ref a_p1_home) (C := RX4) (T := TX4) (N := 11) hx hb hts in_X4_take_X4 hown hK hP 11 rfl rfl 8 (by decide) hk23 (fun _ h9 => h9) rfl dX4_take_75 ?_
  obtain ⟨u3, hu3, hf⟩ := kb1_e hf
  refine kc_v (wn := [(a_o, .inr (4, [.int v_p1_houses, .int v_p1_children, .int v_p1_living, .int v_p1_sideBits, .int v_p1_inherited, .int v_p1_theYear, .ref a_o_worth, .ref a_o_birth, .ref a_o_home, .ref a_o_kind, .ref a_o_wealth])), (a_o_worth, .inr (1, [.ref a_o_worth_cells])), (a_o_worth_cells, .inl (cI, 3, .inl u1)), (a_o_birth, .inr (1, [.ref a_o_birth_cells])), (a_o_birth_cells, .inl (cI, 7, .inl u2)), (a_o_home, .inr (1, [.ref a_o_home_cells])), (a_o_home_cells, .inl (cI, 7, .inl u3)), (a_o_kind, .inr (1, [.ref a_o_kind_cells])), (a_o_kind_cells, .inl (cI, 7, .inl f_o_kind_cells)), (a_o_wealth, .inr (1, [.ref a_o_wealth_cells])), (a_o_wealth_cells, .inl (cI, 7, .inl f_o_wealth_cells)), (a_p1, .inr (4, [.int v_p1_houses, .int v_p1_children, .int v_p1_living, .int v_p1_sideBits, .int v_p1_inherited, .int v_p1_theYear, .ref a_p1_worth, .ref a_p1_birth, .ref a_p1_home, .ref a_p1_kind, .ref a_p1_wealth])), (a_p1_worth, .inr (1, [.ref a_p1_worth_cells])), (a_p1_worth_cells, .inl (cI, 3, .inl f_p1_worth_cells)), (a_p1_birth, .inr (1, [.ref a_p1_birth_cells])), (a_p1_birth_cells, .inl (cI, 7, .inl f_p1_birth_cells)), (a_p1_home, .inr (1, [.ref a_p1_home_cells])), (a_p1_home_cells, .inl (cI, 7, .inl f_p1_home_cells)), (a_p1_kind, .inr (1, [.ref a_p1_kind_cells])), (a_p1_kind_cells, .inl (cI, 7, .inl f_p1_kind_cells)), (a_p1_wealth, .inr (1, [.ref a_p1_wealth_cells])), (a_p1_wealth_cells, .inl (cI, 7, .inl f_p1_wealth_cells))]) (kr_V (As := [.ref a_p1_home]) (rest := []) ⟨hx, hb, hml, hown, hts⟩ hK hN hP hD hl.1 (c_X1_take l dC dI cI cZ a_o_home a_o_home_cells a_p1_home a_p1_home_cells 7 7 f_o_home_cells f_p1_home_cells u3 hu3 H.size) sg_X1_take ⟨rfl, rfl⟩ ⟨Nat.le_of_ble_eq_true rfl, Nat.le_of_ble_eq_true rfl⟩ gX4_take_X1_take 5 rfl rfl rfl [5, 6, 16, 17] (by decide) rfl rfl rfl (Nat.le_of_ble_eq_true rfl) dX4_take_78 ⟨Nat.zero_le _, Nat.zero_le _⟩) hA hP hD hS [5, 6, 16, 17] rfl rfl rfl (fun H locs hP hD hS => ?_)
  refine lv_aload_n hx hb dX4_take_81 rfl (lv_at hl 0 rfl) ?_
  refine va_get (D := (dC, dI)) (ci := 4) (v := .ref a_o_kind) (C := RX4) (T := TX4) (N := 11) hx hb hts in_X4_take_X4 hown hK hP 0 rfl rfl 9 (by decide) hk26 (fun _ h9 => h9) rfl dX4_take_82 ?_
  refine lv_aload_n hx hb dX4_take_85 rfl (lv_at hl 1 rfl) ?_
  refine va_get (D := (dC, dI)) (ci := 4) (v := .ref a_p1_kind) (C := RX4) (T := TX4) (N := 11) hx hb hts in_X4_take_X4 hown hK hP 11 rfl rfl 9 (by decide) hk26 (fun _ h9 => h9) rfl dX4_take_86 ?_
  obtain ⟨u4, hu4, hf⟩ := kb1_e hf
  refine kc_v (wn := [(a_o, .inr (4, [.int v_p1_houses, .int v_p1_children, .int v_p1_living, .int v_p1_sideBits, .int v_p1_inherited, .int v_p1_theYear, .ref a_o_worth, .ref a_o_birth, .ref a_o_home, .ref a_o_kind, .ref a_o_wealth])), (a_o_worth, .inr (1, [.ref a_o_worth_cells])), (a_o_worth_cells, .inl (cI, 3, .inl u1)), (a_o_birth, .inr (1, [.ref a_o_birth_cells])), (a_o_birth_cells, .inl (cI, 7, .inl u2)), (a_o_home, .inr (1, [.ref a_o_home_cells])), (a_o_home_cells, .inl (cI, 7, .inl u3)), (a_o_kind, .inr (1, [.ref a_o_kind_cells])), (a_o_kind_cells, .inl (cI, 7, .inl u4)), (a_o_wealth, .inr (1, [.ref a_o_wealth_cells])), (a_o_wealth_cells, .inl (cI, 7, .inl f_o_wealth_cells)), (a_p1, .inr (4, [.int v_p1_houses, .int v_p1_children, .int v_p1_living, .int v_p1_sideBits, .int v_p1_inherited, .int v_p1_theYear, .ref a_p1_worth, .ref a_p1_birth, .ref a_p1_home, .ref a_p1_kind, .ref a_p1_wealth])), (a_p1_worth, .inr (1, [.ref a_p1_worth_cells])), (a_p1_worth_cells, .inl (cI, 3, .inl f_p1_worth_cells)), (a_p1_birth, .inr (1, [.ref a_p1_birth_cells])), (a_p1_birth_cells, .inl (cI, 7, .inl f_p1_birth_cells)), (a_p1_home, .inr (1, [.ref a_p1_home_cells])), (a_p1_home_cells, .inl (cI, 7, .inl f_p1_home_cells)), (a_p1_kind, .inr (1, [.ref a_p1_kind_cells])), (a_p1_kind_cells, .inl (cI, 7, .inl f_p1_kind_cells)), (a_p1_wealth, .inr (1, [.ref a_p1_wealth_cells])), (a_p1_wealth_cells, .inl (cI, 7, .inl f_p1_wealth_cells))]) (kr_V (As := [.ref a_p1_kind]) (rest := []) ⟨hx, hb, hml, hown, hts⟩ hK hN hP hD hl.1 (c_X1_take l dC dI cI cZ a_o_kind a_o_kind_cells a_p1_kind a_p1_kind_cells 7 7 f_o_kind_cells f_p1_kind_cells u4 hu4 H.size) sg_X1_take ⟨rfl, rfl⟩ ⟨Nat.le_of_ble_eq_true rfl, Nat.le_of_ble_eq_true rfl⟩ gX4_take_X1_take 7 rfl rfl rfl [7, 8, 18, 19] (by decide) rfl rfl rfl (Nat.le_of_ble_eq_true rfl) dX4_take_89 ⟨Nat.zero_le _, Nat.zero_le _⟩) hA hP hD hS [7, 8, 18, 19] rfl rfl rfl (fun H locs hP hD hS => ?_)
  refine lv_aload_n hx hb dX4_take_92 rfl (lv_at hl 0 rfl) ?_
  refine va_get (D := (dC, dI)) (ci := 4) (v := .ref a_o_wealth) (C := RX4) (T := TX4) (N := 11) hx hb hts in_X4_take_X4 hown hK hP 0 rfl rfl 10 (by decide) hk29 (fun _ h9 => h9) rfl dX4_take_93 ?_
  refine lv_aload_n hx hb dX4_take_96 rfl (lv_at hl 1 rfl) ?_
  refine va_get (D := (dC, dI)) (ci := 4) (v := .ref a_p1_wealth) (C := RX4) (T := TX4) (N := 11) hx hb hts in_X4_take_X4 hown hK hP 11 rfl rfl 10 (by decide) hk29 (fun _ h9 => h9) rfl dX4_take_97 ?_
  obtain ⟨u5, hu5, hf⟩ := kb1_e hf
  refine kc_v (wn := [(a_o, .inr (4, [.int v_p1_houses, .int v_p1_children, .int v_p1_living, .int v_p1_sideBits, .int v_p1_inherited, .int v_p1_theYear, .ref a_o_worth, .ref a_o_birth, .ref a_o_home, .ref a_o_kind, .ref a_o_wealth])), (a_o_worth, .inr (1, [.ref a_o_worth_cells])), (a_o_worth_cells, .inl (cI, 3, .inl u1)), (a_o_birth, .inr (1, [.ref a_o_birth_cells])), (a_o_birth_cells, .inl (cI, 7, .inl u2)), (a_o_home, .inr (1, [.ref a_o_home_cells])), (a_o_home_cells, .inl (cI, 7, .inl u3)), (a_o_kind, .inr (1, [.ref a_o_kind_cells])), (a_o_kind_cells, .inl (cI, 7, .inl u4)), (a_o_wealth, .inr (1, [.ref a_o_wealth_cells])), (a_o_wealth_cells, .inl (cI, 7, .inl u5)), (a_p1, .inr (4, [.int v_p1_houses, .int v_p1_children, .int v_p1_living, .int v_p1_sideBits, .int v_p1_inherited, .int v_p1_theYear, .ref a_p1_worth, .ref a_p1_birth, .ref a_p1_home, .ref a_p1_kind, .ref a_p1_wealth])), (a_p1_worth, .inr (1, [.ref a_p1_worth_cells])), (a_p1_worth_cells, .inl (cI, 3, .inl f_p1_worth_cells)), (a_p1_birth, .inr (1, [.ref a_p1_birth_cells])), (a_p1_birth_cells, .inl (cI, 7, .inl f_p1_birth_cells)), (a_p1_home, .inr (1, [.ref a_p1_home_cells])), (a_p1_home_cells, .inl (cI, 7, .inl f_p1_home_cells)), (a_p1_kind, .inr (1, [.ref a_p1_kind_cells])), (a_p1_kind_cells, .inl (cI, 7, .inl f_p1_kind_cells)), (a_p1_wealth, .inr (1, [.ref a_p1_wealth_cells])), (a_p1_wealth_cells, .inl (cI, 7, .inl f_p1_wealth_cells))]) (kr_V (As := [.ref a_p1_wealth]) (rest := []) ⟨hx, hb, hml, hown, hts⟩ hK hN hP hD hl.1 (c_X1_take l dC dI cI cZ a_o_wealth a_o_wealth_cells a_p1_wealth a_p1_wealth_cells 7 7 f_o_wealth_cells f_p1_wealth_cells u5 hu5 H.size) sg_X1_take ⟨rfl, rfl⟩ ⟨Nat.le_of_ble_eq_true rfl, Nat.le_of_ble_eq_true rfl⟩ gX4_take_X1_take 9 rfl rfl rfl [9, 10, 20, 21] (by decide) rfl rfl rfl (Nat.le_of_ble_eq_true rfl) dX4_take_100 ⟨Nat.zero_le _, Nat.zero_le _⟩) hA hP hD hS [9, 10, 20, 21] rfl rfl rfl (fun H locs hP hD hS => ?_)
  cases hf
  exact hend _ _ _ _ dX4_take_103 hP hS
theorem sg_X4_isAlive : kSig yX4_isAlive wsX4_isAlive cX4_isAlive 2 (some .boolean) RX4 1 := ⟨⟨_, rfl⟩, rfl, by decide, by decide +kernel, by decide +kernel, by decide +kernel⟩
abbrev rm_X4_isAlive : Room := { frames := 1, cells := 0, slots := 0, locals := 21 }
set_option maxRecDepth 20000 in
theorem in_X4_isAlive_X4 : ∀ w ∈ u_ws RX4 TX4 11, w ∈ wsX4_isAlive := by decide +kernel
set_option maxHeartbeats 4000000 in
set_option maxRecDepth 100000 in
theorem c_X4_isAlive (l : Launch) (dC : Nat → ClassId) (dI : Nat → Nat → Nat) (cI cZ : ClassId) (a_o a_o_worth a_o_birth a_o_home a_o_kind a_o_wealth : Nat) (v_o_houses : Int32) (v_o_children : Int32) (v_o_living : Int32) (v_o_sideBits : Int32) (v_o_inherited : Int32) (v_o_theYear : Int32) (x1 : Int32) (u : Int32) (hf : f_X4_isAlive v_o_children v_o_living x1 = some u) : kMi l yX4_isAlive wsX4_isAlive rm_X4_isAlive (dC, dI) (kTy cI cZ) [.ref a_o, .int x1] [(a_o, .inr (4, [.int v_o_houses, .int v_o_children, .int v_o_living, .int v_o_sideBits, .int v_o_inherited, .int v_o_theYear, .ref a_o_worth, .ref a_o_birth, .ref a_o_home, .ref a_o_kind, .ref a_o_wealth]))] [(a_o, .inr (4, [.int v_o_houses, .int v_o_children, .int v_o_living, .int v_o_sideBits, .int v_o_inherited, .int v_o_theYear, .ref a_o_worth, .ref a_o_birth, .ref a_o_home, .ref a_o_kind, .ref a_o_wealth]))] u := by
  refine kMi_of sg_X4_isAlive ⟨rfl, rfl⟩ (Nat.le_of_ble_eq_true rfl) ?_
  intro p e s m args below meth c A H0 Q hx hb hml hown hts hK hN hA hend H locs ls hP hD hS hl
  have hl : lv_has ls 2 [(0, .ref a_o), (1, .int x1)] := hl
  have hk39 := hts (.fieldLink RX4 39 "YoungestHouse$Town" "living" "I") (by decide +kernel)
  unfold f_X4_isAlive at hf
  refine lv_aload_n hx hb dX4_isAlive_0 rfl (lv_at hl 0 rfl) ?_
  refine lv_iload_n hx hb dX4_isAlive_1 rfl (lv_at hl 1 rfl) ?_
  obtain ⟨u1, hu1, hf⟩ := kb1_e hf
  refine kc_i (wn := [(a_o, .inr (4, [.int v_o_houses, .int v_o_children, .int v_o_living, .int v_o_sideBits, .int v_o_inherited, .int v_o_theYear, .ref a_o_worth, .ref a_o_birth, .ref a_o_home, .ref a_o_kind, .ref a_o_wealth]))]) (kr_V (As := [.int x1]) (rest := []) ⟨hx, hb, hml, hown, hts⟩ hK hN hP hD hl.1 (c_X4_hasChild l dC dI cI cZ a_o a_o_worth a_o_birth a_o_home a_o_kind a_o_wealth v_o_houses v_o_children v_o_living v_o_sideBits v_o_inherited v_o_theYear x1 u1 hu1 H.size) sg_X4_hasChild ⟨rfl, rfl⟩ ⟨Nat.le_of_ble_eq_true rfl, Nat.le_of_ble_eq_true rfl⟩ gX4_isAlive_X4_hasChild 0 rfl rfl rfl [0] (by decide) rfl rfl rfl (Nat.le_of_ble_eq_true rfl) dX4_isAlive_2 ⟨Nat.zero_le _, Nat.zero_le _⟩) hA hP hD hS [0] rfl rfl rfl (fun H locs hP hD hS => ?_)
  refine lv_if_eq (tgt := 23) hx hb dX4_isAlive_5 (by decide) (fun c2 => ?_) (fun c2 => ?_)
  · replace hf := kt c2 hf
    refine lv_iconst (v := (0 : Int32)) hx hb dX4_isAlive_23 (by decide) ?_
    cases hf
    exact hend _ _ _ _ dX4_isAlive_24 rfl hP hS
  · replace hf := kf c2 hf
    refine lv_aload_n hx hb dX4_isAlive_8 rfl (lv_at hl 0 rfl) ?_
    refine va_get (D := (dC, dI)) (ci := 4) (v := .int v_o_living) (C := RX4) (T := TX4) (N := 11) hx hb hts in_X4_isAlive_X4 hown hK hP 0 rfl rfl 2 (by decide) hk39 (fun _ h9 => h9) rfl dX4_isAlive_9 ?_
    refine lv_iload_n hx hb dX4_isAlive_12 rfl (lv_at hl 1 rfl) ?_
    obtain ⟨u3, hu3, hf⟩ := kb1_e hf
    refine kc_i (wn := [(a_o, .inr (4, [.int v_o_houses, .int v_o_children, .int v_o_living, .int v_o_sideBits, .int v_o_inherited, .int v_o_theYear, .ref a_o_worth, .ref a_o_birth, .ref a_o_home, .ref a_o_kind, .ref a_o_wealth]))]) (kr_N (host := RX5) (As := [.int v_o_living, .int x1]) (rest := []) ⟨hx, hb, hml, hown, hts⟩ hK hN hP hD hl.1 (c_X5_isIn l dC dI cI cZ v_o_living x1 u3 hu3 H.size) sg_X5_isIn ⟨rfl, rfl⟩ ⟨Nat.le_of_ble_eq_true rfl, Nat.le_of_ble_eq_true rfl⟩ gX4_isAlive_X5_isIn_n59 (by decide +kernel) (by decide +kernel) (by decide +kernel) [] (by decide) rfl rfl rfl (Nat.le_of_ble_eq_true rfl) dX4_isAlive_13 ⟨Nat.zero_le _, Nat.zero_le _⟩) hA hP hD hS [] rfl rfl rfl (fun H locs hP hD hS => ?_)
    refine lv_if_eq (tgt := 23) hx hb dX4_isAlive_16 (by decide) (fun c4 => ?_) (fun c4 => ?_)
    · replace hf := kt c4 hf
      refine lv_iconst (v := (0 : Int32)) hx hb dX4_isAlive_23 (by decide) ?_
      cases hf
      exact hend _ _ _ _ dX4_isAlive_24 rfl hP hS
    · replace hf := kf c4 hf
      refine lv_iconst (v := (1 : Int32)) hx hb dX4_isAlive_19 (by decide) ?_
      refine lv_goto (tgt := 24) hx hb dX4_isAlive_20 (by decide) ?_
      cases hf
      exact hend _ _ _ _ dX4_isAlive_24 rfl hP hS
theorem sg_X4_sideOf : kSig yX4_sideOf wsX4_sideOf cX4_sideOf 2 (some .int) RX4 1 := ⟨⟨_, rfl⟩, rfl, by decide, by decide +kernel, by decide +kernel, by decide +kernel⟩
abbrev rm_X4_sideOf : Room := { frames := 1, cells := 0, slots := 0, locals := 21 }
set_option maxRecDepth 20000 in
theorem in_X4_sideOf_X4 : ∀ w ∈ u_ws RX4 TX4 11, w ∈ wsX4_sideOf := by decide +kernel
set_option maxHeartbeats 4000000 in
set_option maxRecDepth 100000 in
theorem c_X4_sideOf (l : Launch) (dC : Nat → ClassId) (dI : Nat → Nat → Nat) (cI cZ : ClassId) (a_o a_o_worth a_o_birth a_o_home a_o_kind a_o_wealth : Nat) (v_o_houses : Int32) (v_o_children : Int32) (v_o_living : Int32) (v_o_sideBits : Int32) (v_o_inherited : Int32) (v_o_theYear : Int32) (x1 : Int32) (u : Int32) (hf : f_X4_sideOf v_o_sideBits x1 = some u) : kMi l yX4_sideOf wsX4_sideOf rm_X4_sideOf (dC, dI) (kTy cI cZ) [.ref a_o, .int x1] [(a_o, .inr (4, [.int v_o_houses, .int v_o_children, .int v_o_living, .int v_o_sideBits, .int v_o_inherited, .int v_o_theYear, .ref a_o_worth, .ref a_o_birth, .ref a_o_home, .ref a_o_kind, .ref a_o_wealth]))] [(a_o, .inr (4, [.int v_o_houses, .int v_o_children, .int v_o_living, .int v_o_sideBits, .int v_o_inherited, .int v_o_theYear, .ref a_o_worth, .ref a_o_birth, .ref a_o_home, .ref a_o_kind, .ref a_o_wealth]))] u := by
  refine kMi_of sg_X4_sideOf ⟨rfl, rfl⟩ (Nat.le_of_ble_eq_true rfl) ?_
  intro p e s m args below meth c A H0 Q hx hb hml hown hts hK hN hA hend H locs ls hP hD hS hl
  have hl : lv_has ls 2 [(0, .ref a_o), (1, .int x1)] := hl
  have hk42 := hts (.fieldLink RX4 42 "YoungestHouse$Town" "sideBits" "I") (by decide +kernel)
  unfold f_X4_sideOf at hf
  refine lv_aload_n hx hb dX4_sideOf_0 rfl (lv_at hl 0 rfl) ?_
  refine va_get (D := (dC, dI)) (ci := 4) (v := .int v_o_sideBits) (C := RX4) (T := TX4) (N := 11) hx hb hts in_X4_sideOf_X4 hown hK hP 0 rfl rfl 3 (by decide) hk42 (fun _ h9 => h9) rfl dX4_sideOf_1 ?_
  refine lv_iload_n hx hb dX4_sideOf_4 rfl (lv_at hl 1 rfl) ?_
  obtain ⟨u1, hu1, hf⟩ := kb1_e hf
  refine kc_i (wn := [(a_o, .inr (4, [.int v_o_houses, .int v_o_children, .int v_o_living, .int v_o_sideBits, .int v_o_inherited, .int v_o_theYear, .ref a_o_worth, .ref a_o_birth, .ref a_o_home, .ref a_o_kind, .ref a_o_wealth]))]) (kr_N (host := RX5) (As := [.int v_o_sideBits, .int x1]) (rest := []) ⟨hx, hb, hml, hown, hts⟩ hK hN hP hD hl.1 (c_X5_isIn l dC dI cI cZ v_o_sideBits x1 u1 hu1 H.size) sg_X5_isIn ⟨rfl, rfl⟩ ⟨Nat.le_of_ble_eq_true rfl, Nat.le_of_ble_eq_true rfl⟩ gX4_sideOf_X5_isIn_n59 (by decide +kernel) (by decide +kernel) (by decide +kernel) [] (by decide) rfl rfl rfl (Nat.le_of_ble_eq_true rfl) dX4_sideOf_5 ⟨Nat.zero_le _, Nat.zero_le _⟩) hA hP hD hS [] rfl rfl rfl (fun H locs hP hD hS => ?_)
  refine lv_if_eq (tgt := 15) hx hb dX4_sideOf_8 (by decide) (fun c2 => ?_) (fun c2 => ?_)
  · replace hf := kt c2 hf
    refine lv_iconst (v := (0 : Int32)) hx hb dX4_sideOf_15 (by decide) ?_
    cases hf
    exact hend _ _ _ _ dX4_sideOf_16 rfl hP hS
  · replace hf := kf c2 hf
    refine lv_iconst (v := (1 : Int32)) hx hb dX4_sideOf_11 (by decide) ?_
    refine lv_goto (tgt := 16) hx hb dX4_sideOf_12 (by decide) ?_
    cases hf
    exact hend _ _ _ _ dX4_sideOf_16 rfl hP hS
theorem sg_X4_ageOf : kSig yX4_ageOf wsX4_ageOf cX4_ageOf 2 (some .int) RX4 1 := ⟨⟨_, rfl⟩, rfl, by decide, by decide +kernel, by decide +kernel, by decide +kernel⟩
abbrev rm_X4_ageOf : Room := { frames := 1, cells := 0, slots := 0, locals := 21 }
set_option maxRecDepth 20000 in
theorem in_X4_ageOf_X4 : ∀ w ∈ u_ws RX4 TX4 11, w ∈ wsX4_ageOf := by decide +kernel
set_option maxHeartbeats 4000000 in
set_option maxRecDepth 100000 in
theorem c_X4_ageOf (l : Launch) (dC : Nat → ClassId) (dI : Nat → Nat → Nat) (cI cZ : ClassId) (a_o a_o_worth a_o_birth a_o_home a_o_kind a_o_wealth a_o_birth_cells : Nat) (v_o_houses : Int32) (v_o_children : Int32) (v_o_living : Int32) (v_o_sideBits : Int32) (v_o_inherited : Int32) (v_o_theYear : Int32) (f_o_birth_cells : Nat → Int32) (x1 : Int32) (u : Int32) (hf : f_X4_ageOf v_o_theYear f_o_birth_cells x1 = some u) : kMi l yX4_ageOf wsX4_ageOf rm_X4_ageOf (dC, dI) (kTy cI cZ) [.ref a_o, .int x1] [(a_o, .inr (4, [.int v_o_houses, .int v_o_children, .int v_o_living, .int v_o_sideBits, .int v_o_inherited, .int v_o_theYear, .ref a_o_worth, .ref a_o_birth, .ref a_o_home, .ref a_o_kind, .ref a_o_wealth])), (a_o_birth, .inr (1, [.ref a_o_birth_cells])), (a_o_birth_cells, .inl (cI, 7, .inl f_o_birth_cells))] [(a_o, .inr (4, [.int v_o_houses, .int v_o_children, .int v_o_living, .int v_o_sideBits, .int v_o_inherited, .int v_o_theYear, .ref a_o_worth, .ref a_o_birth, .ref a_o_home, .ref a_o_kind, .ref a_o_wealth])), (a_o_birth, .inr (1, [.ref a_o_birth_cells])), (a_o_birth_cells, .inl (cI, 7, .inl f_o_birth_cells))] u := by
  refine kMi_of sg_X4_ageOf ⟨rfl, rfl⟩ (Nat.le_of_ble_eq_true rfl) ?_
  intro p e s m args below meth c A H0 Q hx hb hml hown hts hK hN hA hend H locs ls hP hD hS hl
  have hl : lv_has ls 2 [(0, .ref a_o), (1, .int x1)] := hl
  have hk20 := hts (.fieldLink RX4 20 "YoungestHouse$Town" "birth" "LYoungestHouse$Row;") (by decide +kernel)
  have hk48 := hts (.fieldLink RX4 48 "YoungestHouse$Town" "theYear" "I") (by decide +kernel)
  unfold f_X4_ageOf at hf
  refine lv_aload_n hx hb dX4_ageOf_0 rfl (lv_at hl 0 rfl) ?_
  refine va_get (D := (dC, dI)) (ci := 4) (v := .int v_o_theYear) (C := RX4) (T := TX4) (N := 11) hx hb hts in_X4_ageOf_X4 hown hK hP 0 rfl rfl 5 (by decide) hk48 (fun _ h9 => h9) rfl dX4_ageOf_1 ?_
  refine lv_aload_n hx hb dX4_ageOf_4 rfl (lv_at hl 0 rfl) ?_
  refine va_get (D := (dC, dI)) (ci := 4) (v := .ref a_o_birth) (C := RX4) (T := TX4) (N := 11) hx hb hts in_X4_ageOf_X4 hown hK hP 0 rfl rfl 7 (by decide) hk20 (fun _ h9 => h9) rfl dX4_ageOf_5 ?_
  refine lv_iload_n hx hb dX4_ageOf_8 rfl (lv_at hl 1 rfl) ?_
  obtain ⟨u1, hu1, hf⟩ := kb1_e hf
  refine kc_i (wn := [(a_o, .inr (4, [.int v_o_houses, .int v_o_children, .int v_o_living, .int v_o_sideBits, .int v_o_inherited, .int v_o_theYear, .ref a_o_worth, .ref a_o_birth, .ref a_o_home, .ref a_o_kind, .ref a_o_wealth])), (a_o_birth, .inr (1, [.ref a_o_birth_cells])), (a_o_birth_cells, .inl (cI, 7, .inl f_o_birth_cells))]) (kr_V (As := [.int x1]) (rest := [.int v_o_theYear]) ⟨hx, hb, hml, hown, hts⟩ hK hN hP hD hl.1 (c_X1_get l dC dI cI cZ a_o_birth a_o_birth_cells 7 f_o_birth_cells x1 u1 hu1 H.size) sg_X1_get ⟨rfl, rfl⟩ ⟨Nat.le_of_ble_eq_true rfl, Nat.le_of_ble_eq_true rfl⟩ gX4_ageOf_X1_get 1 rfl rfl rfl [1, 2] (by decide) rfl rfl rfl (Nat.le_of_ble_eq_true rfl) dX4_ageOf_9 ⟨Nat.zero_le _, Nat.zero_le _⟩) hA hP hD hS [1, 2] rfl rfl rfl (fun H locs hP hD hS => ?_)
  refine lv_isub hx hb dX4_ageOf_12 ?_
  cases hf
  exact hend _ _ _ _ dX4_ageOf_13 rfl hP hS
theorem sg_X4_housesLeft : kSig yX4_housesLeft wsX4_housesLeft cX4_housesLeft 1 (some .int) RX4 0 := ⟨⟨_, rfl⟩, rfl, by decide, by decide +kernel, by decide +kernel, by decide +kernel⟩
abbrev rm_X4_housesLeft : Room := { frames := 1, cells := 0, slots := 0, locals := 20 }
set_option maxRecDepth 20000 in
theorem in_X4_housesLeft_X4 : ∀ w ∈ u_ws RX4 TX4 11, w ∈ wsX4_housesLeft := by decide +kernel
set_option maxHeartbeats 4000000 in
set_option maxRecDepth 100000 in
theorem c_X4_housesLeft (l : Launch) (dC : Nat → ClassId) (dI : Nat → Nat → Nat) (cI cZ : ClassId) (a_o a_o_worth a_o_birth a_o_home a_o_kind a_o_wealth : Nat) (v_o_houses : Int32) (v_o_children : Int32) (v_o_living : Int32) (v_o_sideBits : Int32) (v_o_inherited : Int32) (v_o_theYear : Int32)  (u : Int32) (hf : f_X4_housesLeft v_o_houses v_o_inherited = some u) : kMi l yX4_housesLeft wsX4_housesLeft rm_X4_housesLeft (dC, dI) (kTy cI cZ) [.ref a_o] [(a_o, .inr (4, [.int v_o_houses, .int v_o_children, .int v_o_living, .int v_o_sideBits, .int v_o_inherited, .int v_o_theYear, .ref a_o_worth, .ref a_o_birth, .ref a_o_home, .ref a_o_kind, .ref a_o_wealth]))] [(a_o, .inr (4, [.int v_o_houses, .int v_o_children, .int v_o_living, .int v_o_sideBits, .int v_o_inherited, .int v_o_theYear, .ref a_o_worth, .ref a_o_birth, .ref a_o_home, .ref a_o_kind, .ref a_o_wealth]))] u := by
  refine kMi_of sg_X4_housesLeft ⟨rfl, rfl⟩ (Nat.le_of_ble_eq_true rfl) ?_
  intro p e s m args below meth c A H0 Q hx hb hml hown hts hK hN hA hend H locs ls hP hD hS hl
  have hl : lv_has ls 1 [(0, .ref a_o)] := hl
  have hk32 := hts (.fieldLink RX4 32 "YoungestHouse$Town" "houses" "I") (by decide +kernel)
  have hk45 := hts (.fieldLink RX4 45 "YoungestHouse$Town" "inherited" "I") (by decide +kernel)
  unfold f_X4_housesLeft at hf
  refine lv_aload_n hx hb dX4_housesLeft_0 rfl (lv_at hl 0 rfl) ?_
  refine va_get (D := (dC, dI)) (ci := 4) (v := .int v_o_houses) (C := RX4) (T := TX4) (N := 11) hx hb hts in_X4_housesLeft_X4 hown hK hP 0 rfl rfl 0 (by decide) hk32 (fun _ h9 => h9) rfl dX4_housesLeft_1 ?_
  obtain ⟨u1, hu1, hf⟩ := kb1_e hf
  refine kc_i (wn := [(a_o, .inr (4, [.int v_o_houses, .int v_o_children, .int v_o_living, .int v_o_sideBits, .int v_o_inherited, .int v_o_theYear, .ref a_o_worth, .ref a_o_birth, .ref a_o_home, .ref a_o_kind, .ref a_o_wealth]))]) (kr_N (host := RX5) (As := [.int v_o_houses]) (rest := []) ⟨hx, hb, hml, hown, hts⟩ hK hN hP hD hl.1 (c_X5_bit l dC dI cI cZ v_o_houses u1 hu1 H.size) sg_X5_bit ⟨rfl, rfl⟩ ⟨Nat.le_of_ble_eq_true rfl, Nat.le_of_ble_eq_true rfl⟩ gX4_housesLeft_X5_bit_n67 (by decide +kernel) (by decide +kernel) (by decide +kernel) [] (by decide) rfl rfl rfl (Nat.le_of_ble_eq_true rfl) dX4_housesLeft_4 ⟨Nat.zero_le _, Nat.zero_le _⟩) hA hP hD hS [] rfl rfl rfl (fun H locs hP hD hS => ?_)
  refine lv_iconst (v := (1 : Int32)) hx hb dX4_housesLeft_7 (by decide) ?_
  refine lv_isub hx hb dX4_housesLeft_8 ?_
  refine lv_aload_n hx hb dX4_housesLeft_9 rfl (lv_at hl 0 rfl) ?_
  refine va_get (D := (dC, dI)) (ci := 4) (v := .int v_o_inherited) (C := RX4) (T := TX4) (N := 11) hx hb hts in_X4_housesLeft_X4 hown hK hP 0 rfl rfl 4 (by decide) hk45 (fun _ h9 => h9) rfl dX4_housesLeft_10 ?_
  refine lv_iconst (v := (-1 : Int32)) hx hb dX4_housesLeft_13 (by decide) ?_
  refine lv_ixor hx hb dX4_housesLeft_14 ?_
  refine lv_iand hx hb dX4_housesLeft_15 ?_
  cases hf
  exact hend _ _ _ _ dX4_housesLeft_16 rfl hP hS
theorem sg_X4_broodOf : kSig yX4_broodOf wsX4_broodOf cX4_broodOf 4 (some .int) RX4 1 := ⟨⟨_, rfl⟩, rfl, by decide, by decide +kernel, by decide +kernel, by decide +kernel⟩
abbrev rm_X4_broodOf : Room := { frames := 2, cells := 0, slots := 0, locals := 42 }
set_option maxRecDepth 20000 in
theorem in_X4_broodOf_X4 : ∀ w ∈ u_ws RX4 TX4 11, w ∈ wsX4_broodOf := by decide +kernel
set_option maxHeartbeats 4000000 in
set_option maxRecDepth 100000 in
theorem c_X4_broodOf (l : Launch) (dC : Nat → ClassId) (dI : Nat → Nat → Nat) (cI cZ : ClassId) (a_o a_o_worth a_o_birth a_o_home a_o_kind a_o_wealth a_o_home_cells : Nat) (v_o_houses : Int32) (v_o_children : Int32) (v_o_living : Int32) (v_o_sideBits : Int32) (v_o_inherited : Int32) (v_o_theYear : Int32) (f_o_home_cells : Nat → Int32) (x1 : Int32) (u : Int32) (hf : f_X4_broodOf v_o_children v_o_living f_o_home_cells x1 = some u) : kMi l yX4_broodOf wsX4_broodOf rm_X4_broodOf (dC, dI) (kTy cI cZ) [.ref a_o, .int x1] [(a_o, .inr (4, [.int v_o_houses, .int v_o_children, .int v_o_living, .int v_o_sideBits, .int v_o_inherited, .int v_o_theYear, .ref a_o_worth, .ref a_o_birth, .ref a_o_home, .ref a_o_kind, .ref a_o_wealth])), (a_o_home, .inr (1, [.ref a_o_home_cells])), (a_o_home_cells, .inl (cI, 7, .inl f_o_home_cells))] [(a_o, .inr (4, [.int v_o_houses, .int v_o_children, .int v_o_living, .int v_o_sideBits, .int v_o_inherited, .int v_o_theYear, .ref a_o_worth, .ref a_o_birth, .ref a_o_home, .ref a_o_kind, .ref a_o_wealth])), (a_o_home, .inr (1, [.ref a_o_home_cells])), (a_o_home_cells, .inl (cI, 7, .inl f_o_home_cells))] u := by
  refine kMi_of sg_X4_broodOf ⟨rfl, rfl⟩ (Nat.le_of_ble_eq_true rfl) ?_
  intro p e s m args below meth c A H0 Q hx hb hml hown hts hK hN hA hend H locs ls hP hD hS hl
  have hl : lv_has ls 4 [(0, .ref a_o), (1, .int x1)] := hl
  have hk23 := hts (.fieldLink RX4 23 "YoungestHouse$Town" "home" "LYoungestHouse$Row;") (by decide +kernel)
  have hk36 := hts (.fieldLink RX4 36 "YoungestHouse$Town" "children" "I") (by decide +kernel)
  have J_4 : ∀ (n_4 : Nat), ∀ (x2 : Int32) (x3 : Int32) (H : Heap) (locs : List Loc) (ls : Array Slot), va_P (dC, dI) vwCl [(a_o, .inr (4, [.int v_o_houses, .int v_o_children, .int v_o_living, .int v_o_sideBits, .int v_o_inherited, .int v_o_theYear, .ref a_o_worth, .ref a_o_birth, .ref a_o_home, .ref a_o_kind, .ref a_o_wealth])), (a_o_home, .inr (1, [.ref a_o_home_cells])), (a_o_home_cells, .inl (cI, 7, .inl f_o_home_cells))] H → va_D A [(a_o, .inr (4, [.int v_o_houses, .int v_o_children, .int v_o_living, .int v_o_sideBits, .int v_o_inherited, .int v_o_theYear, .ref a_o_worth, .ref a_o_birth, .ref a_o_home, .ref a_o_kind, .ref a_o_wealth])), (a_o_home, .inr (1, [.ref a_o_home_cells])), (a_o_home_cells, .inl (cI, 7, .inl f_o_home_cells))] → va_S A H0 H locs → lv_has ls 4 [(0, .ref a_o), (1, .int x1), (2, .int x2), (3, .int x3)] → f_X4_broodOf_4 v_o_children v_o_living f_o_home_cells x1 n_4 x2 x3 = some u → W p l e rm_X4_broodOf s m args below meth c H locs 0 0 Q (F0 m 4 ls []) := by
    intro n_4
    induction n_4 with
    | zero => intro x2 x3 H locs ls hP hD hS hl hf; exact nomatch hf
    | succ n_4 ih_4 =>
      intro x2 x3 H locs ls hP hD hS hl hf
      have hf : f_X4_broodOf_4_b v_o_children v_o_living f_o_home_cells x1 (f_X4_broodOf_4 v_o_children v_o_living f_o_home_cells x1 n_4) x2 x3 = some u := hf
      unfold f_X4_broodOf_4_b at hf
      refine lv_iload_n hx hb dX4_broodOf_4 rfl (lv_at hl 3 rfl) ?_
      refine lv_aload_n hx hb dX4_broodOf_5 rfl (lv_at hl 0 rfl) ?_
      refine va_get (D := (dC, dI)) (ci := 4) (v := .int v_o_children) (C := RX4) (T := TX4) (N := 11) hx hb hts in_X4_broodOf_X4 hown hK hP 0 rfl rfl 1 (by decide) hk36 (fun _ h9 => h9) rfl dX4_broodOf_6 ?_
      refine lv_icmp_ge (tgt := 52) hx hb dX4_broodOf_9 (by decide) (fun c1 => ?_) (fun c1 => ?_)
      · replace hf := kt c1 hf
        refine lv_iload_n hx hb dX4_broodOf_52 rfl (lv_at hl 2 rfl) ?_
        cases hf
        exact hend _ _ _ _ dX4_broodOf_53 rfl hP hS
      · replace hf := kf c1 hf
        refine lv_aload_n hx hb dX4_broodOf_12 rfl (lv_at hl 0 rfl) ?_
        refine lv_iload_n hx hb dX4_broodOf_13 rfl (lv_at hl 3 rfl) ?_
        obtain ⟨u2, hu2, hf⟩ := kb1_e hf
        refine kc_i (wn := [(a_o, .inr (4, [.int v_o_houses, .int v_o_children, .int v_o_living, .int v_o_sideBits, .int v_o_inherited, .int v_o_theYear, .ref a_o_worth, .ref a_o_birth, .ref a_o_home, .ref a_o_kind, .ref a_o_wealth])), (a_o_home, .inr (1, [.ref a_o_home_cells])), (a_o_home_cells, .inl (cI, 7, .inl f_o_home_cells))]) (kr_V (As := [.int x3]) (rest := []) ⟨hx, hb, hml, hown, hts⟩ hK hN hP hD hl.1 (c_X4_isAlive l dC dI cI cZ a_o a_o_worth a_o_birth a_o_home a_o_kind a_o_wealth v_o_houses v_o_children v_o_living v_o_sideBits v_o_inherited v_o_theYear x3 u2 hu2 H.size) sg_X4_isAlive ⟨rfl, rfl⟩ ⟨Nat.le_of_ble_eq_true rfl, Nat.le_of_ble_eq_true rfl⟩ gX4_broodOf_X4_isAlive 0 rfl rfl rfl [0] (by decide) rfl rfl rfl (Nat.le_of_ble_eq_true rfl) dX4_broodOf_14 ⟨Nat.zero_le _, Nat.zero_le _⟩) hA hP hD hS [0] rfl rfl rfl (fun H locs hP hD hS => ?_)
        refine lv_if_eq (tgt := 46) hx hb dX4_broodOf_17 (by decide) (fun c3 => ?_) (fun c3 => ?_)
        · replace hf := kt c3 hf
          refine lv_iinc (v := (x3 + (1 : Int32))) (lv' := [(3, .int (x3 + (1 : Int32))), (0, .ref a_o), (1, .int x1), (2, .int x2)]) hx hb dX4_broodOf_46 hl (k := 3) rfl rfl (by decide) rfl (fun ls hl => ?_)
          refine lv_goto (tgt := 4) hx hb dX4_broodOf_49 (by decide) ?_
          exact ih_4 x2 (x3 + (1 : Int32)) H locs ls hP hD hS (lv_sub hl [1, 2, 3, 0] rfl) hf
        · replace hf := kf c3 hf
          refine lv_aload_n hx hb dX4_broodOf_20 rfl (lv_at hl 0 rfl) ?_
          refine va_get (D := (dC, dI)) (ci := 4) (v := .ref a_o_home) (C := RX4) (T := TX4) (N := 11) hx hb hts in_X4_broodOf_X4 hown hK hP 0 rfl rfl 8 (by decide) hk23 (fun _ h9 => h9) rfl dX4_broodOf_21 ?_
          refine lv_iload_n hx hb dX4_broodOf_24 rfl (lv_at hl 3 rfl) ?_
          obtain ⟨u4, hu4, hf⟩ := kb1_e hf
          refine kc_i (wn := [(a_o, .inr (4, [.int v_o_houses, .int v_o_children, .int v_o_living, .int v_o_sideBits, .int v_o_inherited, .int v_o_theYear, .ref a_o_worth, .ref a_o_birth, .ref a_o_home, .ref a_o_kind, .ref a_o_wealth])), (a_o_home, .inr (1, [.ref a_o_home_cells])), (a_o_home_cells, .inl (cI, 7, .inl f_o_home_cells))]) (kr_V (As := [.int x3]) (rest := []) ⟨hx, hb, hml, hown, hts⟩ hK hN hP hD hl.1 (c_X1_get l dC dI cI cZ a_o_home a_o_home_cells 7 f_o_home_cells x3 u4 hu4 H.size) sg_X1_get ⟨rfl, rfl⟩ ⟨Nat.le_of_ble_eq_true rfl, Nat.le_of_ble_eq_true rfl⟩ gX4_broodOf_X1_get 1 rfl rfl rfl [1, 2] (by decide) rfl rfl rfl (Nat.le_of_ble_eq_true rfl) dX4_broodOf_25 ⟨Nat.zero_le _, Nat.zero_le _⟩) hA hP hD hS [1, 2] rfl rfl rfl (fun H locs hP hD hS => ?_)
          refine lv_aload_n hx hb dX4_broodOf_28 rfl (lv_at hl 0 rfl) ?_
          refine va_get (D := (dC, dI)) (ci := 4) (v := .ref a_o_home) (C := RX4) (T := TX4) (N := 11) hx hb hts in_X4_broodOf_X4 hown hK hP 0 rfl rfl 8 (by decide) hk23 (fun _ h9 => h9) rfl dX4_broodOf_29 ?_
          refine lv_iload_n hx hb dX4_broodOf_32 rfl (lv_at hl 1 rfl) ?_
          obtain ⟨u5, hu5, hf⟩ := kb1_e hf
          refine kc_i (wn := [(a_o, .inr (4, [.int v_o_houses, .int v_o_children, .int v_o_living, .int v_o_sideBits, .int v_o_inherited, .int v_o_theYear, .ref a_o_worth, .ref a_o_birth, .ref a_o_home, .ref a_o_kind, .ref a_o_wealth])), (a_o_home, .inr (1, [.ref a_o_home_cells])), (a_o_home_cells, .inl (cI, 7, .inl f_o_home_cells))]) (kr_V (As := [.int x1]) (rest := [.int u4]) ⟨hx, hb, hml, hown, hts⟩ hK hN hP hD hl.1 (c_X1_get l dC dI cI cZ a_o_home a_o_home_cells 7 f_o_home_cells x1 u5 hu5 H.size) sg_X1_get ⟨rfl, rfl⟩ ⟨Nat.le_of_ble_eq_true rfl, Nat.le_of_ble_eq_true rfl⟩ gX4_broodOf_X1_get 1 rfl rfl rfl [1, 2] (by decide) rfl rfl rfl (Nat.le_of_ble_eq_true rfl) dX4_broodOf_33 ⟨Nat.zero_le _, Nat.zero_le _⟩) hA hP hD hS [1, 2] rfl rfl rfl (fun H locs hP hD hS => ?_)
          refine lv_icmp_ne (tgt := 46) hx hb dX4_broodOf_36 (by decide) (fun c6 => ?_) (fun c6 => ?_)
          · replace hf := kf c6 hf
            refine lv_iinc (v := (x3 + (1 : Int32))) (lv' := [(3, .int (x3 + (1 : Int32))), (0, .ref a_o), (1, .int x1), (2, .int x2)]) hx hb dX4_broodOf_46 hl (k := 3) rfl rfl (by decide) rfl (fun ls hl => ?_)
            refine lv_goto (tgt := 4) hx hb dX4_broodOf_49 (by decide) ?_
            exact ih_4 x2 (x3 + (1 : Int32)) H locs ls hP hD hS (lv_sub hl [1, 2, 3, 0] rfl) hf
          · replace hf := kt c6 hf
            refine lv_iload_n hx hb dX4_broodOf_39 rfl (lv_at hl 2 rfl) ?_
            refine lv_iload_n hx hb dX4_broodOf_40 rfl (lv_at hl 3 rfl) ?_
            obtain ⟨u7, hu7, hf⟩ := kb1_e hf
            refine kc_i (wn := [(a_o, .inr (4, [.int v_o_houses, .int v_o_children, .int v_o_living, .int v_o_sideBits, .int v_o_inherited, .int v_o_theYear, .ref a_o_worth, .ref a_o_birth, .ref a_o_home, .ref a_o_kind, .ref a_o_wealth])), (a_o_home, .inr (1, [.ref a_o_home_cells])), (a_o_home_cells, .inl (cI, 7, .inl f_o_home_cells))]) (kr_N (host := RX5) (As := [.int x3]) (rest := [.int x2]) ⟨hx, hb, hml, hown, hts⟩ hK hN hP hD hl.1 (c_X5_bit l dC dI cI cZ x3 u7 hu7 H.size) sg_X5_bit ⟨rfl, rfl⟩ ⟨Nat.le_of_ble_eq_true rfl, Nat.le_of_ble_eq_true rfl⟩ gX4_broodOf_X5_bit_n67 (by decide +kernel) (by decide +kernel) (by decide +kernel) [] (by decide) rfl rfl rfl (Nat.le_of_ble_eq_true rfl) dX4_broodOf_41 ⟨Nat.zero_le _, Nat.zero_le _⟩) hA hP hD hS [] rfl rfl rfl (fun H locs hP hD hS => ?_)
            refine lv_ior hx hb dX4_broodOf_44 ?_
            refine lv_istore_n (lv' := [(2, .int (x2 ||| u7)), (0, .ref a_o), (1, .int x1), (3, .int x3)]) hx hb dX4_broodOf_45 rfl hl (by decide) rfl (fun ls hl => ?_)
            refine lv_iinc (v := (x3 + (1 : Int32))) (lv' := [(3, .int (x3 + (1 : Int32))), (2, .int (x2 ||| u7)), (0, .ref a_o), (1, .int x1)]) hx hb dX4_broodOf_46 hl (k := 3) rfl rfl (by decide) rfl (fun ls hl => ?_)
            refine lv_goto (tgt := 4) hx hb dX4_broodOf_49 (by decide) ?_
            exact ih_4 (x2 ||| u7) (x3 + (1 : Int32)) H locs ls hP hD hS (lv_sub hl [2, 3, 1, 0] rfl) hf
  unfold f_X4_broodOf at hf
  refine lv_iconst (v := (0 : Int32)) hx hb dX4_broodOf_0 (by decide) ?_
  refine lv_istore_n (lv' := [(2, .int (0 : Int32)), (0, .ref a_o), (1, .int x1)]) hx hb dX4_broodOf_1 rfl hl (by decide) rfl (fun ls hl => ?_)
  refine lv_iconst (v := (0 : Int32)) hx hb dX4_broodOf_2 (by decide) ?_
  refine lv_istore_n (lv' := [(3, .int (0 : Int32)), (2, .int (0 : Int32)), (0, .ref a_o), (1, .int x1)]) hx hb dX4_broodOf_3 rfl hl (by decide) rfl (fun ls hl => ?_)
  exact J_4 1000 (0 : Int32) (0 : Int32) H locs ls hP hD hS (lv_sub hl [2, 3, 1, 0] rfl) hf
theorem sg_X4_canPass : kSig yX4_canPass wsX4_canPass cX4_canPass 2 (some .boolean) RX4 1 := ⟨⟨_, rfl⟩, rfl, by decide, by decide +kernel, by decide +kernel, by decide +kernel⟩
abbrev rm_X4_canPass : Room := { frames := 4, cells := 0, slots := 0, locals := 96 }
set_option maxRecDepth 20000 in
theorem in_X4_canPass_X4 : ∀ w ∈ u_ws RX4 TX4 11, w ∈ wsX4_canPass := by decide +kernel
set_option maxHeartbeats 4000000 in
set_option maxRecDepth 100000 in
theorem c_X4_canPass (l : Launch) (dC : Nat → ClassId) (dI : Nat → Nat → Nat) (cI cZ : ClassId) (a_o a_o_worth a_o_birth a_o_home a_o_kind a_o_wealth a_o_birth_cells a_o_home_cells a_o_kind_cells : Nat) (v_o_houses : Int32) (v_o_children : Int32) (v_o_living : Int32) (v_o_sideBits : Int32) (v_o_inherited : Int32) (v_o_theYear : Int32) (f_o_birth_cells : Nat → Int32) (f_o_home_cells : Nat → Int32) (f_o_kind_cells : Nat → Int32) (x1 : Int32) (u : Int32) (hf : f_X4_canPass v_o_houses v_o_children v_o_living v_o_inherited f_o_birth_cells f_o_home_cells f_o_kind_cells x1 = some u) : kMi l yX4_canPass wsX4_canPass rm_X4_canPass (dC, dI) (kTy cI cZ) [.ref a_o, .int x1] [(a_o, .inr (4, [.int v_o_houses, .int v_o_children, .int v_o_living, .int v_o_sideBits, .int v_o_inherited, .int v_o_theYear, .ref a_o_worth, .ref a_o_birth, .ref a_o_home, .ref a_o_kind, .ref a_o_wealth])), (a_o_birth, .inr (1, [.ref a_o_birth_cells])), (a_o_birth_cells, .inl (cI, 7, .inl f_o_birth_cells)), (a_o_home, .inr (1, [.ref a_o_home_cells])), (a_o_home_cells, .inl (cI, 7, .inl f_o_home_cells)), (a_o_kind, .inr (1, [.ref a_o_kind_cells])), (a_o_kind_cells, .inl (cI, 7, .inl f_o_kind_cells))] [(a_o, .inr (4, [.int v_o_houses, .int v_o_children, .int v_o_living, .int v_o_sideBits, .int v_o_inherited, .int v_o_theYear, .ref a_o_worth, .ref a_o_birth, .ref a_o_home, .ref a_o_kind, .ref a_o_wealth])), (a_o_birth, .inr (1, [.ref a_o_birth_cells])), (a_o_birth_cells, .inl (cI, 7, .inl f_o_birth_cells)), (a_o_home, .inr (1, [.ref a_o_home_cells])), (a_o_home_cells, .inl (cI, 7, .inl f_o_home_cells)), (a_o_kind, .inr (1, [.ref a_o_kind_cells])), (a_o_kind_cells, .inl (cI, 7, .inl f_o_kind_cells))] u := by
  refine kMi_of sg_X4_canPass ⟨rfl, rfl⟩ (Nat.le_of_ble_eq_true rfl) ?_
  intro p e s m args below meth c A H0 Q hx hb hml hown hts hK hN hA hend H locs ls hP hD hS hl
  have hl : lv_has ls 2 [(0, .ref a_o), (1, .int x1)] := hl
  have hk39 := hts (.fieldLink RX4 39 "YoungestHouse$Town" "living" "I") (by decide +kernel)
  have hk45 := hts (.fieldLink RX4 45 "YoungestHouse$Town" "inherited" "I") (by decide +kernel)
  unfold f_X4_canPass at hf
  refine lv_aload_n hx hb dX4_canPass_0 rfl (lv_at hl 0 rfl) ?_
  refine lv_iload_n hx hb dX4_canPass_1 rfl (lv_at hl 1 rfl) ?_
  obtain ⟨u1, hu1, hf⟩ := kb1_e hf
  refine kc_i (wn := [(a_o, .inr (4, [.int v_o_houses, .int v_o_children, .int v_o_living, .int v_o_sideBits, .int v_o_inherited, .int v_o_theYear, .ref a_o_worth, .ref a_o_birth, .ref a_o_home, .ref a_o_kind, .ref a_o_wealth])), (a_o_birth, .inr (1, [.ref a_o_birth_cells])), (a_o_birth_cells, .inl (cI, 7, .inl f_o_birth_cells)), (a_o_home, .inr (1, [.ref a_o_home_cells])), (a_o_home_cells, .inl (cI, 7, .inl f_o_home_cells)), (a_o_kind, .inr (1, [.ref a_o_kind_cells])), (a_o_kind_cells, .inl (cI, 7, .inl f_o_kind_cells))]) (kr_V (As := [.int x1]) (rest := []) ⟨hx, hb, hml, hown, hts⟩ hK hN hP hD hl.1 (c_X4_hasHouse l dC dI cI cZ a_o a_o_worth a_o_birth a_o_home a_o_kind a_o_wealth v_o_houses v_o_children v_o_living v_o_sideBits v_o_inherited v_o_theYear x1 u1 hu1 H.size) sg_X4_hasHouse ⟨rfl, rfl⟩ ⟨Nat.le_of_ble_eq_true rfl, Nat.le_of_ble_eq_true rfl⟩ gX4_canPass_X4_hasHouse 0 rfl rfl rfl [0] (by decide) rfl rfl rfl (Nat.le_of_ble_eq_true rfl) dX4_canPass_2 ⟨Nat.zero_le _, Nat.zero_le _⟩) hA hP hD hS [0] rfl rfl rfl (fun H locs hP hD hS => ?_)
  refine lv_if_eq (tgt := 36) hx hb dX4_canPass_5 (by decide) (fun c2 => ?_) (fun c2 => ?_)
  · replace hf := kt c2 hf
    refine lv_iconst (v := (0 : Int32)) hx hb dX4_canPass_36 (by decide) ?_
    cases hf
    exact hend _ _ _ _ dX4_canPass_37 rfl hP hS
  · replace hf := kf c2 hf
    refine lv_aload_n hx hb dX4_canPass_8 rfl (lv_at hl 0 rfl) ?_
    refine va_get (D := (dC, dI)) (ci := 4) (v := .int v_o_inherited) (C := RX4) (T := TX4) (N := 11) hx hb hts in_X4_canPass_X4 hown hK hP 0 rfl rfl 4 (by decide) hk45 (fun _ h9 => h9) rfl dX4_canPass_9 ?_
    refine lv_iload_n hx hb dX4_canPass_12 rfl (lv_at hl 1 rfl) ?_
    obtain ⟨u3, hu3, hf⟩ := kb1_e hf
    refine kc_i (wn := [(a_o, .inr (4, [.int v_o_houses, .int v_o_children, .int v_o_living, .int v_o_sideBits, .int v_o_inherited, .int v_o_theYear, .ref a_o_worth, .ref a_o_birth, .ref a_o_home, .ref a_o_kind, .ref a_o_wealth])), (a_o_birth, .inr (1, [.ref a_o_birth_cells])), (a_o_birth_cells, .inl (cI, 7, .inl f_o_birth_cells)), (a_o_home, .inr (1, [.ref a_o_home_cells])), (a_o_home_cells, .inl (cI, 7, .inl f_o_home_cells)), (a_o_kind, .inr (1, [.ref a_o_kind_cells])), (a_o_kind_cells, .inl (cI, 7, .inl f_o_kind_cells))]) (kr_N (host := RX5) (As := [.int v_o_inherited, .int x1]) (rest := []) ⟨hx, hb, hml, hown, hts⟩ hK hN hP hD hl.1 (c_X5_isIn l dC dI cI cZ v_o_inherited x1 u3 hu3 H.size) sg_X5_isIn ⟨rfl, rfl⟩ ⟨Nat.le_of_ble_eq_true rfl, Nat.le_of_ble_eq_true rfl⟩ gX4_canPass_X5_isIn_n59 (by decide +kernel) (by decide +kernel) (by decide +kernel) [] (by decide) rfl rfl rfl (Nat.le_of_ble_eq_true rfl) dX4_canPass_13 ⟨Nat.zero_le _, Nat.zero_le _⟩) hA hP hD hS [] rfl rfl rfl (fun H locs hP hD hS => ?_)
    refine lv_if_ne (tgt := 36) hx hb dX4_canPass_16 (by decide) (fun c4 => ?_) (fun c4 => ?_)
    · replace hf := kf c4 hf
      refine lv_iconst (v := (0 : Int32)) hx hb dX4_canPass_36 (by decide) ?_
      cases hf
      exact hend _ _ _ _ dX4_canPass_37 rfl hP hS
    · replace hf := kt c4 hf
      refine lv_aload_n hx hb dX4_canPass_19 rfl (lv_at hl 0 rfl) ?_
      refine lv_iload_n hx hb dX4_canPass_20 rfl (lv_at hl 1 rfl) ?_
      refine lv_iconst (v := (0 : Int32)) hx hb dX4_canPass_21 (by decide) ?_
      refine lv_aload_n hx hb dX4_canPass_22 rfl (lv_at hl 0 rfl) ?_
      refine va_get (D := (dC, dI)) (ci := 4) (v := .int v_o_living) (C := RX4) (T := TX4) (N := 11) hx hb hts in_X4_canPass_X4 hown hK hP 0 rfl rfl 2 (by decide) hk39 (fun _ h9 => h9) rfl dX4_canPass_23 ?_
      obtain ⟨u5, hu5, hf⟩ := kb1_e hf
      refine kc_i (wn := [(a_o, .inr (4, [.int v_o_houses, .int v_o_children, .int v_o_living, .int v_o_sideBits, .int v_o_inherited, .int v_o_theYear, .ref a_o_worth, .ref a_o_birth, .ref a_o_home, .ref a_o_kind, .ref a_o_wealth])), (a_o_birth, .inr (1, [.ref a_o_birth_cells])), (a_o_birth_cells, .inl (cI, 7, .inl f_o_birth_cells)), (a_o_home, .inr (1, [.ref a_o_home_cells])), (a_o_home_cells, .inl (cI, 7, .inl f_o_home_cells)), (a_o_kind, .inr (1, [.ref a_o_kind_cells])), (a_o_kind_cells, .inl (cI, 7, .inl f_o_kind_cells))]) (kr_V (As := [.int x1, .int (0 : Int32), .int v_o_living]) (rest := []) ⟨hx, hb, hml, hown, hts⟩ hK hN hP hD hl.1 (c_X4_heirsAmong l dC dI cI cZ a_o a_o_worth a_o_birth a_o_home a_o_kind a_o_wealth a_o_birth_cells a_o_home_cells a_o_kind_cells v_o_houses v_o_children v_o_living v_o_sideBits v_o_inherited v_o_theYear f_o_birth_cells f_o_home_cells f_o_kind_cells x1 (0 : Int32) v_o_living u5 hu5 H.size) sg_X4_heirsAmong ⟨rfl, rfl⟩ ⟨Nat.le_of_ble_eq_true rfl, Nat.le_of_ble_eq_true rfl⟩ gX4_canPass_X4_heirsAmong 0 rfl rfl rfl [0, 1, 2, 3, 4, 5, 6] (by decide) rfl rfl rfl (Nat.le_of_ble_eq_true rfl) dX4_canPass_26 ⟨Nat.zero_le _, Nat.zero_le _⟩) hA hP hD hS [0, 1, 2, 3, 4, 5, 6] rfl rfl rfl (fun H locs hP hD hS => ?_)
      refine lv_if_eq (tgt := 36) hx hb dX4_canPass_29 (by decide) (fun c6 => ?_) (fun c6 => ?_)
      · replace hf := kt c6 hf
        refine lv_iconst (v := (0 : Int32)) hx hb dX4_canPass_36 (by decide) ?_
        cases hf
        exact hend _ _ _ _ dX4_canPass_37 rfl hP hS
      · replace hf := kf c6 hf
        refine lv_iconst (v := (1 : Int32)) hx hb dX4_canPass_32 (by decide) ?_
        refine lv_goto (tgt := 37) hx hb dX4_canPass_33 (by decide) ?_
        cases hf
        exact hend _ _ _ _ dX4_canPass_37 rfl hP hS
theorem sg_X4_passTo : kSig yX4_passTo wsX4_passTo cX4_passTo 3 none RX4 2 := ⟨⟨_, rfl⟩, rfl, by decide, by decide +kernel, by decide +kernel, by decide +kernel⟩
abbrev rm_X4_passTo : Room := { frames := 2, cells := 0, slots := 0, locals := 45 }
set_option maxRecDepth 20000 in
theorem in_X4_passTo_X4 : ∀ w ∈ u_ws RX4 TX4 11, w ∈ wsX4_passTo := by decide +kernel
set_option maxHeartbeats 4000000 in
set_option maxRecDepth 100000 in
theorem c_X4_passTo (l : Launch) (dC : Nat → ClassId) (dI : Nat → Nat → Nat) (cI cZ : ClassId) (a_o a_o_worth a_o_birth a_o_home a_o_kind a_o_wealth a_o_worth_cells a_o_wealth_cells : Nat) (v_o_houses : Int32) (v_o_children : Int32) (v_o_living : Int32) (v_o_sideBits : Int32) (v_o_inherited : Int32) (v_o_theYear : Int32) (f_o_worth_cells : Nat → Int32) (f_o_wealth_cells : Nat → Int32) (x1 : Int32) (x2 : Int32) (u : Int32 × (Nat → Int32)) (hf : f_X4_passTo v_o_children f_o_worth_cells v_o_inherited f_o_wealth_cells x1 x2 = some u) : kMv l yX4_passTo wsX4_passTo rm_X4_passTo (dC, dI) (kTy cI cZ) [.ref a_o, .int x1, .int x2] [(a_o, .inr (4, [.int v_o_houses, .int v_o_children, .int v_o_living, .int v_o_sideBits, .int v_o_inherited, .int v_o_theYear, .ref a_o_worth, .ref a_o_birth, .ref a_o_home, .ref a_o_kind, .ref a_o_wealth])), (a_o_worth, .inr (1, [.ref a_o_worth_cells])), (a_o_worth_cells, .inl (cI, 3, .inl f_o_worth_cells)), (a_o_wealth, .inr (1, [.ref a_o_wealth_cells])), (a_o_wealth_cells, .inl (cI, 7, .inl f_o_wealth_cells))] [(a_o, .inr (4, [.int v_o_houses, .int v_o_children, .int v_o_living, .int v_o_sideBits, .int u.1, .int v_o_theYear, .ref a_o_worth, .ref a_o_birth, .ref a_o_home, .ref a_o_kind, .ref a_o_wealth])), (a_o_worth, .inr (1, [.ref a_o_worth_cells])), (a_o_worth_cells, .inl (cI, 3, .inl f_o_worth_cells)), (a_o_wealth, .inr (1, [.ref a_o_wealth_cells])), (a_o_wealth_cells, .inl (cI, 7, .inl u.2))]  := by
  refine kMv_of sg_X4_passTo ⟨rfl, rfl⟩ (Nat.le_of_ble_eq_true rfl) ?_
  intro p e s m args below meth c A H0 Q hx hb hml hown hts hK hN hA hend H locs ls hP hD hS hl
  have hl : lv_has ls 3 [(0, .ref a_o), (1, .int x1), (2, .int x2)] := hl
  have hk45 := hts (.fieldLink RX4 45 "YoungestHouse$Town" "inherited" "I") (by decide +kernel)
  unfold f_X4_passTo at hf
  refine lv_aload_n hx hb dX4_passTo_0 rfl (lv_at hl 0 rfl) ?_
  refine lv_dup hx hb dX4_passTo_1 rfl ?_
  refine va_get (D := (dC, dI)) (ci := 4) (v := .int v_o_inherited) (C := RX4) (T := TX4) (N := 11) hx hb hts in_X4_passTo_X4 hown hK hP 0 rfl rfl 4 (by decide) hk45 (fun _ h9 => h9) rfl dX4_passTo_2 ?_
  refine lv_iload_n hx hb dX4_passTo_5 rfl (lv_at hl 1 rfl) ?_
  obtain ⟨u1, hu1, hf⟩ := kb1_e hf
  refine kc_i (wn := [(a_o, .inr (4, [.int v_o_houses, .int v_o_children, .int v_o_living, .int v_o_sideBits, .int v_o_inherited, .int v_o_theYear, .ref a_o_worth, .ref a_o_birth, .ref a_o_home, .ref a_o_kind, .ref a_o_wealth])), (a_o_worth, .inr (1, [.ref a_o_worth_cells])), (a_o_worth_cells, .inl (cI, 3, .inl f_o_worth_cells)), (a_o_wealth, .inr (1, [.ref a_o_wealth_cells])), (a_o_wealth_cells, .inl (cI, 7, .inl f_o_wealth_cells))]) (kr_N (host := RX5) (As := [.int x1]) (rest := [.int v_o_inherited, .ref a_o]) ⟨hx, hb, hml, hown, hts⟩ hK hN hP hD hl.1 (c_X5_bit l dC dI cI cZ x1 u1 hu1 H.size) sg_X5_bit ⟨rfl, rfl⟩ ⟨Nat.le_of_ble_eq_true rfl, Nat.le_of_ble_eq_true rfl⟩ gX4_passTo_X5_bit_n67 (by decide +kernel) (by decide +kernel) (by decide +kernel) [] (by decide) rfl rfl rfl (Nat.le_of_ble_eq_true rfl) dX4_passTo_6 ⟨Nat.zero_le _, Nat.zero_le _⟩) hA hP hD hS [] rfl rfl rfl (fun H locs hP hD hS => ?_)
  refine lv_ior hx hb dX4_passTo_9 ?_
  refine va_put (D := (dC, dI)) (ci := 4) (v := .int (v_o_inherited ||| u1)) (ty := .int) (C := RX4) (T := TX4) (N := 11) hx hb hts in_X4_passTo_X4 tyX4 tyX4_ok nmX4 hown hK hP hD hS 0 rfl rfl 4 (by decide) hk45 (fun _ h9 => h9) rfl (by decide +kernel) rfl rfl (Nat.le_of_ble_eq_true rfl) dX4_passTo_10 (fun H locs hP hD hS => ?_)
  have hP : va_P (dC, dI) vwCl [(a_o, .inr (4, [.int v_o_houses, .int v_o_children, .int v_o_living, .int v_o_sideBits, .int (v_o_inherited ||| u1), .int v_o_theYear, .ref a_o_worth, .ref a_o_birth, .ref a_o_home, .ref a_o_kind, .ref a_o_wealth])), (a_o_worth, .inr (1, [.ref a_o_worth_cells])), (a_o_worth_cells, .inl (cI, 3, .inl f_o_worth_cells)), (a_o_wealth, .inr (1, [.ref a_o_wealth_cells])), (a_o_wealth_cells, .inl (cI, 7, .inl f_o_wealth_cells))] H := hP
  have hD : va_D A [(a_o, .inr (4, [.int v_o_houses, .int v_o_children, .int v_o_living, .int v_o_sideBits, .int (v_o_inherited ||| u1), .int v_o_theYear, .ref a_o_worth, .ref a_o_birth, .ref a_o_home, .ref a_o_kind, .ref a_o_wealth])), (a_o_worth, .inr (1, [.ref a_o_worth_cells])), (a_o_worth_cells, .inl (cI, 3, .inl f_o_worth_cells)), (a_o_wealth, .inr (1, [.ref a_o_wealth_cells])), (a_o_wealth_cells, .inl (cI, 7, .inl f_o_wealth_cells))] := hD
  refine lv_aload_n hx hb dX4_passTo_13 rfl (lv_at hl 0 rfl) ?_
  refine lv_iload_n hx hb dX4_passTo_14 rfl (lv_at hl 2 rfl) ?_
  refine lv_aload_n hx hb dX4_passTo_15 rfl (lv_at hl 0 rfl) ?_
  refine lv_iload_n hx hb dX4_passTo_16 rfl (lv_at hl 1 rfl) ?_
  refine lv_iload_n hx hb dX4_passTo_17 rfl (lv_at hl 2 rfl) ?_
  obtain ⟨u2, hu2, hf⟩ := kb1_e hf
  refine kc_i (wn := [(a_o, .inr (4, [.int v_o_houses, .int v_o_children, .int v_o_living, .int v_o_sideBits, .int (v_o_inherited ||| u1), .int v_o_theYear, .ref a_o_worth, .ref a_o_birth, .ref a_o_home, .ref a_o_kind, .ref a_o_wealth])), (a_o_worth, .inr (1, [.ref a_o_worth_cells])), (a_o_worth_cells, .inl (cI, 3, .inl f_o_worth_cells)), (a_o_wealth, .inr (1, [.ref a_o_wealth_cells])), (a_o_wealth_cells, .inl (cI, 7, .inl f_o_wealth_cells))]) (kr_V (As := [.int x1, .int x2]) (rest := [.int x2, .ref a_o]) ⟨hx, hb, hml, hown, hts⟩ hK hN hP hD hl.1 (c_X4_partOf l dC dI cI cZ a_o a_o_worth a_o_birth a_o_home a_o_kind a_o_wealth a_o_worth_cells v_o_houses v_o_children v_o_living v_o_sideBits (v_o_inherited ||| u1) v_o_theYear f_o_worth_cells x1 x2 u2 hu2 H.size) sg_X4_partOf ⟨rfl, rfl⟩ ⟨Nat.le_of_ble_eq_true rfl, Nat.le_of_ble_eq_true rfl⟩ gX4_passTo_X4_partOf 0 rfl rfl rfl [0, 1, 2] (by decide) rfl rfl rfl (Nat.le_of_ble_eq_true rfl) dX4_passTo_18 ⟨Nat.zero_le _, Nat.zero_le _⟩) hA hP hD hS [0, 1, 2] rfl rfl rfl (fun H locs hP hD hS => ?_)
  obtain ⟨u3, hu3, hf⟩ := kb1_e hf
  refine kc_v (wn := [(a_o, .inr (4, [.int v_o_houses, .int v_o_children, .int v_o_living, .int v_o_sideBits, .int (v_o_inherited ||| u1), .int v_o_theYear, .ref a_o_worth, .ref a_o_birth, .ref a_o_home, .ref a_o_kind, .ref a_o_wealth])), (a_o_worth, .inr (1, [.ref a_o_worth_cells])), (a_o_worth_cells, .inl (cI, 3, .inl f_o_worth_cells)), (a_o_wealth, .inr (1, [.ref a_o_wealth_cells])), (a_o_wealth_cells, .inl (cI, 7, .inl u3))]) (kr_V (As := [.int x2, .int u2]) (rest := []) ⟨hx, hb, hml, hown, hts⟩ hK hN hP hD hl.1 (c_X4_enrich l dC dI cI cZ a_o a_o_worth a_o_birth a_o_home a_o_kind a_o_wealth a_o_wealth_cells v_o_houses v_o_children v_o_living v_o_sideBits (v_o_inherited ||| u1) v_o_theYear f_o_wealth_cells x2 u2 u3 hu3 H.size) sg_X4_enrich ⟨rfl, rfl⟩ ⟨Nat.le_of_ble_eq_true rfl, Nat.le_of_ble_eq_true rfl⟩ gX4_passTo_X4_enrich 0 rfl rfl rfl [0, 3, 4] (by decide) rfl rfl rfl (Nat.le_of_ble_eq_true rfl) dX4_passTo_21 ⟨Nat.zero_le _, Nat.zero_le _⟩) hA hP hD hS [0, 3, 4] rfl rfl rfl (fun H locs hP hD hS => ?_)
  cases hf
  exact hend _ _ _ _ dX4_passTo_24 hP hS
theorem sg_X4_heirsOf : kSig yX4_heirsOf wsX4_heirsOf cX4_heirsOf 2 (some .int) RX4 1 := ⟨⟨_, rfl⟩, rfl, by decide, by decide +kernel, by decide +kernel, by decide +kernel⟩
abbrev rm_X4_heirsOf : Room := { frames := 4, cells := 0, slots := 0, locals := 96 }
set_option maxRecDepth 20000 in
theorem in_X4_heirsOf_X4 : ∀ w ∈ u_ws RX4 TX4 11, w ∈ wsX4_heirsOf := by decide +kernel
set_option maxHeartbeats 4000000 in
set_option maxRecDepth 100000 in
theorem c_X4_heirsOf (l : Launch) (dC : Nat → ClassId) (dI : Nat → Nat → Nat) (cI cZ : ClassId) (a_o a_o_worth a_o_birth a_o_home a_o_kind a_o_wealth a_o_birth_cells a_o_home_cells a_o_kind_cells : Nat) (v_o_houses : Int32) (v_o_children : Int32) (v_o_living : Int32) (v_o_sideBits : Int32) (v_o_inherited : Int32) (v_o_theYear : Int32) (f_o_birth_cells : Nat → Int32) (f_o_home_cells : Nat → Int32) (f_o_kind_cells : Nat → Int32) (x1 : Int32) (u : Int32) (hf : f_X4_heirsOf v_o_children v_o_living v_o_sideBits f_o_birth_cells f_o_home_cells f_o_kind_cells x1 = some u) : kMi l yX4_heirsOf wsX4_heirsOf rm_X4_heirsOf (dC, dI) (kTy cI cZ) [.ref a_o, .int x1] [(a_o, .inr (4, [.int v_o_houses, .int v_o_children, .int v_o_living, .int v_o_sideBits, .int v_o_inherited, .int v_o_theYear, .ref a_o_worth, .ref a_o_birth, .ref a_o_home, .ref a_o_kind, .ref a_o_wealth])), (a_o_birth, .inr (1, [.ref a_o_birth_cells])), (a_o_birth_cells, .inl (cI, 7, .inl f_o_birth_cells)), (a_o_home, .inr (1, [.ref a_o_home_cells])), (a_o_home_cells, .inl (cI, 7, .inl f_o_home_cells)), (a_o_kind, .inr (1, [.ref a_o_kind_cells])), (a_o_kind_cells, .inl (cI, 7, .inl f_o_kind_cells))] [(a_o, .inr (4, [.int v_o_houses, .int v_o_children, .int v_o_living, .int v_o_sideBits, .int v_o_inherited, .int v_o_theYear, .ref a_o_worth, .ref a_o_birth, .ref a_o_home, .ref a_o_kind, .ref a_o_wealth])), (a_o_birth, .inr (1, [.ref a_o_birth_cells])), (a_o_birth_cells, .inl (cI, 7, .inl f_o_birth_cells)), (a_o_home, .inr (1, [.ref a_o_home_cells])), (a_o_home_cells, .inl (cI, 7, .inl f_o_home_cells)), (a_o_kind, .inr (1, [.ref a_o_kind_cells])), (a_o_kind_cells, .inl (cI, 7, .inl f_o_kind_cells))] u := by
  refine kMi_of sg_X4_heirsOf ⟨rfl, rfl⟩ (Nat.le_of_ble_eq_true rfl) ?_
  intro p e s m args below meth c A H0 Q hx hb hml hown hts hK hN hA hend H locs ls hP hD hS hl
  have hl : lv_has ls 2 [(0, .ref a_o), (1, .int x1)] := hl
  have hk39 := hts (.fieldLink RX4 39 "YoungestHouse$Town" "living" "I") (by decide +kernel)
  unfold f_X4_heirsOf at hf
  refine lv_aload_n hx hb dX4_heirsOf_0 rfl (lv_at hl 0 rfl) ?_
  refine lv_iload_n hx hb dX4_heirsOf_1 rfl (lv_at hl 1 rfl) ?_
  refine lv_aload_n hx hb dX4_heirsOf_2 rfl (lv_at hl 0 rfl) ?_
  refine lv_iload_n hx hb dX4_heirsOf_3 rfl (lv_at hl 1 rfl) ?_
  obtain ⟨u1, hu1, hf⟩ := kb1_e hf
  refine kc_i (wn := [(a_o, .inr (4, [.int v_o_houses, .int v_o_children, .int v_o_living, .int v_o_sideBits, .int v_o_inherited, .int v_o_theYear, .ref a_o_worth, .ref a_o_birth, .ref a_o_home, .ref a_o_kind, .ref a_o_wealth])), (a_o_birth, .inr (1, [.ref a_o_birth_cells])), (a_o_birth_cells, .inl (cI, 7, .inl f_o_birth_cells)), (a_o_home, .inr (1, [.ref a_o_home_cells])), (a_o_home_cells, .inl (cI, 7, .inl f_o_home_cells)), (a_o_kind, .inr (1, [.ref a_o_kind_cells])), (a_o_kind_cells, .inl (cI, 7, .inl f_o_kind_cells))]) (kr_V (As := [.int x1]) (rest := [.int x1, .ref a_o]) ⟨hx, hb, hml, hown, hts⟩ hK hN hP hD hl.1 (c_X4_sideOf l dC dI cI cZ a_o a_o_worth a_o_birth a_o_home a_o_kind a_o_wealth v_o_houses v_o_children v_o_living v_o_sideBits v_o_inherited v_o_theYear x1 u1 hu1 H.size) sg_X4_sideOf ⟨rfl, rfl⟩ ⟨Nat.le_of_ble_eq_true rfl, Nat.le_of_ble_eq_true rfl⟩ gX4_heirsOf_X4_sideOf 0 rfl rfl rfl [0] (by decide) rfl rfl rfl (Nat.le_of_ble_eq_true rfl) dX4_heirsOf_4 ⟨Nat.zero_le _, Nat.zero_le _⟩) hA hP hD hS [0] rfl rfl rfl (fun H locs hP hD hS => ?_)
  refine lv_aload_n hx hb dX4_heirsOf_7 rfl (lv_at hl 0 rfl) ?_
  refine va_get (D := (dC, dI)) (ci := 4) (v := .int v_o_living) (C := RX4) (T := TX4) (N := 11) hx hb hts in_X4_heirsOf_X4 hown hK hP 0 rfl rfl 2 (by decide) hk39 (fun _ h9 => h9) rfl dX4_heirsOf_8 ?_
  obtain ⟨u2, hu2, hf⟩ := kb1_e hf
  refine kc_i (wn := [(a_o, .inr (4, [.int v_o_houses, .int v_o_children, .int v_o_living, .int v_o_sideBits, .int v_o_inherited, .int v_o_theYear, .ref a_o_worth, .ref a_o_birth, .ref a_o_home, .ref a_o_kind, .ref a_o_wealth])), (a_o_birth, .inr (1, [.ref a_o_birth_cells])), (a_o_birth_cells, .inl (cI, 7, .inl f_o_birth_cells)), (a_o_home, .inr (1, [.ref a_o_home_cells])), (a_o_home_cells, .inl (cI, 7, .inl f_o_home_cells)), (a_o_kind, .inr (1, [.ref a_o_kind_cells])), (a_o_kind_cells, .inl (cI, 7, .inl f_o_kind_cells))]) (kr_V (As := [.int x1, .int u1, .int v_o_living]) (rest := []) ⟨hx, hb, hml, hown, hts⟩ hK hN hP hD hl.1 (c_X4_heirsAmong l dC dI cI cZ a_o a_o_worth a_o_birth a_o_home a_o_kind a_o_wealth a_o_birth_cells a_o_home_cells a_o_kind_cells v_o_houses v_o_children v_o_living v_o_sideBits v_o_inherited v_o_theYear f_o_birth_cells f_o_home_cells f_o_kind_cells x1 u1 v_o_living u2 hu2 H.size) sg_X4_heirsAmong ⟨rfl, rfl⟩ ⟨Nat.le_of_ble_eq_true rfl, Nat.le_of_ble_eq_true rfl⟩ gX4_heirsOf_X4_heirsAmong 0 rfl rfl rfl [0, 1, 2, 3, 4, 5, 6] (by decide) rfl rfl rfl (Nat.le_of_ble_eq_true rfl) dX4_heirsOf_11 ⟨Nat.zero_le _, Nat.zero_le _⟩) hA hP hD hS [0, 1, 2, 3, 4, 5, 6] rfl rfl rfl (fun H locs hP hD hS => ?_)
  cases hf
  exact hend _ _ _ _ dX4_heirsOf_14 rfl hP hS
theorem sg_X4_doTold : kSig yX4_doTold wsX4_doTold cX4_doTold 3 (some .boolean) RX4 2 := ⟨⟨_, rfl⟩, rfl, by decide, by decide +kernel, by decide +kernel, by decide +kernel⟩
abbrev rm_X4_doTold : Room := { frames := 5, cells := 0, slots := 0, locals := 117 }
set_option maxRecDepth 20000 in
theorem in_X4_doTold_X4 : ∀ w ∈ u_ws RX4 TX4 11, w ∈ wsX4_doTold := by decide +kernel
set_option maxHeartbeats 4000000 in
set_option maxRecDepth 100000 in
theorem c_X4_doTold (l : Launch) (dC : Nat → ClassId) (dI : Nat → Nat → Nat) (cI cZ : ClassId) (a_o a_o_worth a_o_birth a_o_home a_o_kind a_o_wealth a_o_worth_cells a_o_birth_cells a_o_home_cells a_o_kind_cells a_o_wealth_cells : Nat) (v_o_houses : Int32) (v_o_children : Int32) (v_o_living : Int32) (v_o_sideBits : Int32) (v_o_inherited : Int32) (v_o_theYear : Int32) (f_o_worth_cells : Nat → Int32) (f_o_birth_cells : Nat → Int32) (f_o_home_cells : Nat → Int32) (f_o_kind_cells : Nat → Int32) (f_o_wealth_cells : Nat → Int32) (x1 : Int32) (x2 : Int32) (u : Int32 × Int32 × Int32 × Int32 × Int32 × (Nat → Int32)) (hf : f_X4_doTold v_o_houses v_o_children f_o_worth_cells f_o_birth_cells f_o_home_cells f_o_kind_cells v_o_living v_o_sideBits v_o_inherited v_o_theYear f_o_wealth_cells x1 x2 = some u) : kMi l yX4_doTold wsX4_doTold rm_X4_doTold (dC, dI) (kTy cI cZ) [.ref a_o, .int x1, .int x2] [(a_o, .inr (4, [.int v_o_houses, .int v_o_children, .int v_o_living, .int v_o_sideBits, .int v_o_inherited, .int v_o_theYear, .ref a_o_worth, .ref a_o_birth, .ref a_o_home, .ref a_o_kind, .ref a_o_wealth])), (a_o_worth, .inr (1, [.ref a_o_worth_cells])), (a_o_worth_cells, .inl (cI, 3, .inl f_o_worth_cells)), (a_o_birth, .inr (1, [.ref a_o_birth_cells])), (a_o_birth_cells, .inl (cI, 7, .inl f_o_birth_cells)), (a_o_home, .inr (1, [.ref a_o_home_cells])), (a_o_home_cells, .inl (cI, 7, .inl f_o_home_cells)), (a_o_kind, .inr (1, [.ref a_o_kind_cells])), (a_o_kind_cells, .inl (cI, 7, .inl f_o_kind_cells)), (a_o_wealth, .inr (1, [.ref a_o_wealth_cells])), (a_o_wealth_cells, .inl (cI, 7, .inl f_o_wealth_cells))] [(a_o, .inr (4, [.int v_o_houses, .int v_o_children, .int u.2.1, .int u.2.2.1, .int u.2.2.2.1, .int u.2.2.2.2.1, .ref a_o_worth, .ref a_o_birth, .ref a_o_home, .ref a_o_kind, .ref a_o_wealth])), (a_o_worth, .inr (1, [.ref a_o_worth_cells])), (a_o_worth_cells, .inl (cI, 3, .inl f_o_worth_cells)), (a_o_birth, .inr (1, [.ref a_o_birth_cells])), (a_o_birth_cells, .inl (cI, 7, .inl f_o_birth_cells)), (a_o_home, .inr (1, [.ref a_o_home_cells])), (a_o_home_cells, .inl (cI, 7, .inl f_o_home_cells)), (a_o_kind, .inr (1, [.ref a_o_kind_cells])), (a_o_kind_cells, .inl (cI, 7, .inl f_o_kind_cells)), (a_o_wealth, .inr (1, [.ref a_o_wealth_cells])), (a_o_wealth_cells, .inl (cI, 7, .inl u.2.2.2.2.2))] u.1 := by
  refine kMi_of sg_X4_doTold ⟨rfl, rfl⟩ (Nat.le_of_ble_eq_true rfl) ?_
  intro p e s m args below meth c A H0 Q hx hb hml hown hts hK hN hA hend H locs ls hP hD hS hl
  have hl : lv_has ls 3 [(0, .ref a_o), (1, .int x1), (2, .int x2)] := hl
  have hk48 := hts (.fieldLink RX4 48 "YoungestHouse$Town" "theYear" "I") (by decide +kernel)
  unfold f_X4_doTold at hf
  refine lv_iload_n hx hb dX4_doTold_0 rfl (lv_at hl 1 rfl) ?_
  rcases Decidable.em (x1 = (0 : Int32)) with c1 | c1
  · replace hf := kt c1 hf
    refine lv_tableIn (off := 31) (tgt := 32) hx hb dX4_doTold_1 (by rw [c1]; decide) (by rw [c1]; decide) (by rw [c1]; rfl) (by decide) ?_
    refine lv_iload_n hx hb dX4_doTold_32 rfl (lv_at hl 2 rfl) ?_
    refine lv_if_eq (tgt := 38) hx hb dX4_doTold_33 (by decide) (fun c2 => ?_) (fun c2 => ?_)
    · replace hf := kt c2 hf
      refine lv_aload_n hx hb dX4_doTold_38 rfl (lv_at hl 0 rfl) ?_
      refine lv_dup hx hb dX4_doTold_39 rfl ?_
      refine va_get (D := (dC, dI)) (ci := 4) (v := .int v_o_theYear) (C := RX4) (T := TX4) (N := 11) hx hb hts in_X4_doTold_X4 hown hK hP 0 rfl rfl 5 (by decide) hk48 (fun _ h9 => h9) rfl dX4_doTold_40 ?_
      refine lv_iconst (v := (1 : Int32)) hx hb dX4_doTold_43 (by decide) ?_
      refine lv_iadd hx hb dX4_doTold_44 ?_
      refine va_put (D := (dC, dI)) (ci := 4) (v := .int (v_o_theYear + (1 : Int32))) (ty := .int) (C := RX4) (T := TX4) (N := 11) hx hb hts in_X4_doTold_X4 tyX4 tyX4_ok nmX4 hown hK hP hD hS 0 rfl rfl 5 (by decide) hk48 (fun _ h9 => h9) rfl (by decide +kernel) rfl rfl (Nat.le_of_ble_eq_true rfl) dX4_doTold_45 (fun H locs hP hD hS => ?_)
      have hP : va_P (dC, dI) vwCl [(a_o, .inr (4, [.int v_o_houses, .int v_o_children, .int v_o_living, .int v_o_sideBits, .int v_o_inherited, .int (v_o_theYear + (1 : Int32)), .ref a_o_worth, .ref a_o_birth, .ref a_o_home, .ref a_o_kind, .ref a_o_wealth])), (a_o_worth, .inr (1, [.ref a_o_worth_cells])), (a_o_worth_cells, .inl (cI, 3, .inl f_o_worth_cells)), (a_o_birth, .inr (1, [.ref a_o_birth_cells])), (a_o_birth_cells, .inl (cI, 7, .inl f_o_birth_cells)), (a_o_home, .inr (1, [.ref a_o_home_cells])), (a_o_home_cells, .inl (cI, 7, .inl f_o_home_cells)), (a_o_kind, .inr (1, [.ref a_o_kind_cells])), (a_o_kind_cells, .inl (cI, 7, .inl f_o_kind_cells)), (a_o_wealth, .inr (1, [.ref a_o_wealth_cells])), (a_o_wealth_cells, .inl (cI, 7, .inl f_o_wealth_cells))] H := hP
      have hD : va_D A [(a_o, .inr (4, [.int v_o_houses, .int v_o_children, .int v_o_living, .int v_o_sideBits, .int v_o_inherited, .int (v_o_theYear + (1 : Int32)), .ref a_o_worth, .ref a_o_birth, .ref a_o_home, .ref a_o_kind, .ref a_o_wealth])), (a_o_worth, .inr (1, [.ref a_o_worth_cells])), (a_o_worth_cells, .inl (cI, 3, .inl f_o_worth_cells)), (a_o_birth, .inr (1, [.ref a_o_birth_cells])), (a_o_birth_cells, .inl (cI, 7, .inl f_o_birth_cells)), (a_o_home, .inr (1, [.ref a_o_home_cells])), (a_o_home_cells, .inl (cI, 7, .inl f_o_home_cells)), (a_o_kind, .inr (1, [.ref a_o_kind_cells])), (a_o_kind_cells, .inl (cI, 7, .inl f_o_kind_cells)), (a_o_wealth, .inr (1, [.ref a_o_wealth_cells])), (a_o_wealth_cells, .inl (cI, 7, .inl f_o_wealth_cells))] := hD
      refine lv_iconst (v := (1 : Int32)) hx hb dX4_doTold_48 (by decide) ?_
      cases hf
      exact hend _ _ _ _ dX4_doTold_49 rfl hP hS
    · replace hf := kf c2 hf
      refine lv_iconst (v := (0 : Int32)) hx hb dX4_doTold_36 (by decide) ?_
      cases hf
      exact hend _ _ _ _ dX4_doTold_37 rfl hP hS
  · replace hf := kf c1 hf
    rcases Decidable.em (x1 = (1 : Int32)) with c3 | c3
    · replace hf := kt c3 hf
      refine lv_tableIn (off := 49) (tgt := 50) hx hb dX4_doTold_1 (by rw [c3]; decide) (by rw [c3]; decide) (by rw [c3]; rfl) (by decide) ?_
      refine lv_aload_n hx hb dX4_doTold_50 rfl (lv_at hl 0 rfl) ?_
      refine lv_iload_n hx hb dX4_doTold_51 rfl (lv_at hl 2 rfl) ?_
      obtain ⟨u4, hu4, hf⟩ := kb1_e hf
      refine kc_i (wn := [(a_o, .inr (4, [.int v_o_houses, .int v_o_children, .int v_o_living, .int v_o_sideBits, .int v_o_inherited, .int v_o_theYear, .ref a_o_worth, .ref a_o_birth, .ref a_o_home, .ref a_o_kind, .ref a_o_wealth])), (a_o_worth, .inr (1, [.ref a_o_worth_cells])), (a_o_worth_cells, .inl (cI, 3, .inl f_o_worth_cells)), (a_o_birth, .inr (1, [.ref a_o_birth_cells])), (a_o_birth_cells, .inl (cI, 7, .inl f_o_birth_cells)), (a_o_home, .inr (1, [.ref a_o_home_cells])), (a_o_home_cells, .inl (cI, 7, .inl f_o_home_cells)), (a_o_kind, .inr (1, [.ref a_o_kind_cells])), (a_o_kind_cells, .inl (cI, 7, .inl f_o_kind_cells)), (a_o_wealth, .inr (1, [.ref a_o_wealth_cells])), (a_o_wealth_cells, .inl (cI, 7, .inl f_o_wealth_cells))]) (kr_V (As := [.int x2]) (rest := []) ⟨hx, hb, hml, hown, hts⟩ hK hN hP hD hl.1 (c_X4_isAlive l dC dI cI cZ a_o a_o_worth a_o_birth a_o_home a_o_kind a_o_wealth v_o_houses v_o_children v_o_living v_o_sideBits v_o_inherited v_o_theYear x2 u4 hu4 H.size) sg_X4_isAlive ⟨rfl, rfl⟩ ⟨Nat.le_of_ble_eq_true rfl, Nat.le_of_ble_eq_true rfl⟩ gX4_doTold_X4_isAlive 0 rfl rfl rfl [0] (by decide) rfl rfl rfl (Nat.le_of_ble_eq_true rfl) dX4_doTold_52 ⟨Nat.zero_le _, Nat.zero_le _⟩) hA hP hD hS [0] rfl rfl rfl (fun H locs hP hD hS => ?_)
      refine lv_if_ne (tgt := 60) hx hb dX4_doTold_55 (by decide) (fun c5 => ?_) (fun c5 => ?_)
      · replace hf := kf c5 hf
        refine lv_aload_n hx hb dX4_doTold_60 rfl (lv_at hl 0 rfl) ?_
        refine lv_iload_n hx hb dX4_doTold_61 rfl (lv_at hl 2 rfl) ?_
        obtain ⟨u6, hu6, hf⟩ := kb1_e hf
        refine kc_v (wn := [(a_o, .inr (4, [.int v_o_houses, .int v_o_children, .int u6, .int v_o_sideBits, .int v_o_inherited, .int v_o_theYear, .ref a_o_worth, .ref a_o_birth, .ref a_o_home, .ref a_o_kind, .ref a_o_wealth])), (a_o_worth, .inr (1, [.ref a_o_worth_cells])), (a_o_worth_cells, .inl (cI, 3, .inl f_o_worth_cells)), (a_o_birth, .inr (1, [.ref a_o_birth_cells])), (a_o_birth_cells, .inl (cI, 7, .inl f_o_birth_cells)), (a_o_home, .inr (1, [.ref a_o_home_cells])), (a_o_home_cells, .inl (cI, 7, .inl f_o_home_cells)), (a_o_kind, .inr (1, [.ref a_o_kind_cells])), (a_o_kind_cells, .inl (cI, 7, .inl f_o_kind_cells)), (a_o_wealth, .inr (1, [.ref a_o_wealth_cells])), (a_o_wealth_cells, .inl (cI, 7, .inl f_o_wealth_cells))]) (kr_V (As := [.int x2]) (rest := []) ⟨hx, hb, hml, hown, hts⟩ hK hN hP hD hl.1 (c_X4_flipLife l dC dI cI cZ a_o a_o_worth a_o_birth a_o_home a_o_kind a_o_wealth v_o_houses v_o_children v_o_living v_o_sideBits v_o_inherited v_o_theYear x2 u6 hu6 H.size) sg_X4_flipLife ⟨rfl, rfl⟩ ⟨Nat.le_of_ble_eq_true rfl, Nat.le_of_ble_eq_true rfl⟩ gX4_doTold_X4_flipLife 0 rfl rfl rfl [0] (by decide) rfl rfl rfl (Nat.le_of_ble_eq_true rfl) dX4_doTold_62 ⟨Nat.zero_le _, Nat.zero_le _⟩) hA hP hD hS [0] rfl rfl rfl (fun H locs hP hD hS => ?_)
        refine lv_iconst (v := (1 : Int32)) hx hb dX4_doTold_65 (by decide) ?_
        cases hf
        exact hend _ _ _ _ dX4_doTold_66 rfl hP hS
      · replace hf := kt c5 hf
        refine lv_iconst (v := (0 : Int32)) hx hb dX4_doTold_58 (by decide) ?_
        cases hf
        exact hend _ _ _ _ dX4_doTold_59 rfl hP hS
    · replace hf := kf c3 hf
      rcases Decidable.em (x1 = (2 : Int32)) with c7 | c7
      · replace hf := kt c7 hf
        refine lv_tableIn (off := 66) (tgt := 67) hx hb dX4_doTold_1 (by rw [c7]; decide) (by rw [c7]; decide) (by rw [c7]; rfl) (by decide) ?_
        refine lv_aload_n hx hb dX4_doTold_67 rfl (lv_at hl 0 rfl) ?_
        refine lv_iload_n hx hb dX4_doTold_68 rfl (lv_at hl 2 rfl) ?_
        obtain ⟨u8, hu8, hf⟩ := kb1_e hf
        refine kc_i (wn := [(a_o, .inr (4, [.int v_o_houses, .int v_o_children, .int v_o_living, .int v_o_sideBits, .int v_o_inherited, .int v_o_theYear, .ref a_o_worth, .ref a_o_birth, .ref a_o_home, .ref a_o_kind, .ref a_o_wealth])), (a_o_worth, .inr (1, [.ref a_o_worth_cells])), (a_o_worth_cells, .inl (cI, 3, .inl f_o_worth_cells)), (a_o_birth, .inr (1, [.ref a_o_birth_cells])), (a_o_birth_cells, .inl (cI, 7, .inl f_o_birth_cells)), (a_o_home, .inr (1, [.ref a_o_home_cells])), (a_o_home_cells, .inl (cI, 7, .inl f_o_home_cells)), (a_o_kind, .inr (1, [.ref a_o_kind_cells])), (a_o_kind_cells, .inl (cI, 7, .inl f_o_kind_cells)), (a_o_wealth, .inr (1, [.ref a_o_wealth_cells])), (a_o_wealth_cells, .inl (cI, 7, .inl f_o_wealth_cells))]) (kr_V (As := [.int x2]) (rest := []) ⟨hx, hb, hml, hown, hts⟩ hK hN hP hD hl.1 (c_X4_hasHouse l dC dI cI cZ a_o a_o_worth a_o_birth a_o_home a_o_kind a_o_wealth v_o_houses v_o_children v_o_living v_o_sideBits v_o_inherited v_o_theYear x2 u8 hu8 H.size) sg_X4_hasHouse ⟨rfl, rfl⟩ ⟨Nat.le_of_ble_eq_true rfl, Nat.le_of_ble_eq_true rfl⟩ gX4_doTold_X4_hasHouse 0 rfl rfl rfl [0] (by decide) rfl rfl rfl (Nat.le_of_ble_eq_true rfl) dX4_doTold_69 ⟨Nat.zero_le _, Nat.zero_le _⟩) hA hP hD hS [0] rfl rfl rfl (fun H locs hP hD hS => ?_)
        refine lv_if_ne (tgt := 77) hx hb dX4_doTold_72 (by decide) (fun c9 => ?_) (fun c9 => ?_)
        · replace hf := kf c9 hf
          refine lv_aload_n hx hb dX4_doTold_77 rfl (lv_at hl 0 rfl) ?_
          refine lv_iload_n hx hb dX4_doTold_78 rfl (lv_at hl 2 rfl) ?_
          obtain ⟨u10, hu10, hf⟩ := kb1_e hf
          refine kc_v (wn := [(a_o, .inr (4, [.int v_o_houses, .int v_o_children, .int v_o_living, .int u10, .int v_o_inherited, .int v_o_theYear, .ref a_o_worth, .ref a_o_birth, .ref a_o_home, .ref a_o_kind, .ref a_o_wealth])), (a_o_worth, .inr (1, [.ref a_o_worth_cells])), (a_o_worth_cells, .inl (cI, 3, .inl f_o_worth_cells)), (a_o_birth, .inr (1, [.ref a_o_birth_cells])), (a_o_birth_cells, .inl (cI, 7, .inl f_o_birth_cells)), (a_o_home, .inr (1, [.ref a_o_home_cells])), (a_o_home_cells, .inl (cI, 7, .inl f_o_home_cells)), (a_o_kind, .inr (1, [.ref a_o_kind_cells])), (a_o_kind_cells, .inl (cI, 7, .inl f_o_kind_cells)), (a_o_wealth, .inr (1, [.ref a_o_wealth_cells])), (a_o_wealth_cells, .inl (cI, 7, .inl f_o_wealth_cells))]) (kr_V (As := [.int x2]) (rest := []) ⟨hx, hb, hml, hown, hts⟩ hK hN hP hD hl.1 (c_X4_flipSide l dC dI cI cZ a_o a_o_worth a_o_birth a_o_home a_o_kind a_o_wealth v_o_houses v_o_children v_o_living v_o_sideBits v_o_inherited v_o_theYear x2 u10 hu10 H.size) sg_X4_flipSide ⟨rfl, rfl⟩ ⟨Nat.le_of_ble_eq_true rfl, Nat.le_of_ble_eq_true rfl⟩ gX4_doTold_X4_flipSide 0 rfl rfl rfl [0] (by decide) rfl rfl rfl (Nat.le_of_ble_eq_true rfl) dX4_doTold_79 ⟨Nat.zero_le _, Nat.zero_le _⟩) hA hP hD hS [0] rfl rfl rfl (fun H locs hP hD hS => ?_)
          refine lv_iconst (v := (1 : Int32)) hx hb dX4_doTold_82 (by decide) ?_
          cases hf
          exact hend _ _ _ _ dX4_doTold_83 rfl hP hS
        · replace hf := kt c9 hf
          refine lv_iconst (v := (0 : Int32)) hx hb dX4_doTold_75 (by decide) ?_
          cases hf
          exact hend _ _ _ _ dX4_doTold_76 rfl hP hS
      · replace hf := kf c7 hf
        rcases Decidable.em (x1 = (3 : Int32)) with c11 | c11
        · replace hf := kt c11 hf
          refine lv_tableIn (off := 83) (tgt := 84) hx hb dX4_doTold_1 (by rw [c11]; decide) (by rw [c11]; decide) (by rw [c11]; rfl) (by decide) ?_
          refine lv_aload_n hx hb dX4_doTold_84 rfl (lv_at hl 0 rfl) ?_
          refine lv_iload_n hx hb dX4_doTold_85 rfl (lv_at hl 2 rfl) ?_
          obtain ⟨u12, hu12, hf⟩ := kb1_e hf
          refine kc_i (wn := [(a_o, .inr (4, [.int v_o_houses, .int v_o_children, .int v_o_living, .int v_o_sideBits, .int v_o_inherited, .int v_o_theYear, .ref a_o_worth, .ref a_o_birth, .ref a_o_home, .ref a_o_kind, .ref a_o_wealth])), (a_o_worth, .inr (1, [.ref a_o_worth_cells])), (a_o_worth_cells, .inl (cI, 3, .inl f_o_worth_cells)), (a_o_birth, .inr (1, [.ref a_o_birth_cells])), (a_o_birth_cells, .inl (cI, 7, .inl f_o_birth_cells)), (a_o_home, .inr (1, [.ref a_o_home_cells])), (a_o_home_cells, .inl (cI, 7, .inl f_o_home_cells)), (a_o_kind, .inr (1, [.ref a_o_kind_cells])), (a_o_kind_cells, .inl (cI, 7, .inl f_o_kind_cells)), (a_o_wealth, .inr (1, [.ref a_o_wealth_cells])), (a_o_wealth_cells, .inl (cI, 7, .inl f_o_wealth_cells))]) (kr_V (As := [.int x2]) (rest := []) ⟨hx, hb, hml, hown, hts⟩ hK hN hP hD hl.1 (c_X4_canPass l dC dI cI cZ a_o a_o_worth a_o_birth a_o_home a_o_kind a_o_wealth a_o_birth_cells a_o_home_cells a_o_kind_cells v_o_houses v_o_children v_o_living v_o_sideBits v_o_inherited v_o_theYear f_o_birth_cells f_o_home_cells f_o_kind_cells x2 u12 hu12 H.size) sg_X4_canPass ⟨rfl, rfl⟩ ⟨Nat.le_of_ble_eq_true rfl, Nat.le_of_ble_eq_true rfl⟩ gX4_doTold_X4_canPass 0 rfl rfl rfl [0, 3, 4, 5, 6, 7, 8] (by decide) rfl rfl rfl (Nat.le_of_ble_eq_true rfl) dX4_doTold_86 ⟨Nat.zero_le _, Nat.zero_le _⟩) hA hP hD hS [0, 3, 4, 5, 6, 7, 8] rfl rfl rfl (fun H locs hP hD hS => ?_)
          refine lv_if_ne (tgt := 94) hx hb dX4_doTold_89 (by decide) (fun c13 => ?_) (fun c13 => ?_)
          · replace hf := kf c13 hf
            refine lv_aload_n hx hb dX4_doTold_94 rfl (lv_at hl 0 rfl) ?_
            refine lv_iload_n hx hb dX4_doTold_95 rfl (lv_at hl 2 rfl) ?_
            refine lv_aload_n hx hb dX4_doTold_96 rfl (lv_at hl 0 rfl) ?_
            refine lv_iload_n hx hb dX4_doTold_97 rfl (lv_at hl 2 rfl) ?_
            obtain ⟨u14, hu14, hf⟩ := kb1_e hf
            refine kc_i (wn := [(a_o, .inr (4, [.int v_o_houses, .int v_o_children, .int v_o_living, .int v_o_sideBits, .int v_o_inherited, .int v_o_theYear, .ref a_o_worth, .ref a_o_birth, .ref a_o_home, .ref a_o_kind, .ref a_o_wealth])), (a_o_worth, .inr (1, [.ref a_o_worth_cells])), (a_o_worth_cells, .inl (cI, 3, .inl f_o_worth_cells)), (a_o_birth, .inr (1, [.ref a_o_birth_cells])), (a_o_birth_cells, .inl (cI, 7, .inl f_o_birth_cells)), (a_o_home, .inr (1, [.ref a_o_home_cells])), (a_o_home_cells, .inl (cI, 7, .inl f_o_home_cells)), (a_o_kind, .inr (1, [.ref a_o_kind_cells])), (a_o_kind_cells, .inl (cI, 7, .inl f_o_kind_cells)), (a_o_wealth, .inr (1, [.ref a_o_wealth_cells])), (a_o_wealth_cells, .inl (cI, 7, .inl f_o_wealth_cells))]) (kr_V (As := [.int x2]) (rest := [.int x2, .ref a_o]) ⟨hx, hb, hml, hown, hts⟩ hK hN hP hD hl.1 (c_X4_heirsOf l dC dI cI cZ a_o a_o_worth a_o_birth a_o_home a_o_kind a_o_wealth a_o_birth_cells a_o_home_cells a_o_kind_cells v_o_houses v_o_children v_o_living v_o_sideBits v_o_inherited v_o_theYear f_o_birth_cells f_o_home_cells f_o_kind_cells x2 u14 hu14 H.size) sg_X4_heirsOf ⟨rfl, rfl⟩ ⟨Nat.le_of_ble_eq_true rfl, Nat.le_of_ble_eq_true rfl⟩ gX4_doTold_X4_heirsOf 0 rfl rfl rfl [0, 3, 4, 5, 6, 7, 8] (by decide) rfl rfl rfl (Nat.le_of_ble_eq_true rfl) dX4_doTold_98 ⟨Nat.zero_le _, Nat.zero_le _⟩) hA hP hD hS [0, 3, 4, 5, 6, 7, 8] rfl rfl rfl (fun H locs hP hD hS => ?_)
            obtain ⟨u15, hu15, hf⟩ := kb1_e hf
            refine kc_v (wn := [(a_o, .inr (4, [.int v_o_houses, .int v_o_children, .int v_o_living, .int v_o_sideBits, .int u15.1, .int v_o_theYear, .ref a_o_worth, .ref a_o_birth, .ref a_o_home, .ref a_o_kind, .ref a_o_wealth])), (a_o_worth, .inr (1, [.ref a_o_worth_cells])), (a_o_worth_cells, .inl (cI, 3, .inl f_o_worth_cells)), (a_o_birth, .inr (1, [.ref a_o_birth_cells])), (a_o_birth_cells, .inl (cI, 7, .inl f_o_birth_cells)), (a_o_home, .inr (1, [.ref a_o_home_cells])), (a_o_home_cells, .inl (cI, 7, .inl f_o_home_cells)), (a_o_kind, .inr (1, [.ref a_o_kind_cells])), (a_o_kind_cells, .inl (cI, 7, .inl f_o_kind_cells)), (a_o_wealth, .inr (1, [.ref a_o_wealth_cells])), (a_o_wealth_cells, .inl (cI, 7, .inl u15.2))]) (kr_V (As := [.int x2, .int u14]) (rest := []) ⟨hx, hb, hml, hown, hts⟩ hK hN hP hD hl.1 (c_X4_passTo l dC dI cI cZ a_o a_o_worth a_o_birth a_o_home a_o_kind a_o_wealth a_o_worth_cells a_o_wealth_cells v_o_houses v_o_children v_o_living v_o_sideBits v_o_inherited v_o_theYear f_o_worth_cells f_o_wealth_cells x2 u14 u15 hu15 H.size) sg_X4_passTo ⟨rfl, rfl⟩ ⟨Nat.le_of_ble_eq_true rfl, Nat.le_of_ble_eq_true rfl⟩ gX4_doTold_X4_passTo 0 rfl rfl rfl [0, 1, 2, 9, 10] (by decide) rfl rfl rfl (Nat.le_of_ble_eq_true rfl) dX4_doTold_101 ⟨Nat.zero_le _, Nat.zero_le _⟩) hA hP hD hS [0, 1, 2, 9, 10] rfl rfl rfl (fun H locs hP hD hS => ?_)
            refine lv_iconst (v := (1 : Int32)) hx hb dX4_doTold_104 (by decide) ?_
            cases hf
            exact hend _ _ _ _ dX4_doTold_105 rfl hP hS
          · replace hf := kt c13 hf
            refine lv_iconst (v := (0 : Int32)) hx hb dX4_doTold_92 (by decide) ?_
            cases hf
            exact hend _ _ _ _ dX4_doTold_93 rfl hP hS
        · replace hf := kf c11 hf
          have b0 := kst0 (x1).toInt
          have b1 := kst (k' := 1) b0 (lv_neT (a := 0) c1 rfl) (by decide)
          have b2 := kst (k' := 2) b1 (lv_neT (a := 1) c3 rfl) (by decide)
          have b3 := kst (k' := 3) b2 (lv_neT (a := 2) c7 rfl) (by decide)
          have b4 := kst (k' := 4) b3 (lv_neT (a := 3) c11 rfl) (by decide)
          refine lv_tableOut (tgt := 106) hx hb dX4_doTold_1 (kst_e (hi := 3) b4 (by decide)) (by decide) ?_
          refine lv_iconst (v := (0 : Int32)) hx hb dX4_doTold_106 (by decide) ?_
          cases hf
          exact hend _ _ _ _ dX4_doTold_107 rfl hP hS
theorem sg_X4_stir : kSig yX4_stir wsX4_stir cX4_stir 2 none RX4 1 := ⟨⟨_, rfl⟩, rfl, by decide, by decide +kernel, by decide +kernel, by decide +kernel⟩
abbrev rm_X4_stir : Room := { frames := 2, cells := 0, slots := 0, locals := 42 }
set_option maxRecDepth 20000 in
theorem in_X4_stir_X4 : ∀ w ∈ u_ws RX4 TX4 11, w ∈ wsX4_stir := by decide +kernel
set_option maxHeartbeats 4000000 in
set_option maxRecDepth 100000 in
theorem c_X4_stir (l : Launch) (dC : Nat → ClassId) (dI : Nat → Nat → Nat) (cI cZ : ClassId) (a_o a_o_worth a_o_birth a_o_home a_o_kind a_o_wealth : Nat) (v_o_houses : Int32) (v_o_children : Int32) (v_o_living : Int32) (v_o_sideBits : Int32) (v_o_inherited : Int32) (v_o_theYear : Int32) (x1 : Int32) (u : Int32 × Int32 × Int32) (hf : f_X4_stir v_o_houses v_o_children v_o_living v_o_sideBits v_o_theYear x1 = some u) : kMv l yX4_stir wsX4_stir rm_X4_stir (dC, dI) (kTy cI cZ) [.ref a_o, .int x1] [(a_o, .inr (4, [.int v_o_houses, .int v_o_children, .int v_o_living, .int v_o_sideBits, .int v_o_inherited, .int v_o_theYear, .ref a_o_worth, .ref a_o_birth, .ref a_o_home, .ref a_o_kind, .ref a_o_wealth]))] [(a_o, .inr (4, [.int v_o_houses, .int v_o_children, .int u.1, .int u.2.1, .int v_o_inherited, .int u.2.2, .ref a_o_worth, .ref a_o_birth, .ref a_o_home, .ref a_o_kind, .ref a_o_wealth]))]  := by
  refine kMv_of sg_X4_stir ⟨rfl, rfl⟩ (Nat.le_of_ble_eq_true rfl) ?_
  intro p e s m args below meth c A H0 Q hx hb hml hown hts hK hN hA hend H locs ls hP hD hS hl
  have hl : lv_has ls 2 [(0, .ref a_o), (1, .int x1)] := hl
  have hk48 := hts (.fieldLink RX4 48 "YoungestHouse$Town" "theYear" "I") (by decide +kernel)
  unfold f_X4_stir at hf
  refine lv_iload_n hx hb dX4_stir_0 rfl (lv_at hl 1 rfl) ?_
  refine lv_bipush (v := (7 : Int32)) hx hb dX4_stir_1 (by decide) ?_
  refine lv_icmp_ge (tgt := 22) hx hb dX4_stir_3 (by decide) (fun c1 => ?_) (fun c1 => ?_)
  · replace hf := kt c1 hf
    refine lv_iload_n hx hb dX4_stir_22 rfl (lv_at hl 1 rfl) ?_
    refine lv_bipush (v := (10 : Int32)) hx hb dX4_stir_23 (by decide) ?_
    refine lv_icmp_ge (tgt := 50) hx hb dX4_stir_25 (by decide) (fun c2 => ?_) (fun c2 => ?_)
    · replace hf := kt c2 hf
      refine lv_aload_n hx hb dX4_stir_50 rfl (lv_at hl 0 rfl) ?_
      refine lv_dup hx hb dX4_stir_51 rfl ?_
      refine va_get (D := (dC, dI)) (ci := 4) (v := .int v_o_theYear) (C := RX4) (T := TX4) (N := 11) hx hb hts in_X4_stir_X4 hown hK hP 0 rfl rfl 5 (by decide) hk48 (fun _ h9 => h9) rfl dX4_stir_52 ?_
      refine lv_iconst (v := (1 : Int32)) hx hb dX4_stir_55 (by decide) ?_
      refine lv_iadd hx hb dX4_stir_56 ?_
      refine va_put (D := (dC, dI)) (ci := 4) (v := .int (v_o_theYear + (1 : Int32))) (ty := .int) (C := RX4) (T := TX4) (N := 11) hx hb hts in_X4_stir_X4 tyX4 tyX4_ok nmX4 hown hK hP hD hS 0 rfl rfl 5 (by decide) hk48 (fun _ h9 => h9) rfl (by decide +kernel) rfl rfl (Nat.le_of_ble_eq_true rfl) dX4_stir_57 (fun H locs hP hD hS => ?_)
      have hP : va_P (dC, dI) vwCl [(a_o, .inr (4, [.int v_o_houses, .int v_o_children, .int v_o_living, .int v_o_sideBits, .int v_o_inherited, .int (v_o_theYear + (1 : Int32)), .ref a_o_worth, .ref a_o_birth, .ref a_o_home, .ref a_o_kind, .ref a_o_wealth]))] H := hP
      have hD : va_D A [(a_o, .inr (4, [.int v_o_houses, .int v_o_children, .int v_o_living, .int v_o_sideBits, .int v_o_inherited, .int (v_o_theYear + (1 : Int32)), .ref a_o_worth, .ref a_o_birth, .ref a_o_home, .ref a_o_kind, .ref a_o_wealth]))] := hD
      cases hf
      exact hend _ _ _ _ dX4_stir_60 hP hS
    · replace hf := kf c2 hf
      refine lv_aload_n hx hb dX4_stir_28 rfl (lv_at hl 0 rfl) ?_
      refine lv_iload_n hx hb dX4_stir_29 rfl (lv_at hl 1 rfl) ?_
      refine lv_bipush (v := (7 : Int32)) hx hb dX4_stir_30 (by decide) ?_
      refine lv_isub hx hb dX4_stir_32 ?_
      obtain ⟨u3, hu3, hf⟩ := kb1_e hf
      refine kc_i (wn := [(a_o, .inr (4, [.int v_o_houses, .int v_o_children, .int v_o_living, .int v_o_sideBits, .int v_o_inherited, .int v_o_theYear, .ref a_o_worth, .ref a_o_birth, .ref a_o_home, .ref a_o_kind, .ref a_o_wealth]))]) (kr_V (As := [.int (x1 - (7 : Int32))]) (rest := []) ⟨hx, hb, hml, hown, hts⟩ hK hN hP hD hl.1 (c_X4_hasHouse l dC dI cI cZ a_o a_o_worth a_o_birth a_o_home a_o_kind a_o_wealth v_o_houses v_o_children v_o_living v_o_sideBits v_o_inherited v_o_theYear (x1 - (7 : Int32)) u3 hu3 H.size) sg_X4_hasHouse ⟨rfl, rfl⟩ ⟨Nat.le_of_ble_eq_true rfl, Nat.le_of_ble_eq_true rfl⟩ gX4_stir_X4_hasHouse 0 rfl rfl rfl [0] (by decide) rfl rfl rfl (Nat.le_of_ble_eq_true rfl) dX4_stir_33 ⟨Nat.zero_le _, Nat.zero_le _⟩) hA hP hD hS [0] rfl rfl rfl (fun H locs hP hD hS => ?_)
      refine lv_if_eq (tgt := 60) hx hb dX4_stir_36 (by decide) (fun c4 => ?_) (fun c4 => ?_)
      · replace hf := kt c4 hf
        cases hf
        exact hend _ _ _ _ dX4_stir_60 hP hS
      · replace hf := kf c4 hf
        refine lv_aload_n hx hb dX4_stir_39 rfl (lv_at hl 0 rfl) ?_
        refine lv_iload_n hx hb dX4_stir_40 rfl (lv_at hl 1 rfl) ?_
        refine lv_bipush (v := (7 : Int32)) hx hb dX4_stir_41 (by decide) ?_
        refine lv_isub hx hb dX4_stir_43 ?_
        obtain ⟨u5, hu5, hf⟩ := kb1_e hf
        refine kc_v (wn := [(a_o, .inr (4, [.int v_o_houses, .int v_o_children, .int v_o_living, .int u5, .int v_o_inherited, .int v_o_theYear, .ref a_o_worth, .ref a_o_birth, .ref a_o_home, .ref a_o_kind, .ref a_o_wealth]))]) (kr_V (As := [.int (x1 - (7 : Int32))]) (rest := []) ⟨hx, hb, hml, hown, hts⟩ hK hN hP hD hl.1 (c_X4_flipSide l dC dI cI cZ a_o a_o_worth a_o_birth a_o_home a_o_kind a_o_wealth v_o_houses v_o_children v_o_living v_o_sideBits v_o_inherited v_o_theYear (x1 - (7 : Int32)) u5 hu5 H.size) sg_X4_flipSide ⟨rfl, rfl⟩ ⟨Nat.le_of_ble_eq_true rfl, Nat.le_of_ble_eq_true rfl⟩ gX4_stir_X4_flipSide 0 rfl rfl rfl [0] (by decide) rfl rfl rfl (Nat.le_of_ble_eq_true rfl) dX4_stir_44 ⟨Nat.zero_le _, Nat.zero_le _⟩) hA hP hD hS [0] rfl rfl rfl (fun H locs hP hD hS => ?_)
        refine lv_goto (tgt := 60) hx hb dX4_stir_47 (by decide) ?_
        cases hf
        exact hend _ _ _ _ dX4_stir_60 hP hS
  · replace hf := kf c1 hf
    refine lv_aload_n hx hb dX4_stir_6 rfl (lv_at hl 0 rfl) ?_
    refine lv_iload_n hx hb dX4_stir_7 rfl (lv_at hl 1 rfl) ?_
    obtain ⟨u6, hu6, hf⟩ := kb1_e hf
    refine kc_i (wn := [(a_o, .inr (4, [.int v_o_houses, .int v_o_children, .int v_o_living, .int v_o_sideBits, .int v_o_inherited, .int v_o_theYear, .ref a_o_worth, .ref a_o_birth, .ref a_o_home, .ref a_o_kind, .ref a_o_wealth]))]) (kr_V (As := [.int x1]) (rest := []) ⟨hx, hb, hml, hown, hts⟩ hK hN hP hD hl.1 (c_X4_isAlive l dC dI cI cZ a_o a_o_worth a_o_birth a_o_home a_o_kind a_o_wealth v_o_houses v_o_children v_o_living v_o_sideBits v_o_inherited v_o_theYear x1 u6 hu6 H.size) sg_X4_isAlive ⟨rfl, rfl⟩ ⟨Nat.le_of_ble_eq_true rfl, Nat.le_of_ble_eq_true rfl⟩ gX4_stir_X4_isAlive 0 rfl rfl rfl [0] (by decide) rfl rfl rfl (Nat.le_of_ble_eq_true rfl) dX4_stir_8 ⟨Nat.zero_le _, Nat.zero_le _⟩) hA hP hD hS [0] rfl rfl rfl (fun H locs hP hD hS => ?_)
    refine lv_if_eq (tgt := 60) hx hb dX4_stir_11 (by decide) (fun c7 => ?_) (fun c7 => ?_)
    · replace hf := kt c7 hf
      cases hf
      exact hend _ _ _ _ dX4_stir_60 hP hS
    · replace hf := kf c7 hf
      refine lv_aload_n hx hb dX4_stir_14 rfl (lv_at hl 0 rfl) ?_
      refine lv_iload_n hx hb dX4_stir_15 rfl (lv_at hl 1 rfl) ?_
      obtain ⟨u8, hu8, hf⟩ := kb1_e hf
      refine kc_v (wn := [(a_o, .inr (4, [.int v_o_houses, .int v_o_children, .int u8, .int v_o_sideBits, .int v_o_inherited, .int v_o_theYear, .ref a_o_worth, .ref a_o_birth, .ref a_o_home, .ref a_o_kind, .ref a_o_wealth]))]) (kr_V (As := [.int x1]) (rest := []) ⟨hx, hb, hml, hown, hts⟩ hK hN hP hD hl.1 (c_X4_flipLife l dC dI cI cZ a_o a_o_worth a_o_birth a_o_home a_o_kind a_o_wealth v_o_houses v_o_children v_o_living v_o_sideBits v_o_inherited v_o_theYear x1 u8 hu8 H.size) sg_X4_flipLife ⟨rfl, rfl⟩ ⟨Nat.le_of_ble_eq_true rfl, Nat.le_of_ble_eq_true rfl⟩ gX4_stir_X4_flipLife 0 rfl rfl rfl [0] (by decide) rfl rfl rfl (Nat.le_of_ble_eq_true rfl) dX4_stir_16 ⟨Nat.zero_le _, Nat.zero_le _⟩) hA hP hD hS [0] rfl rfl rfl (fun H locs hP hD hS => ?_)
      refine lv_goto (tgt := 60) hx hb dX4_stir_19 (by decide) ?_
      cases hf
      exact hend _ _ _ _ dX4_stir_60 hP hS
theorem sg_X4_allHeirs : kSig yX4_allHeirs wsX4_allHeirs cX4_allHeirs 3 (some .int) RX4 0 := ⟨⟨_, rfl⟩, rfl, by decide, by decide +kernel, by decide +kernel, by decide +kernel⟩
abbrev rm_X4_allHeirs : Room := { frames := 5, cells := 0, slots := 0, locals := 117 }
set_option maxRecDepth 20000 in
theorem in_X4_allHeirs_X4 : ∀ w ∈ u_ws RX4 TX4 11, w ∈ wsX4_allHeirs := by decide +kernel
set_option maxHeartbeats 4000000 in
set_option maxRecDepth 100000 in
theorem c_X4_allHeirs (l : Launch) (dC : Nat → ClassId) (dI : Nat → Nat → Nat) (cI cZ : ClassId) (a_o a_o_worth a_o_birth a_o_home a_o_kind a_o_wealth a_o_birth_cells a_o_home_cells a_o_kind_cells : Nat) (v_o_houses : Int32) (v_o_children : Int32) (v_o_living : Int32) (v_o_sideBits : Int32) (v_o_inherited : Int32) (v_o_theYear : Int32) (f_o_birth_cells : Nat → Int32) (f_o_home_cells : Nat → Int32) (f_o_kind_cells : Nat → Int32)  (u : Int32) (hf : f_X4_allHeirs v_o_houses v_o_children v_o_living v_o_sideBits f_o_birth_cells f_o_home_cells f_o_kind_cells = some u) : kMi l yX4_allHeirs wsX4_allHeirs rm_X4_allHeirs (dC, dI) (kTy cI cZ) [.ref a_o] [(a_o, .inr (4, [.int v_o_houses, .int v_o_children, .int v_o_living, .int v_o_sideBits, .int v_o_inherited, .int v_o_theYear, .ref a_o_worth, .ref a_o_birth, .ref a_o_home, .ref a_o_kind, .ref a_o_wealth])), (a_o_birth, .inr (1, [.ref a_o_birth_cells])), (a_o_birth_cells, .inl (cI, 7, .inl f_o_birth_cells)), (a_o_home, .inr (1, [.ref a_o_home_cells])), (a_o_home_cells, .inl (cI, 7, .inl f_o_home_cells)), (a_o_kind, .inr (1, [.ref a_o_kind_cells])), (a_o_kind_cells, .inl (cI, 7, .inl f_o_kind_cells))] [(a_o, .inr (4, [.int v_o_houses, .int v_o_children, .int v_o_living, .int v_o_sideBits, .int v_o_inherited, .int v_o_theYear, .ref a_o_worth, .ref a_o_birth, .ref a_o_home, .ref a_o_kind, .ref a_o_wealth])), (a_o_birth, .inr (1, [.ref a_o_birth_cells])), (a_o_birth_cells, .inl (cI, 7, .inl f_o_birth_cells)), (a_o_home, .inr (1, [.ref a_o_home_cells])), (a_o_home_cells, .inl (cI, 7, .inl f_o_home_cells)), (a_o_kind, .inr (1, [.ref a_o_kind_cells])), (a_o_kind_cells, .inl (cI, 7, .inl f_o_kind_cells))] u := by
  refine kMi_of sg_X4_allHeirs ⟨rfl, rfl⟩ (Nat.le_of_ble_eq_true rfl) ?_
  intro p e s m args below meth c A H0 Q hx hb hml hown hts hK hN hA hend H locs ls hP hD hS hl
  have hl : lv_has ls 3 [(0, .ref a_o)] := hl
  have hk32 := hts (.fieldLink RX4 32 "YoungestHouse$Town" "houses" "I") (by decide +kernel)
  have J_4 : ∀ (n_4 : Nat), ∀ (x1 : Int32) (x2 : Int32) (H : Heap) (locs : List Loc) (ls : Array Slot), va_P (dC, dI) vwCl [(a_o, .inr (4, [.int v_o_houses, .int v_o_children, .int v_o_living, .int v_o_sideBits, .int v_o_inherited, .int v_o_theYear, .ref a_o_worth, .ref a_o_birth, .ref a_o_home, .ref a_o_kind, .ref a_o_wealth])), (a_o_birth, .inr (1, [.ref a_o_birth_cells])), (a_o_birth_cells, .inl (cI, 7, .inl f_o_birth_cells)), (a_o_home, .inr (1, [.ref a_o_home_cells])), (a_o_home_cells, .inl (cI, 7, .inl f_o_home_cells)), (a_o_kind, .inr (1, [.ref a_o_kind_cells])), (a_o_kind_cells, .inl (cI, 7, .inl f_o_kind_cells))] H → va_D A [(a_o, .inr (4, [.int v_o_houses, .int v_o_children, .int v_o_living, .int v_o_sideBits, .int v_o_inherited, .int v_o_theYear, .ref a_o_worth, .ref a_o_birth, .ref a_o_home, .ref a_o_kind, .ref a_o_wealth])), (a_o_birth, .inr (1, [.ref a_o_birth_cells])), (a_o_birth_cells, .inl (cI, 7, .inl f_o_birth_cells)), (a_o_home, .inr (1, [.ref a_o_home_cells])), (a_o_home_cells, .inl (cI, 7, .inl f_o_home_cells)), (a_o_kind, .inr (1, [.ref a_o_kind_cells])), (a_o_kind_cells, .inl (cI, 7, .inl f_o_kind_cells))] → va_S A H0 H locs → lv_has ls 3 [(0, .ref a_o), (1, .int x1), (2, .int x2)] → f_X4_allHeirs_4 v_o_houses v_o_children v_o_living v_o_sideBits f_o_birth_cells f_o_home_cells f_o_kind_cells n_4 x1 x2 = some u → W p l e rm_X4_allHeirs s m args below meth c H locs 0 0 Q (F0 m 4 ls []) := by
    intro n_4
    induction n_4 with
    | zero => intro x1 x2 H locs ls hP hD hS hl hf; exact nomatch hf
    | succ n_4 ih_4 =>
      intro x1 x2 H locs ls hP hD hS hl hf
      have hf : f_X4_allHeirs_4_b v_o_houses v_o_children v_o_living v_o_sideBits f_o_birth_cells f_o_home_cells f_o_kind_cells (f_X4_allHeirs_4 v_o_houses v_o_children v_o_living v_o_sideBits f_o_birth_cells f_o_home_cells f_o_kind_cells n_4) x1 x2 = some u := hf
      unfold f_X4_allHeirs_4_b at hf
      refine lv_iload_n hx hb dX4_allHeirs_4 rfl (lv_at hl 2 rfl) ?_
      refine lv_aload_n hx hb dX4_allHeirs_5 rfl (lv_at hl 0 rfl) ?_
      refine va_get (D := (dC, dI)) (ci := 4) (v := .int v_o_houses) (C := RX4) (T := TX4) (N := 11) hx hb hts in_X4_allHeirs_X4 hown hK hP 0 rfl rfl 0 (by decide) hk32 (fun _ h9 => h9) rfl dX4_allHeirs_6 ?_
      refine lv_icmp_ge (tgt := 31) hx hb dX4_allHeirs_9 (by decide) (fun c1 => ?_) (fun c1 => ?_)
      · replace hf := kt c1 hf
        refine lv_iload_n hx hb dX4_allHeirs_31 rfl (lv_at hl 1 rfl) ?_
        cases hf
        exact hend _ _ _ _ dX4_allHeirs_32 rfl hP hS
      · replace hf := kf c1 hf
        refine lv_iload_n hx hb dX4_allHeirs_12 rfl (lv_at hl 1 rfl) ?_
        refine lv_aload_n hx hb dX4_allHeirs_13 rfl (lv_at hl 0 rfl) ?_
        refine lv_iload_n hx hb dX4_allHeirs_14 rfl (lv_at hl 2 rfl) ?_
        obtain ⟨u2, hu2, hf⟩ := kb1_e hf
        refine kc_i (wn := [(a_o, .inr (4, [.int v_o_houses, .int v_o_children, .int v_o_living, .int v_o_sideBits, .int v_o_inherited, .int v_o_theYear, .ref a_o_worth, .ref a_o_birth, .ref a_o_home, .ref a_o_kind, .ref a_o_wealth])), (a_o_birth, .inr (1, [.ref a_o_birth_cells])), (a_o_birth_cells, .inl (cI, 7, .inl f_o_birth_cells)), (a_o_home, .inr (1, [.ref a_o_home_cells])), (a_o_home_cells, .inl (cI, 7, .inl f_o_home_cells)), (a_o_kind, .inr (1, [.ref a_o_kind_cells])), (a_o_kind_cells, .inl (cI, 7, .inl f_o_kind_cells))]) (kr_V (As := [.int x2]) (rest := [.int x1]) ⟨hx, hb, hml, hown, hts⟩ hK hN hP hD hl.1 (c_X4_heirsOf l dC dI cI cZ a_o a_o_worth a_o_birth a_o_home a_o_kind a_o_wealth a_o_birth_cells a_o_home_cells a_o_kind_cells v_o_houses v_o_children v_o_living v_o_sideBits v_o_inherited v_o_theYear f_o_birth_cells f_o_home_cells f_o_kind_cells x2 u2 hu2 H.size) sg_X4_heirsOf ⟨rfl, rfl⟩ ⟨Nat.le_of_ble_eq_true rfl, Nat.le_of_ble_eq_true rfl⟩ gX4_allHeirs_X4_heirsOf 0 rfl rfl rfl [0, 1, 2, 3, 4, 5, 6] (by decide) rfl rfl rfl (Nat.le_of_ble_eq_true rfl) dX4_allHeirs_15 ⟨Nat.zero_le _, Nat.zero_le _⟩) hA hP hD hS [0, 1, 2, 3, 4, 5, 6] rfl rfl rfl (fun H locs hP hD hS => ?_)
        refine lv_bipush (v := (7 : Int32)) hx hb dX4_allHeirs_18 (by decide) ?_
        refine lv_iload_n hx hb dX4_allHeirs_20 rfl (lv_at hl 2 rfl) ?_
        refine lv_imul hx hb dX4_allHeirs_21 ?_
        refine lv_ishl hx hb dX4_allHeirs_22 ?_
        refine lv_ior hx hb dX4_allHeirs_23 ?_
        refine lv_istore_n (lv' := [(1, .int (x1 ||| (u2 <<< (((7 : Int32) * x2) &&& 31)))), (0, .ref a_o), (2, .int x2)]) hx hb dX4_allHeirs_24 rfl hl (by decide) rfl (fun ls hl => ?_)
        refine lv_iinc (v := (x2 + (1 : Int32))) (lv' := [(2, .int (x2 + (1 : Int32))), (1, .int (x1 ||| (u2 <<< (((7 : Int32) * x2) &&& 31)))), (0, .ref a_o)]) hx hb dX4_allHeirs_25 hl (k := 2) rfl rfl (by decide) rfl (fun ls hl => ?_)
        refine lv_goto (tgt := 4) hx hb dX4_allHeirs_28 (by decide) ?_
        exact ih_4 (x1 ||| (u2 <<< (((7 : Int32) * x2) &&& 31))) (x2 + (1 : Int32)) H locs ls hP hD hS (lv_sub hl [2, 1, 0] rfl) hf
  unfold f_X4_allHeirs at hf
  refine lv_iconst (v := (0 : Int32)) hx hb dX4_allHeirs_0 (by decide) ?_
  refine lv_istore_n (lv' := [(1, .int (0 : Int32)), (0, .ref a_o)]) hx hb dX4_allHeirs_1 rfl hl (by decide) rfl (fun ls hl => ?_)
  refine lv_iconst (v := (0 : Int32)) hx hb dX4_allHeirs_2 (by decide) ?_
  refine lv_istore_n (lv' := [(2, .int (0 : Int32)), (1, .int (0 : Int32)), (0, .ref a_o)]) hx hb dX4_allHeirs_3 rfl hl (by decide) rfl (fun ls hl => ?_)
  exact J_4 1000 (0 : Int32) (0 : Int32) H locs ls hP hD hS (lv_sub hl [2, 1, 0] rfl) hf
theorem sg_X4_countDiffering : kSig yX4_countDiffering wsX4_countDiffering cX4_countDiffering 6 (some .int) RX4 2 := ⟨⟨_, rfl⟩, rfl, by decide, by decide +kernel, by decide +kernel, by decide +kernel⟩
abbrev rm_X4_countDiffering : Room := { frames := 1, cells := 0, slots := 0, locals := 20 }
set_option maxRecDepth 20000 in
theorem in_X4_countDiffering_X4 : ∀ w ∈ u_ws RX4 TX4 11, w ∈ wsX4_countDiffering := by decide +kernel
set_option maxHeartbeats 4000000 in
set_option maxRecDepth 100000 in
theorem c_X4_countDiffering (l : Launch) (dC : Nat → ClassId) (dI : Nat → Nat → Nat) (cI cZ : ClassId) (a_o a_o_worth a_o_birth a_o_home a_o_kind a_o_wealth : Nat) (v_o_houses : Int32) (v_o_children : Int32) (v_o_living : Int32) (v_o_sideBits : Int32) (v_o_inherited : Int32) (v_o_theYear : Int32) (x1 : Int32) (x2 : Int32) (u : Int32) (hf : f_X4_countDiffering v_o_houses x1 x2 = some u) : kMi l yX4_countDiffering wsX4_countDiffering rm_X4_countDiffering (dC, dI) (kTy cI cZ) [.ref a_o, .int x1, .int x2] [(a_o, .inr (4, [.int v_o_houses, .int v_o_children, .int v_o_living, .int v_o_sideBits, .int v_o_inherited, .int v_o_theYear, .ref a_o_worth, .ref a_o_birth, .ref a_o_home, .ref a_o_kind, .ref a_o_wealth]))] [(a_o, .inr (4, [.int v_o_houses, .int v_o_children, .int v_o_living, .int v_o_sideBits, .int v_o_inherited, .int v_o_theYear, .ref a_o_worth, .ref a_o_birth, .ref a_o_home, .ref a_o_kind, .ref a_o_wealth]))] u := by
  refine kMi_of sg_X4_countDiffering ⟨rfl, rfl⟩ (Nat.le_of_ble_eq_true rfl) ?_
  intro p e s m args below meth c A H0 Q hx hb hml hown hts hK hN hA hend H locs ls hP hD hS hl
  have hl : lv_has ls 6 [(0, .ref a_o), (1, .int x1), (2, .int x2)] := hl
  have hk32 := hts (.fieldLink RX4 32 "YoungestHouse$Town" "houses" "I") (by decide +kernel)
  have J_5 : ∀ (n_5 : Nat), ∀ (x3 : Int32) (x4 : Int32) (H : Heap) (locs : List Loc) (ls : Array Slot), va_P (dC, dI) vwCl [(a_o, .inr (4, [.int v_o_houses, .int v_o_children, .int v_o_living, .int v_o_sideBits, .int v_o_inherited, .int v_o_theYear, .ref a_o_worth, .ref a_o_birth, .ref a_o_home, .ref a_o_kind, .ref a_o_wealth]))] H → va_D A [(a_o, .inr (4, [.int v_o_houses, .int v_o_children, .int v_o_living, .int v_o_sideBits, .int v_o_inherited, .int v_o_theYear, .ref a_o_worth, .ref a_o_birth, .ref a_o_home, .ref a_o_kind, .ref a_o_wealth]))] → va_S A H0 H locs → lv_has ls 6 [(0, .ref a_o), (1, .int x1), (2, .int x2), (3, .int x3), (4, .int x4)] → f_X4_countDiffering_5 v_o_houses x1 x2 n_5 x3 x4 = some u → W p l e rm_X4_countDiffering s m args below meth c H locs 0 0 Q (F0 m 5 ls []) := by
    intro n_5
    induction n_5 with
    | zero => intro x3 x4 H locs ls hP hD hS hl hf; exact nomatch hf
    | succ n_5 ih_5 =>
      intro x3 x4 H locs ls hP hD hS hl hf
      have hf : f_X4_countDiffering_5_b v_o_houses x1 x2 (f_X4_countDiffering_5 v_o_houses x1 x2 n_5) x3 x4 = some u := hf
      unfold f_X4_countDiffering_5_b at hf
      refine lv_iload hx hb dX4_countDiffering_5 (lv_at hl 4 rfl) ?_
      refine lv_aload_n hx hb dX4_countDiffering_7 rfl (lv_at hl 0 rfl) ?_
      refine va_get (D := (dC, dI)) (ci := 4) (v := .int v_o_houses) (C := RX4) (T := TX4) (N := 11) hx hb hts in_X4_countDiffering_X4 hown hK hP 0 rfl rfl 0 (by decide) hk32 (fun _ h9 => h9) rfl dX4_countDiffering_8 ?_
      refine lv_icmp_ge (tgt := 47) hx hb dX4_countDiffering_11 (by decide) (fun c1 => ?_) (fun c1 => ?_)
      · replace hf := kt c1 hf
        refine lv_iload_n hx hb dX4_countDiffering_47 rfl (lv_at hl 3 rfl) ?_
        cases hf
        exact hend _ _ _ _ dX4_countDiffering_48 rfl hP hS
      · replace hf := kf c1 hf
        refine lv_iload_n hx hb dX4_countDiffering_14 rfl (lv_at hl 1 rfl) ?_
        refine lv_iload_n hx hb dX4_countDiffering_15 rfl (lv_at hl 2 rfl) ?_
        refine lv_ixor hx hb dX4_countDiffering_16 ?_
        refine lv_bipush (v := (7 : Int32)) hx hb dX4_countDiffering_17 (by decide) ?_
        refine lv_iload hx hb dX4_countDiffering_19 (lv_at hl 4 rfl) ?_
        refine lv_imul hx hb dX4_countDiffering_21 ?_
        refine lv_ishr hx hb dX4_countDiffering_22 ?_
        refine lv_istore (lv' := [(5, .int ((x1 ^^^ x2) >>> (((7 : Int32) * x4) &&& 31))), (0, .ref a_o), (1, .int x1), (2, .int x2), (3, .int x3), (4, .int x4)]) hx hb dX4_countDiffering_23 hl (by decide) rfl (fun ls hl => ?_)
        refine lv_iload hx hb dX4_countDiffering_25 (lv_at hl 0 rfl) ?_
        refine lv_bipush (v := (7 : Int32)) hx hb dX4_countDiffering_27 (by decide) ?_
        obtain ⟨u2, hu2, hf⟩ := kb1_e hf
        refine kc_i (wn := [(a_o, .inr (4, [.int v_o_houses, .int v_o_children, .int v_o_living, .int v_o_sideBits, .int v_o_inherited, .int v_o_theYear, .ref a_o_worth, .ref a_o_birth, .ref a_o_home, .ref a_o_kind, .ref a_o_wealth]))]) (kr_N (host := RX5) (As := [.int (7 : Int32)]) (rest := [.int ((x1 ^^^ x2) >>> (((7 : Int32) * x4) &&& 31))]) ⟨hx, hb, hml, hown, hts⟩ hK hN hP hD hl.1 (c_X5_bit l dC dI cI cZ (7 : Int32) u2 hu2 H.size) sg_X5_bit ⟨rfl, rfl⟩ ⟨Nat.le_of_ble_eq_true rfl, Nat.le_of_ble_eq_true rfl⟩ gX4_countDiffering_X5_bit_n67 (by decide +kernel) (by decide +kernel) (by decide +kernel) [] (by decide) rfl rfl rfl (Nat.le_of_ble_eq_true rfl) dX4_countDiffering_29 ⟨Nat.zero_le _, Nat.zero_le _⟩) hA hP hD hS [] rfl rfl rfl (fun H locs hP hD hS => ?_)
        refine lv_iconst (v := (1 : Int32)) hx hb dX4_countDiffering_32 (by decide) ?_
        refine lv_isub hx hb dX4_countDiffering_33 ?_
        refine lv_iand hx hb dX4_countDiffering_34 ?_
        refine lv_if_eq (tgt := 41) hx hb dX4_countDiffering_35 (by decide) (fun c3 => ?_) (fun c3 => ?_)
        · replace hf := kt c3 hf
          refine lv_iinc (v := (x4 + (1 : Int32))) (lv' := [(4, .int (x4 + (1 : Int32))), (5, .int ((x1 ^^^ x2) >>> (((7 : Int32) * x4) &&& 31))), (0, .ref a_o), (1, .int x1), (2, .int x2), (3, .int x3)]) hx hb dX4_countDiffering_41 hl (k := 5) rfl rfl (by decide) rfl (fun ls hl => ?_)
          refine lv_goto (tgt := 5) hx hb dX4_countDiffering_44 (by decide) ?_
          exact ih_5 x3 (x4 + (1 : Int32)) H locs ls hP hD hS (lv_sub hl [2, 3, 4, 5, 0] rfl) hf
        · replace hf := kf c3 hf
          refine lv_iinc (v := (x3 + (1 : Int32))) (lv' := [(3, .int (x3 + (1 : Int32))), (5, .int ((x1 ^^^ x2) >>> (((7 : Int32) * x4) &&& 31))), (0, .ref a_o), (1, .int x1), (2, .int x2), (4, .int x4)]) hx hb dX4_countDiffering_38 hl (k := 4) rfl rfl (by decide) rfl (fun ls hl => ?_)
          refine lv_iinc (v := (x4 + (1 : Int32))) (lv' := [(4, .int (x4 + (1 : Int32))), (3, .int (x3 + (1 : Int32))), (5, .int ((x1 ^^^ x2) >>> (((7 : Int32) * x4) &&& 31))), (0, .ref a_o), (1, .int x1), (2, .int x2)]) hx hb dX4_countDiffering_41 hl (k := 5) rfl rfl (by decide) rfl (fun ls hl => ?_)
          refine lv_goto (tgt := 5) hx hb dX4_countDiffering_44 (by decide) ?_
          exact ih_5 (x3 + (1 : Int32)) (x4 + (1 : Int32)) H locs ls hP hD hS (lv_sub hl [3, 4, 5, 1, 0] rfl) hf
  unfold f_X4_countDiffering at hf
  refine lv_iconst (v := (0 : Int32)) hx hb dX4_countDiffering_0 (by decide) ?_
  refine lv_istore_n (lv' := [(3, .int (0 : Int32)), (0, .ref a_o), (1, .int x1), (2, .int x2)]) hx hb dX4_countDiffering_1 rfl hl (by decide) rfl (fun ls hl => ?_)
  refine lv_iconst (v := (0 : Int32)) hx hb dX4_countDiffering_2 (by decide) ?_
  refine lv_istore (lv' := [(4, .int (0 : Int32)), (3, .int (0 : Int32)), (0, .ref a_o), (1, .int x1), (2, .int x2)]) hx hb dX4_countDiffering_3 hl (by decide) rfl (fun ls hl => ?_)
  exact J_5 1000 (0 : Int32) (0 : Int32) H locs ls hP hD hS (lv_sub hl [2, 3, 4, 1, 0] rfl) hf
theorem sg_X4_wealthInAll : kSig yX4_wealthInAll wsX4_wealthInAll cX4_wealthInAll 4 (some .int) RX4 1 := ⟨⟨_, rfl⟩, rfl, by decide, by decide +kernel, by decide +kernel, by decide +kernel⟩
abbrev rm_X4_wealthInAll : Room := { frames := 5, cells := 0, slots := 0, locals := 117 }
set_option maxRecDepth 20000 in
theorem in_X4_wealthInAll_X4 : ∀ w ∈ u_ws RX4 TX4 11, w ∈ wsX4_wealthInAll := by decide +kernel
set_option maxHeartbeats 4000000 in
set_option maxRecDepth 100000 in
theorem c_X4_wealthInAll (l : Launch) (dC : Nat → ClassId) (dI : Nat → Nat → Nat) (cI cZ : ClassId) (a_o a_o_worth a_o_birth a_o_home a_o_kind a_o_wealth a_o_worth_cells a_o_birth_cells a_o_home_cells a_o_kind_cells a_o_wealth_cells : Nat) (v_o_houses : Int32) (v_o_children : Int32) (v_o_living : Int32) (v_o_sideBits : Int32) (v_o_inherited : Int32) (v_o_theYear : Int32) (f_o_worth_cells : Nat → Int32) (f_o_birth_cells : Nat → Int32) (f_o_home_cells : Nat → Int32) (f_o_kind_cells : Nat → Int32) (f_o_wealth_cells : Nat → Int32) (x1 : Int32) (u : Int32) (hf : f_X4_wealthInAll v_o_children v_o_living v_o_sideBits v_o_inherited f_o_worth_cells f_o_birth_cells f_o_home_cells f_o_kind_cells f_o_wealth_cells x1 = some u) : kMi l yX4_wealthInAll wsX4_wealthInAll rm_X4_wealthInAll (dC, dI) (kTy cI cZ) [.ref a_o, .int x1] [(a_o, .inr (4, [.int v_o_houses, .int v_o_children, .int v_o_living, .int v_o_sideBits, .int v_o_inherited, .int v_o_theYear, .ref a_o_worth, .ref a_o_birth, .ref a_o_home, .ref a_o_kind, .ref a_o_wealth])), (a_o_worth, .inr (1, [.ref a_o_worth_cells])), (a_o_worth_cells, .inl (cI, 3, .inl f_o_worth_cells)), (a_o_birth, .inr (1, [.ref a_o_birth_cells])), (a_o_birth_cells, .inl (cI, 7, .inl f_o_birth_cells)), (a_o_home, .inr (1, [.ref a_o_home_cells])), (a_o_home_cells, .inl (cI, 7, .inl f_o_home_cells)), (a_o_kind, .inr (1, [.ref a_o_kind_cells])), (a_o_kind_cells, .inl (cI, 7, .inl f_o_kind_cells)), (a_o_wealth, .inr (1, [.ref a_o_wealth_cells])), (a_o_wealth_cells, .inl (cI, 7, .inl f_o_wealth_cells))] [(a_o, .inr (4, [.int v_o_houses, .int v_o_children, .int v_o_living, .int v_o_sideBits, .int v_o_inherited, .int v_o_theYear, .ref a_o_worth, .ref a_o_birth, .ref a_o_home, .ref a_o_kind, .ref a_o_wealth])), (a_o_worth, .inr (1, [.ref a_o_worth_cells])), (a_o_worth_cells, .inl (cI, 3, .inl f_o_worth_cells)), (a_o_birth, .inr (1, [.ref a_o_birth_cells])), (a_o_birth_cells, .inl (cI, 7, .inl f_o_birth_cells)), (a_o_home, .inr (1, [.ref a_o_home_cells])), (a_o_home_cells, .inl (cI, 7, .inl f_o_home_cells)), (a_o_kind, .inr (1, [.ref a_o_kind_cells])), (a_o_kind_cells, .inl (cI, 7, .inl f_o_kind_cells)), (a_o_wealth, .inr (1, [.ref a_o_wealth_cells])), (a_o_wealth_cells, .inl (cI, 7, .inl f_o_wealth_cells))] u := by
  refine kMi_of sg_X4_wealthInAll ⟨rfl, rfl⟩ (Nat.le_of_ble_eq_true rfl) ?_
  intro p e s m args below meth c A H0 Q hx hb hml hown hts hK hN hA hend H locs ls hP hD hS hl
  have hl : lv_has ls 4 [(0, .ref a_o), (1, .int x1)] := hl
  have hk23 := hts (.fieldLink RX4 23 "YoungestHouse$Town" "home" "LYoungestHouse$Row;") (by decide +kernel)
  have hk29 := hts (.fieldLink RX4 29 "YoungestHouse$Town" "wealth" "LYoungestHouse$Row;") (by decide +kernel)
  have hk45 := hts (.fieldLink RX4 45 "YoungestHouse$Town" "inherited" "I") (by decide +kernel)
  have J_29 : ∀ (x2 : Int32) (t0 : Int32) (H : Heap) (locs : List Loc) (ls : Array Slot), va_P (dC, dI) vwCl [(a_o, .inr (4, [.int v_o_houses, .int v_o_children, .int v_o_living, .int v_o_sideBits, .int v_o_inherited, .int v_o_theYear, .ref a_o_worth, .ref a_o_birth, .ref a_o_home, .ref a_o_kind, .ref a_o_wealth])), (a_o_worth, .inr (1, [.ref a_o_worth_cells])), (a_o_worth_cells, .inl (cI, 3, .inl f_o_worth_cells)), (a_o_birth, .inr (1, [.ref a_o_birth_cells])), (a_o_birth_cells, .inl (cI, 7, .inl f_o_birth_cells)), (a_o_home, .inr (1, [.ref a_o_home_cells])), (a_o_home_cells, .inl (cI, 7, .inl f_o_home_cells)), (a_o_kind, .inr (1, [.ref a_o_kind_cells])), (a_o_kind_cells, .inl (cI, 7, .inl f_o_kind_cells)), (a_o_wealth, .inr (1, [.ref a_o_wealth_cells])), (a_o_wealth_cells, .inl (cI, 7, .inl f_o_wealth_cells))] H → va_D A [(a_o, .inr (4, [.int v_o_houses, .int v_o_children, .int v_o_living, .int v_o_sideBits, .int v_o_inherited, .int v_o_theYear, .ref a_o_worth, .ref a_o_birth, .ref a_o_home, .ref a_o_kind, .ref a_o_wealth])), (a_o_worth, .inr (1, [.ref a_o_worth_cells])), (a_o_worth_cells, .inl (cI, 3, .inl f_o_worth_cells)), (a_o_birth, .inr (1, [.ref a_o_birth_cells])), (a_o_birth_cells, .inl (cI, 7, .inl f_o_birth_cells)), (a_o_home, .inr (1, [.ref a_o_home_cells])), (a_o_home_cells, .inl (cI, 7, .inl f_o_home_cells)), (a_o_kind, .inr (1, [.ref a_o_kind_cells])), (a_o_kind_cells, .inl (cI, 7, .inl f_o_kind_cells)), (a_o_wealth, .inr (1, [.ref a_o_wealth_cells])), (a_o_wealth_cells, .inl (cI, 7, .inl f_o_wealth_cells))] → va_S A H0 H locs → lv_has ls 4 [(0, .ref a_o), (1, .int x1), (2, .int x2)] → f_X4_wealthInAll_29 v_o_children v_o_living v_o_sideBits v_o_inherited f_o_worth_cells f_o_birth_cells f_o_home_cells f_o_kind_cells f_o_wealth_cells x1 x2 t0 = some u → W p l e rm_X4_wealthInAll s m args below meth c H locs 0 0 Q (F0 m 29 ls [.int t0]) := by
    intro x2 t0 H locs ls hP hD hS hl hf
    unfold f_X4_wealthInAll_29 at hf
    refine lv_istore_n (lv' := [(3, .int t0), (0, .ref a_o), (1, .int x1), (2, .int x2)]) hx hb dX4_wealthInAll_29 rfl hl (by decide) rfl (fun ls hl => ?_)
    refine lv_aload_n hx hb dX4_wealthInAll_30 rfl (lv_at hl 1 rfl) ?_
    refine va_get (D := (dC, dI)) (ci := 4) (v := .ref a_o_wealth) (C := RX4) (T := TX4) (N := 11) hx hb hts in_X4_wealthInAll_X4 hown hK hP 0 rfl rfl 10 (by decide) hk29 (fun _ h9 => h9) rfl dX4_wealthInAll_31 ?_
    refine lv_iload_n hx hb dX4_wealthInAll_34 rfl (lv_at hl 2 rfl) ?_
    obtain ⟨u1, hu1, hf⟩ := kb1_e hf
    refine kc_i (wn := [(a_o, .inr (4, [.int v_o_houses, .int v_o_children, .int v_o_living, .int v_o_sideBits, .int v_o_inherited, .int v_o_theYear, .ref a_o_worth, .ref a_o_birth, .ref a_o_home, .ref a_o_kind, .ref a_o_wealth])), (a_o_worth, .inr (1, [.ref a_o_worth_cells])), (a_o_worth_cells, .inl (cI, 3, .inl f_o_worth_cells)), (a_o_birth, .inr (1, [.ref a_o_birth_cells])), (a_o_birth_cells, .inl (cI, 7, .inl f_o_birth_cells)), (a_o_home, .inr (1, [.ref a_o_home_cells])), (a_o_home_cells, .inl (cI, 7, .inl f_o_home_cells)), (a_o_kind, .inr (1, [.ref a_o_kind_cells])), (a_o_kind_cells, .inl (cI, 7, .inl f_o_kind_cells)), (a_o_wealth, .inr (1, [.ref a_o_wealth_cells])), (a_o_wealth_cells, .inl (cI, 7, .inl f_o_wealth_cells))]) (kr_V (As := [.int x1]) (rest := []) ⟨hx, hb, hml, hown, hts⟩ hK hN hP hD hl.1 (c_X1_get l dC dI cI cZ a_o_wealth a_o_wealth_cells 7 f_o_wealth_cells x1 u1 hu1 H.size) sg_X1_get ⟨rfl, rfl⟩ ⟨Nat.le_of_ble_eq_true rfl, Nat.le_of_ble_eq_true rfl⟩ gX4_wealthInAll_X1_get 9 rfl rfl rfl [9, 10] (by decide) rfl rfl rfl (Nat.le_of_ble_eq_true rfl) dX4_wealthInAll_35 ⟨Nat.zero_le _, Nat.zero_le _⟩) hA hP hD hS [9, 10] rfl rfl rfl (fun H locs hP hD hS => ?_)
    refine lv_iload_n hx hb dX4_wealthInAll_38 rfl (lv_at hl 0 rfl) ?_
    refine lv_iload_n hx hb dX4_wealthInAll_39 rfl (lv_at hl 2 rfl) ?_
    obtain ⟨u2, hu2, hf⟩ := kb1_e hf
    refine kc_i (wn := [(a_o, .inr (4, [.int v_o_houses, .int v_o_children, .int v_o_living, .int v_o_sideBits, .int v_o_inherited, .int v_o_theYear, .ref a_o_worth, .ref a_o_birth, .ref a_o_home, .ref a_o_kind, .ref a_o_wealth])), (a_o_worth, .inr (1, [.ref a_o_worth_cells])), (a_o_worth_cells, .inl (cI, 3, .inl f_o_worth_cells)), (a_o_birth, .inr (1, [.ref a_o_birth_cells])), (a_o_birth_cells, .inl (cI, 7, .inl f_o_birth_cells)), (a_o_home, .inr (1, [.ref a_o_home_cells])), (a_o_home_cells, .inl (cI, 7, .inl f_o_home_cells)), (a_o_kind, .inr (1, [.ref a_o_kind_cells])), (a_o_kind_cells, .inl (cI, 7, .inl f_o_kind_cells)), (a_o_wealth, .inr (1, [.ref a_o_wealth_cells])), (a_o_wealth_cells, .inl (cI, 7, .inl f_o_wealth_cells))]) (kr_N (host := RX5) (As := [.int t0, .int x1]) (rest := [.int u1]) ⟨hx, hb, hml, hown, hts⟩ hK hN hP hD hl.1 (c_X5_isIn l dC dI cI cZ t0 x1 u2 hu2 H.size) sg_X5_isIn ⟨rfl, rfl⟩ ⟨Nat.le_of_ble_eq_true rfl, Nat.le_of_ble_eq_true rfl⟩ gX4_wealthInAll_X5_isIn_n59 (by decide +kernel) (by decide +kernel) (by decide +kernel) [] (by decide) rfl rfl rfl (Nat.le_of_ble_eq_true rfl) dX4_wealthInAll_40 ⟨Nat.zero_le _, Nat.zero_le _⟩) hA hP hD hS [] rfl rfl rfl (fun H locs hP hD hS => ?_)
    refine lv_if_eq (tgt := 55) hx hb dX4_wealthInAll_43 (by decide) (fun c3 => ?_) (fun c3 => ?_)
    · replace hf := kt c3 hf
      refine lv_iconst (v := (0 : Int32)) hx hb dX4_wealthInAll_55 (by decide) ?_
      refine lv_iadd hx hb dX4_wealthInAll_56 ?_
      cases hf
      exact hend _ _ _ _ dX4_wealthInAll_57 rfl hP hS
    · replace hf := kf c3 hf
      refine lv_aload_n hx hb dX4_wealthInAll_46 rfl (lv_at hl 1 rfl) ?_
      refine lv_iload_n hx hb dX4_wealthInAll_47 rfl (lv_at hl 3 rfl) ?_
      refine lv_iload_n hx hb dX4_wealthInAll_48 rfl (lv_at hl 0 rfl) ?_
      obtain ⟨u4, hu4, hf⟩ := kb1_e hf
      refine kc_i (wn := [(a_o, .inr (4, [.int v_o_houses, .int v_o_children, .int v_o_living, .int v_o_sideBits, .int v_o_inherited, .int v_o_theYear, .ref a_o_worth, .ref a_o_birth, .ref a_o_home, .ref a_o_kind, .ref a_o_wealth])), (a_o_worth, .inr (1, [.ref a_o_worth_cells])), (a_o_worth_cells, .inl (cI, 3, .inl f_o_worth_cells)), (a_o_birth, .inr (1, [.ref a_o_birth_cells])), (a_o_birth_cells, .inl (cI, 7, .inl f_o_birth_cells)), (a_o_home, .inr (1, [.ref a_o_home_cells])), (a_o_home_cells, .inl (cI, 7, .inl f_o_home_cells)), (a_o_kind, .inr (1, [.ref a_o_kind_cells])), (a_o_kind_cells, .inl (cI, 7, .inl f_o_kind_cells)), (a_o_wealth, .inr (1, [.ref a_o_wealth_cells])), (a_o_wealth_cells, .inl (cI, 7, .inl f_o_wealth_cells))]) (kr_V (As := [.int x2, .int t0]) (rest := [.int u1]) ⟨hx, hb, hml, hown, hts⟩ hK hN hP hD hl.1 (c_X4_partOf l dC dI cI cZ a_o a_o_worth a_o_birth a_o_home a_o_kind a_o_wealth a_o_worth_cells v_o_houses v_o_children v_o_living v_o_sideBits v_o_inherited v_o_theYear f_o_worth_cells x2 t0 u4 hu4 H.size) sg_X4_partOf ⟨rfl, rfl⟩ ⟨Nat.le_of_ble_eq_true rfl, Nat.le_of_ble_eq_true rfl⟩ gX4_wealthInAll_X4_partOf 0 rfl rfl rfl [0, 1, 2] (by decide) rfl rfl rfl (Nat.le_of_ble_eq_true rfl) dX4_wealthInAll_49 ⟨Nat.zero_le _, Nat.zero_le _⟩) hA hP hD hS [0, 1, 2] rfl rfl rfl (fun H locs hP hD hS => ?_)
      refine lv_goto (tgt := 56) hx hb dX4_wealthInAll_52 (by decide) ?_
      refine lv_iadd hx hb dX4_wealthInAll_56 ?_
      cases hf
      exact hend _ _ _ _ dX4_wealthInAll_57 rfl hP hS
  unfold f_X4_wealthInAll at hf
  refine lv_aload_n hx hb dX4_wealthInAll_0 rfl (lv_at hl 0 rfl) ?_
  refine va_get (D := (dC, dI)) (ci := 4) (v := .ref a_o_home) (C := RX4) (T := TX4) (N := 11) hx hb hts in_X4_wealthInAll_X4 hown hK hP 0 rfl rfl 8 (by decide) hk23 (fun _ h9 => h9) rfl dX4_wealthInAll_1 ?_
  refine lv_iload_n hx hb dX4_wealthInAll_4 rfl (lv_at hl 1 rfl) ?_
  obtain ⟨u5, hu5, hf⟩ := kb1_e hf
  refine kc_i (wn := [(a_o, .inr (4, [.int v_o_houses, .int v_o_children, .int v_o_living, .int v_o_sideBits, .int v_o_inherited, .int v_o_theYear, .ref a_o_worth, .ref a_o_birth, .ref a_o_home, .ref a_o_kind, .ref a_o_wealth])), (a_o_worth, .inr (1, [.ref a_o_worth_cells])), (a_o_worth_cells, .inl (cI, 3, .inl f_o_worth_cells)), (a_o_birth, .inr (1, [.ref a_o_birth_cells])), (a_o_birth_cells, .inl (cI, 7, .inl f_o_birth_cells)), (a_o_home, .inr (1, [.ref a_o_home_cells])), (a_o_home_cells, .inl (cI, 7, .inl f_o_home_cells)), (a_o_kind, .inr (1, [.ref a_o_kind_cells])), (a_o_kind_cells, .inl (cI, 7, .inl f_o_kind_cells)), (a_o_wealth, .inr (1, [.ref a_o_wealth_cells])), (a_o_wealth_cells, .inl (cI, 7, .inl f_o_wealth_cells))]) (kr_V (As := [.int x1]) (rest := []) ⟨hx, hb, hml, hown, hts⟩ hK hN hP hD hl.1 (c_X1_get l dC dI cI cZ a_o_home a_o_home_cells 7 f_o_home_cells x1 u5 hu5 H.size) sg_X1_get ⟨rfl, rfl⟩ ⟨Nat.le_of_ble_eq_true rfl, Nat.le_of_ble_eq_true rfl⟩ gX4_wealthInAll_X1_get 5 rfl rfl rfl [5, 6] (by decide) rfl rfl rfl (Nat.le_of_ble_eq_true rfl) dX4_wealthInAll_5 ⟨Nat.zero_le _, Nat.zero_le _⟩) hA hP hD hS [5, 6] rfl rfl rfl (fun H locs hP hD hS => ?_)
  refine lv_istore_n (lv' := [(2, .int u5), (0, .ref a_o), (1, .int x1)]) hx hb dX4_wealthInAll_8 rfl hl (by decide) rfl (fun ls hl => ?_)
  refine lv_aload_n hx hb dX4_wealthInAll_9 rfl (lv_at hl 1 rfl) ?_
  refine va_get (D := (dC, dI)) (ci := 4) (v := .int v_o_inherited) (C := RX4) (T := TX4) (N := 11) hx hb hts in_X4_wealthInAll_X4 hown hK hP 0 rfl rfl 4 (by decide) hk45 (fun _ h9 => h9) rfl dX4_wealthInAll_10 ?_
  refine lv_iload_n hx hb dX4_wealthInAll_13 rfl (lv_at hl 0 rfl) ?_
  obtain ⟨u6, hu6, hf⟩ := kb1_e hf
  refine kc_i (wn := [(a_o, .inr (4, [.int v_o_houses, .int v_o_children, .int v_o_living, .int v_o_sideBits, .int v_o_inherited, .int v_o_theYear, .ref a_o_worth, .ref a_o_birth, .ref a_o_home, .ref a_o_kind, .ref a_o_wealth])), (a_o_worth, .inr (1, [.ref a_o_worth_cells])), (a_o_worth_cells, .inl (cI, 3, .inl f_o_worth_cells)), (a_o_birth, .inr (1, [.ref a_o_birth_cells])), (a_o_birth_cells, .inl (cI, 7, .inl f_o_birth_cells)), (a_o_home, .inr (1, [.ref a_o_home_cells])), (a_o_home_cells, .inl (cI, 7, .inl f_o_home_cells)), (a_o_kind, .inr (1, [.ref a_o_kind_cells])), (a_o_kind_cells, .inl (cI, 7, .inl f_o_kind_cells)), (a_o_wealth, .inr (1, [.ref a_o_wealth_cells])), (a_o_wealth_cells, .inl (cI, 7, .inl f_o_wealth_cells))]) (kr_N (host := RX5) (As := [.int v_o_inherited, .int u5]) (rest := []) ⟨hx, hb, hml, hown, hts⟩ hK hN hP hD hl.1 (c_X5_isIn l dC dI cI cZ v_o_inherited u5 u6 hu6 H.size) sg_X5_isIn ⟨rfl, rfl⟩ ⟨Nat.le_of_ble_eq_true rfl, Nat.le_of_ble_eq_true rfl⟩ gX4_wealthInAll_X5_isIn_n59 (by decide +kernel) (by decide +kernel) (by decide +kernel) [] (by decide) rfl rfl rfl (Nat.le_of_ble_eq_true rfl) dX4_wealthInAll_14 ⟨Nat.zero_le _, Nat.zero_le _⟩) hA hP hD hS [] rfl rfl rfl (fun H locs hP hD hS => ?_)
  refine lv_if_eq (tgt := 24) hx hb dX4_wealthInAll_17 (by decide) (fun c7 => ?_) (fun c7 => ?_)
  · replace hf := kt c7 hf
    refine lv_aload_n hx hb dX4_wealthInAll_24 rfl (lv_at hl 1 rfl) ?_
    refine lv_iload_n hx hb dX4_wealthInAll_25 rfl (lv_at hl 0 rfl) ?_
    obtain ⟨u8, hu8, hf⟩ := kb1_e hf
    refine kc_i (wn := [(a_o, .inr (4, [.int v_o_houses, .int v_o_children, .int v_o_living, .int v_o_sideBits, .int v_o_inherited, .int v_o_theYear, .ref a_o_worth, .ref a_o_birth, .ref a_o_home, .ref a_o_kind, .ref a_o_wealth])), (a_o_worth, .inr (1, [.ref a_o_worth_cells])), (a_o_worth_cells, .inl (cI, 3, .inl f_o_worth_cells)), (a_o_birth, .inr (1, [.ref a_o_birth_cells])), (a_o_birth_cells, .inl (cI, 7, .inl f_o_birth_cells)), (a_o_home, .inr (1, [.ref a_o_home_cells])), (a_o_home_cells, .inl (cI, 7, .inl f_o_home_cells)), (a_o_kind, .inr (1, [.ref a_o_kind_cells])), (a_o_kind_cells, .inl (cI, 7, .inl f_o_kind_cells)), (a_o_wealth, .inr (1, [.ref a_o_wealth_cells])), (a_o_wealth_cells, .inl (cI, 7, .inl f_o_wealth_cells))]) (kr_V (As := [.int u5]) (rest := []) ⟨hx, hb, hml, hown, hts⟩ hK hN hP hD hl.1 (c_X4_heirsOf l dC dI cI cZ a_o a_o_worth a_o_birth a_o_home a_o_kind a_o_wealth a_o_birth_cells a_o_home_cells a_o_kind_cells v_o_houses v_o_children v_o_living v_o_sideBits v_o_inherited v_o_theYear f_o_birth_cells f_o_home_cells f_o_kind_cells u5 u8 hu8 H.size) sg_X4_heirsOf ⟨rfl, rfl⟩ ⟨Nat.le_of_ble_eq_true rfl, Nat.le_of_ble_eq_true rfl⟩ gX4_wealthInAll_X4_heirsOf 0 rfl rfl rfl [0, 3, 4, 5, 6, 7, 8] (by decide) rfl rfl rfl (Nat.le_of_ble_eq_true rfl) dX4_wealthInAll_26 ⟨Nat.zero_le _, Nat.zero_le _⟩) hA hP hD hS [0, 3, 4, 5, 6, 7, 8] rfl rfl rfl (fun H locs hP hD hS => ?_)
    exact J_29 u5 u8 H locs ls hP hD hS (lv_sub hl [1, 2, 0] rfl) hf
  · replace hf := kf c7 hf
    refine lv_iconst (v := (0 : Int32)) hx hb dX4_wealthInAll_20 (by decide) ?_
    refine lv_goto (tgt := 29) hx hb dX4_wealthInAll_21 (by decide) ?_
    exact J_29 u5 (0 : Int32) H locs ls hP hD hS (lv_sub hl [1, 2, 0] rfl) hf
theorem sg_X4_fewestInTheWay : kSig yX4_fewestInTheWay wsX4_fewestInTheWay cX4_fewestInTheWay 6 (some .int) RX4 2 := ⟨⟨_, rfl⟩, rfl, by decide, by decide +kernel, by decide +kernel, by decide +kernel⟩
abbrev rm_X4_fewestInTheWay : Room := { frames := 4, cells := 0, slots := 0, locals := 96 }
set_option maxRecDepth 20000 in
theorem in_X4_fewestInTheWay_X4 : ∀ w ∈ u_ws RX4 TX4 11, w ∈ wsX4_fewestInTheWay := by decide +kernel
set_option maxHeartbeats 4000000 in
set_option maxRecDepth 100000 in
theorem c_X4_fewestInTheWay (l : Launch) (dC : Nat → ClassId) (dI : Nat → Nat → Nat) (cI cZ : ClassId) (a_o a_o_worth a_o_birth a_o_home a_o_kind a_o_wealth a_o_birth_cells a_o_home_cells a_o_kind_cells : Nat) (v_o_houses : Int32) (v_o_children : Int32) (v_o_living : Int32) (v_o_sideBits : Int32) (v_o_inherited : Int32) (v_o_theYear : Int32) (f_o_birth_cells : Nat → Int32) (f_o_home_cells : Nat → Int32) (f_o_kind_cells : Nat → Int32) (x1 : Int32) (x2 : Int32) (u : Int32) (hf : f_X4_fewestInTheWay v_o_children v_o_living v_o_sideBits f_o_birth_cells f_o_home_cells f_o_kind_cells x1 x2 = some u) : kMi l yX4_fewestInTheWay wsX4_fewestInTheWay rm_X4_fewestInTheWay (dC, dI) (kTy cI cZ) [.ref a_o, .int x1, .int x2] [(a_o, .inr (4, [.int v_o_houses, .int v_o_children, .int v_o_living, .int v_o_sideBits, .int v_o_inherited, .int v_o_theYear, .ref a_o_worth, .ref a_o_birth, .ref a_o_home, .ref a_o_kind, .ref a_o_wealth])), (a_o_birth, .inr (1, [.ref a_o_birth_cells])), (a_o_birth_cells, .inl (cI, 7, .inl f_o_birth_cells)), (a_o_home, .inr (1, [.ref a_o_home_cells])), (a_o_home_cells, .inl (cI, 7, .inl f_o_home_cells)), (a_o_kind, .inr (1, [.ref a_o_kind_cells])), (a_o_kind_cells, .inl (cI, 7, .inl f_o_kind_cells))] [(a_o, .inr (4, [.int v_o_houses, .int v_o_children, .int v_o_living, .int v_o_sideBits, .int v_o_inherited, .int v_o_theYear, .ref a_o_worth, .ref a_o_birth, .ref a_o_home, .ref a_o_kind, .ref a_o_wealth])), (a_o_birth, .inr (1, [.ref a_o_birth_cells])), (a_o_birth_cells, .inl (cI, 7, .inl f_o_birth_cells)), (a_o_home, .inr (1, [.ref a_o_home_cells])), (a_o_home_cells, .inl (cI, 7, .inl f_o_home_cells)), (a_o_kind, .inr (1, [.ref a_o_kind_cells])), (a_o_kind_cells, .inl (cI, 7, .inl f_o_kind_cells))] u := by
  refine kMi_of sg_X4_fewestInTheWay ⟨rfl, rfl⟩ (Nat.le_of_ble_eq_true rfl) ?_
  intro p e s m args below meth c A H0 Q hx hb hml hown hts hK hN hA hend H locs ls hP hD hS hl
  have hl : lv_has ls 6 [(0, .ref a_o), (1, .int x1), (2, .int x2)] := hl
  have hk23 := hts (.fieldLink RX4 23 "YoungestHouse$Town" "home" "LYoungestHouse$Row;") (by decide +kernel)
  have hk39 := hts (.fieldLink RX4 39 "YoungestHouse$Town" "living" "I") (by decide +kernel)
  have J_34 : ∀ (n_34 : Nat), ∀ (x3 : Int32) (x4 : Int32) (x5 : Int32) (H : Heap) (locs : List Loc) (ls : Array Slot), va_P (dC, dI) vwCl [(a_o, .inr (4, [.int v_o_houses, .int v_o_children, .int v_o_living, .int v_o_sideBits, .int v_o_inherited, .int v_o_theYear, .ref a_o_worth, .ref a_o_birth, .ref a_o_home, .ref a_o_kind, .ref a_o_wealth])), (a_o_birth, .inr (1, [.ref a_o_birth_cells])), (a_o_birth_cells, .inl (cI, 7, .inl f_o_birth_cells)), (a_o_home, .inr (1, [.ref a_o_home_cells])), (a_o_home_cells, .inl (cI, 7, .inl f_o_home_cells)), (a_o_kind, .inr (1, [.ref a_o_kind_cells])), (a_o_kind_cells, .inl (cI, 7, .inl f_o_kind_cells))] H → va_D A [(a_o, .inr (4, [.int v_o_houses, .int v_o_children, .int v_o_living, .int v_o_sideBits, .int v_o_inherited, .int v_o_theYear, .ref a_o_worth, .ref a_o_birth, .ref a_o_home, .ref a_o_kind, .ref a_o_wealth])), (a_o_birth, .inr (1, [.ref a_o_birth_cells])), (a_o_birth_cells, .inl (cI, 7, .inl f_o_birth_cells)), (a_o_home, .inr (1, [.ref a_o_home_cells])), (a_o_home_cells, .inl (cI, 7, .inl f_o_home_cells)), (a_o_kind, .inr (1, [.ref a_o_kind_cells])), (a_o_kind_cells, .inl (cI, 7, .inl f_o_kind_cells))] → va_S A H0 H locs → lv_has ls 6 [(0, .ref a_o), (1, .int x1), (2, .int x2), (3, .int x3), (4, .int x4), (5, .int x5)] → f_X4_fewestInTheWay_34 v_o_children v_o_living v_o_sideBits f_o_birth_cells f_o_home_cells f_o_kind_cells x1 x2 n_34 x3 x4 x5 = some u → W p l e rm_X4_fewestInTheWay s m args below meth c H locs 0 0 Q (F0 m 34 ls []) := by
    intro n_34
    induction n_34 with
    | zero => intro x3 x4 x5 H locs ls hP hD hS hl hf; exact nomatch hf
    | succ n_34 ih_34 =>
      intro x3 x4 x5 H locs ls hP hD hS hl hf
      have hf : f_X4_fewestInTheWay_34_b v_o_children v_o_living v_o_sideBits f_o_birth_cells f_o_home_cells f_o_kind_cells x1 x2 (f_X4_fewestInTheWay_34 v_o_children v_o_living v_o_sideBits f_o_birth_cells f_o_home_cells f_o_kind_cells x1 x2 n_34) x3 x4 x5 = some u := hf
      unfold f_X4_fewestInTheWay_34_b at hf
      refine lv_iload hx hb dX4_fewestInTheWay_34 (lv_at hl 5 rfl) ?_
      refine lv_bipush (v := (7 : Int32)) hx hb dX4_fewestInTheWay_36 (by decide) ?_
      obtain ⟨u1, hu1, hf⟩ := kb1_e hf
      refine kc_i (wn := [(a_o, .inr (4, [.int v_o_houses, .int v_o_children, .int v_o_living, .int v_o_sideBits, .int v_o_inherited, .int v_o_theYear, .ref a_o_worth, .ref a_o_birth, .ref a_o_home, .ref a_o_kind, .ref a_o_wealth])), (a_o_birth, .inr (1, [.ref a_o_birth_cells])), (a_o_birth_cells, .inl (cI, 7, .inl f_o_birth_cells)), (a_o_home, .inr (1, [.ref a_o_home_cells])), (a_o_home_cells, .inl (cI, 7, .inl f_o_home_cells)), (a_o_kind, .inr (1, [.ref a_o_kind_cells])), (a_o_kind_cells, .inl (cI, 7, .inl f_o_kind_cells))]) (kr_N (host := RX5) (As := [.int (7 : Int32)]) (rest := [.int x5]) ⟨hx, hb, hml, hown, hts⟩ hK hN hP hD hl.1 (c_X5_bit l dC dI cI cZ (7 : Int32) u1 hu1 H.size) sg_X5_bit ⟨rfl, rfl⟩ ⟨Nat.le_of_ble_eq_true rfl, Nat.le_of_ble_eq_true rfl⟩ gX4_fewestInTheWay_X5_bit_n67 (by decide +kernel) (by decide +kernel) (by decide +kernel) [] (by decide) rfl rfl rfl (Nat.le_of_ble_eq_true rfl) dX4_fewestInTheWay_38 ⟨Nat.zero_le _, Nat.zero_le _⟩) hA hP hD hS [] rfl rfl rfl (fun H locs hP hD hS => ?_)
      refine lv_icmp_ge (tgt := 105) hx hb dX4_fewestInTheWay_41 (by decide) (fun c2 => ?_) (fun c2 => ?_)
      · replace hf := kt c2 hf
        refine lv_iload hx hb dX4_fewestInTheWay_105 (lv_at hl 4 rfl) ?_
        cases hf
        exact hend _ _ _ _ dX4_fewestInTheWay_107 rfl hP hS
      · replace hf := kf c2 hf
        refine lv_iload hx hb dX4_fewestInTheWay_44 (lv_at hl 5 rfl) ?_
        refine lv_iload_n hx hb dX4_fewestInTheWay_46 rfl (lv_at hl 3 rfl) ?_
        refine lv_iconst (v := (-1 : Int32)) hx hb dX4_fewestInTheWay_47 (by decide) ?_
        refine lv_ixor hx hb dX4_fewestInTheWay_48 ?_
        refine lv_iand hx hb dX4_fewestInTheWay_49 ?_
        refine lv_if_ne (tgt := 99) hx hb dX4_fewestInTheWay_50 (by decide) (fun c3 => ?_) (fun c3 => ?_)
        · replace hf := kf c3 hf
          refine lv_iinc (v := (x5 + (1 : Int32))) (lv' := [(5, .int (x5 + (1 : Int32))), (0, .ref a_o), (1, .int x1), (2, .int x2), (3, .int x3), (4, .int x4)]) hx hb dX4_fewestInTheWay_99 hl (k := 5) rfl rfl (by decide) rfl (fun ls hl => ?_)
          refine lv_goto (tgt := 34) hx hb dX4_fewestInTheWay_102 (by decide) ?_
          exact ih_34 x3 x4 (x5 + (1 : Int32)) H locs ls hP hD hS (lv_sub hl [1, 2, 3, 4, 5, 0] rfl) hf
        · replace hf := kt c3 hf
          refine lv_iload hx hb dX4_fewestInTheWay_53 (lv_at hl 5 rfl) ?_
          obtain ⟨u4, hu4, hf⟩ := kb1_e hf
          refine kc_i (wn := [(a_o, .inr (4, [.int v_o_houses, .int v_o_children, .int v_o_living, .int v_o_sideBits, .int v_o_inherited, .int v_o_theYear, .ref a_o_worth, .ref a_o_birth, .ref a_o_home, .ref a_o_kind, .ref a_o_wealth])), (a_o_birth, .inr (1, [.ref a_o_birth_cells])), (a_o_birth_cells, .inl (cI, 7, .inl f_o_birth_cells)), (a_o_home, .inr (1, [.ref a_o_home_cells])), (a_o_home_cells, .inl (cI, 7, .inl f_o_home_cells)), (a_o_kind, .inr (1, [.ref a_o_kind_cells])), (a_o_kind_cells, .inl (cI, 7, .inl f_o_kind_cells))]) (kr_T (As := [.int x5]) (rest := []) ⟨hx, hb, hml, hown, hts⟩ hK hN hP hD hl.1 (c_J6_bitCount_0f7a4 l dC dI cI cZ x5 u4 hu4 H.size) sg_J6_bitCount_0f7a4 ⟨rfl, rfl⟩ ⟨Nat.le_of_ble_eq_true rfl, Nat.le_of_ble_eq_true rfl⟩ gX4_fewestInTheWay_J6_bitCount_0f7a4 [] (by decide) rfl rfl rfl (Nat.le_of_ble_eq_true rfl) dX4_fewestInTheWay_55 ⟨Nat.zero_le _, Nat.zero_le _⟩) hA hP hD hS [] rfl rfl rfl (fun H locs hP hD hS => ?_)
          refine lv_iload hx hb dX4_fewestInTheWay_58 (lv_at hl 4 rfl) ?_
          obtain ⟨u5, hu5, hf⟩ := kb1_e hf
          refine kc_i (wn := [(a_o, .inr (4, [.int v_o_houses, .int v_o_children, .int v_o_living, .int v_o_sideBits, .int v_o_inherited, .int v_o_theYear, .ref a_o_worth, .ref a_o_birth, .ref a_o_home, .ref a_o_kind, .ref a_o_wealth])), (a_o_birth, .inr (1, [.ref a_o_birth_cells])), (a_o_birth_cells, .inl (cI, 7, .inl f_o_birth_cells)), (a_o_home, .inr (1, [.ref a_o_home_cells])), (a_o_home_cells, .inl (cI, 7, .inl f_o_home_cells)), (a_o_kind, .inr (1, [.ref a_o_kind_cells])), (a_o_kind_cells, .inl (cI, 7, .inl f_o_kind_cells))]) (kr_T (As := [.int x4]) (rest := [.int u4]) ⟨hx, hb, hml, hown, hts⟩ hK hN hP hD hl.1 (c_J6_bitCount_0f7a4 l dC dI cI cZ x4 u5 hu5 H.size) sg_J6_bitCount_0f7a4 ⟨rfl, rfl⟩ ⟨Nat.le_of_ble_eq_true rfl, Nat.le_of_ble_eq_true rfl⟩ gX4_fewestInTheWay_J6_bitCount_0f7a4 [] (by decide) rfl rfl rfl (Nat.le_of_ble_eq_true rfl) dX4_fewestInTheWay_60 ⟨Nat.zero_le _, Nat.zero_le _⟩) hA hP hD hS [] rfl rfl rfl (fun H locs hP hD hS => ?_)
          refine lv_icmp_lt (tgt := 69) hx hb dX4_fewestInTheWay_63 (by decide) (fun c6 => ?_) (fun c6 => ?_)
          · replace hf := kt c6 hf
            refine lv_aload_n hx hb dX4_fewestInTheWay_69 rfl (lv_at hl 0 rfl) ?_
            refine lv_iload_n hx hb dX4_fewestInTheWay_70 rfl (lv_at hl 2 rfl) ?_
            refine lv_aload_n hx hb dX4_fewestInTheWay_71 rfl (lv_at hl 0 rfl) ?_
            refine lv_iload_n hx hb dX4_fewestInTheWay_72 rfl (lv_at hl 2 rfl) ?_
            obtain ⟨u7, hu7, hf⟩ := kb1_e hf
            refine kc_i (wn := [(a_o, .inr (4, [.int v_o_houses, .int v_o_children, .int v_o_living, .int v_o_sideBits, .int v_o_inherited, .int v_o_theYear, .ref a_o_worth, .ref a_o_birth, .ref a_o_home, .ref a_o_kind, .ref a_o_wealth])), (a_o_birth, .inr (1, [.ref a_o_birth_cells])), (a_o_birth_cells, .inl (cI, 7, .inl f_o_birth_cells)), (a_o_home, .inr (1, [.ref a_o_home_cells])), (a_o_home_cells, .inl (cI, 7, .inl f_o_home_cells)), (a_o_kind, .inr (1, [.ref a_o_kind_cells])), (a_o_kind_cells, .inl (cI, 7, .inl f_o_kind_cells))]) (kr_V (As := [.int x2]) (rest := [.int x2, .ref a_o]) ⟨hx, hb, hml, hown, hts⟩ hK hN hP hD hl.1 (c_X4_sideOf l dC dI cI cZ a_o a_o_worth a_o_birth a_o_home a_o_kind a_o_wealth v_o_houses v_o_children v_o_living v_o_sideBits v_o_inherited v_o_theYear x2 u7 hu7 H.size) sg_X4_sideOf ⟨rfl, rfl⟩ ⟨Nat.le_of_ble_eq_true rfl, Nat.le_of_ble_eq_true rfl⟩ gX4_fewestInTheWay_X4_sideOf 0 rfl rfl rfl [0] (by decide) rfl rfl rfl (Nat.le_of_ble_eq_true rfl) dX4_fewestInTheWay_73 ⟨Nat.zero_le _, Nat.zero_le _⟩) hA hP hD hS [0] rfl rfl rfl (fun H locs hP hD hS => ?_)
            refine lv_aload_n hx hb dX4_fewestInTheWay_76 rfl (lv_at hl 0 rfl) ?_
            refine va_get (D := (dC, dI)) (ci := 4) (v := .int v_o_living) (C := RX4) (T := TX4) (N := 11) hx hb hts in_X4_fewestInTheWay_X4 hown hK hP 0 rfl rfl 2 (by decide) hk39 (fun _ h9 => h9) rfl dX4_fewestInTheWay_77 ?_
            refine lv_iload hx hb dX4_fewestInTheWay_80 (lv_at hl 5 rfl) ?_
            refine lv_iconst (v := (-1 : Int32)) hx hb dX4_fewestInTheWay_82 (by decide) ?_
            refine lv_ixor hx hb dX4_fewestInTheWay_83 ?_
            refine lv_iand hx hb dX4_fewestInTheWay_84 ?_
            obtain ⟨u8, hu8, hf⟩ := kb1_e hf
            refine kc_i (wn := [(a_o, .inr (4, [.int v_o_houses, .int v_o_children, .int v_o_living, .int v_o_sideBits, .int v_o_inherited, .int v_o_theYear, .ref a_o_worth, .ref a_o_birth, .ref a_o_home, .ref a_o_kind, .ref a_o_wealth])), (a_o_birth, .inr (1, [.ref a_o_birth_cells])), (a_o_birth_cells, .inl (cI, 7, .inl f_o_birth_cells)), (a_o_home, .inr (1, [.ref a_o_home_cells])), (a_o_home_cells, .inl (cI, 7, .inl f_o_home_cells)), (a_o_kind, .inr (1, [.ref a_o_kind_cells])), (a_o_kind_cells, .inl (cI, 7, .inl f_o_kind_cells))]) (kr_V (As := [.int x2, .int u7, .int (v_o_living &&& (x5 ^^^ (-1 : Int32)))]) (rest := []) ⟨hx, hb, hml, hown, hts⟩ hK hN hP hD hl.1 (c_X4_heirsAmong l dC dI cI cZ a_o a_o_worth a_o_birth a_o_home a_o_kind a_o_wealth a_o_birth_cells a_o_home_cells a_o_kind_cells v_o_houses v_o_children v_o_living v_o_sideBits v_o_inherited v_o_theYear f_o_birth_cells f_o_home_cells f_o_kind_cells x2 u7 (v_o_living &&& (x5 ^^^ (-1 : Int32))) u8 hu8 H.size) sg_X4_heirsAmong ⟨rfl, rfl⟩ ⟨Nat.le_of_ble_eq_true rfl, Nat.le_of_ble_eq_true rfl⟩ gX4_fewestInTheWay_X4_heirsAmong 0 rfl rfl rfl [0, 1, 2, 3, 4, 5, 6] (by decide) rfl rfl rfl (Nat.le_of_ble_eq_true rfl) dX4_fewestInTheWay_85 ⟨Nat.zero_le _, Nat.zero_le _⟩) hA hP hD hS [0, 1, 2, 3, 4, 5, 6] rfl rfl rfl (fun H locs hP hD hS => ?_)
            refine lv_iload_n hx hb dX4_fewestInTheWay_88 rfl (lv_at hl 1 rfl) ?_
            obtain ⟨u9, hu9, hf⟩ := kb1_e hf
            refine kc_i (wn := [(a_o, .inr (4, [.int v_o_houses, .int v_o_children, .int v_o_living, .int v_o_sideBits, .int v_o_inherited, .int v_o_theYear, .ref a_o_worth, .ref a_o_birth, .ref a_o_home, .ref a_o_kind, .ref a_o_wealth])), (a_o_birth, .inr (1, [.ref a_o_birth_cells])), (a_o_birth_cells, .inl (cI, 7, .inl f_o_birth_cells)), (a_o_home, .inr (1, [.ref a_o_home_cells])), (a_o_home_cells, .inl (cI, 7, .inl f_o_home_cells)), (a_o_kind, .inr (1, [.ref a_o_kind_cells])), (a_o_kind_cells, .inl (cI, 7, .inl f_o_kind_cells))]) (kr_N (host := RX5) (As := [.int x1]) (rest := [.int u8]) ⟨hx, hb, hml, hown, hts⟩ hK hN hP hD hl.1 (c_X5_bit l dC dI cI cZ x1 u9 hu9 H.size) sg_X5_bit ⟨rfl, rfl⟩ ⟨Nat.le_of_ble_eq_true rfl, Nat.le_of_ble_eq_true rfl⟩ gX4_fewestInTheWay_X5_bit_n67 (by decide +kernel) (by decide +kernel) (by decide +kernel) [] (by decide) rfl rfl rfl (Nat.le_of_ble_eq_true rfl) dX4_fewestInTheWay_89 ⟨Nat.zero_le _, Nat.zero_le _⟩) hA hP hD hS [] rfl rfl rfl (fun H locs hP hD hS => ?_)
            refine lv_icmp_ne (tgt := 99) hx hb dX4_fewestInTheWay_92 (by decide) (fun c10 => ?_) (fun c10 => ?_)
            · replace hf := kf c10 hf
              refine lv_iinc (v := (x5 + (1 : Int32))) (lv' := [(5, .int (x5 + (1 : Int32))), (0, .ref a_o), (1, .int x1), (2, .int x2), (3, .int x3), (4, .int x4)]) hx hb dX4_fewestInTheWay_99 hl (k := 5) rfl rfl (by decide) rfl (fun ls hl => ?_)
              refine lv_goto (tgt := 34) hx hb dX4_fewestInTheWay_102 (by decide) ?_
              exact ih_34 x3 x4 (x5 + (1 : Int32)) H locs ls hP hD hS (lv_sub hl [1, 2, 3, 4, 5, 0] rfl) hf
            · replace hf := kt c10 hf
              refine lv_iload hx hb dX4_fewestInTheWay_95 (lv_at hl 5 rfl) ?_
              refine lv_istore (lv' := [(4, .int x5), (0, .ref a_o), (1, .int x1), (2, .int x2), (3, .int x3), (5, .int x5)]) hx hb dX4_fewestInTheWay_97 hl (by decide) rfl (fun ls hl => ?_)
              refine lv_iinc (v := (x5 + (1 : Int32))) (lv' := [(5, .int (x5 + (1 : Int32))), (4, .int x5), (0, .ref a_o), (1, .int x1), (2, .int x2), (3, .int x3)]) hx hb dX4_fewestInTheWay_99 hl (k := 5) rfl rfl (by decide) rfl (fun ls hl => ?_)
              refine lv_goto (tgt := 34) hx hb dX4_fewestInTheWay_102 (by decide) ?_
              exact ih_34 x3 x5 (x5 + (1 : Int32)) H locs ls hP hD hS (lv_sub hl [2, 3, 4, 5, 1, 0] rfl) hf
          · replace hf := kf c6 hf
            refine lv_goto (tgt := 99) hx hb dX4_fewestInTheWay_66 (by decide) ?_
            refine lv_iinc (v := (x5 + (1 : Int32))) (lv' := [(5, .int (x5 + (1 : Int32))), (0, .ref a_o), (1, .int x1), (2, .int x2), (3, .int x3), (4, .int x4)]) hx hb dX4_fewestInTheWay_99 hl (k := 5) rfl rfl (by decide) rfl (fun ls hl => ?_)
            refine lv_goto (tgt := 34) hx hb dX4_fewestInTheWay_102 (by decide) ?_
            exact ih_34 x3 x4 (x5 + (1 : Int32)) H locs ls hP hD hS (lv_sub hl [1, 2, 3, 4, 5, 0] rfl) hf
  unfold f_X4_fewestInTheWay at hf
  refine lv_aload_n hx hb dX4_fewestInTheWay_0 rfl (lv_at hl 0 rfl) ?_
  refine va_get (D := (dC, dI)) (ci := 4) (v := .ref a_o_home) (C := RX4) (T := TX4) (N := 11) hx hb hts in_X4_fewestInTheWay_X4 hown hK hP 0 rfl rfl 8 (by decide) hk23 (fun _ h9 => h9) rfl dX4_fewestInTheWay_1 ?_
  refine lv_iload_n hx hb dX4_fewestInTheWay_4 rfl (lv_at hl 1 rfl) ?_
  obtain ⟨u11, hu11, hf⟩ := kb1_e hf
  refine kc_i (wn := [(a_o, .inr (4, [.int v_o_houses, .int v_o_children, .int v_o_living, .int v_o_sideBits, .int v_o_inherited, .int v_o_theYear, .ref a_o_worth, .ref a_o_birth, .ref a_o_home, .ref a_o_kind, .ref a_o_wealth])), (a_o_birth, .inr (1, [.ref a_o_birth_cells])), (a_o_birth_cells, .inl (cI, 7, .inl f_o_birth_cells)), (a_o_home, .inr (1, [.ref a_o_home_cells])), (a_o_home_cells, .inl (cI, 7, .inl f_o_home_cells)), (a_o_kind, .inr (1, [.ref a_o_kind_cells])), (a_o_kind_cells, .inl (cI, 7, .inl f_o_kind_cells))]) (kr_V (As := [.int x1]) (rest := []) ⟨hx, hb, hml, hown, hts⟩ hK hN hP hD hl.1 (c_X1_get l dC dI cI cZ a_o_home a_o_home_cells 7 f_o_home_cells x1 u11 hu11 H.size) sg_X1_get ⟨rfl, rfl⟩ ⟨Nat.le_of_ble_eq_true rfl, Nat.le_of_ble_eq_true rfl⟩ gX4_fewestInTheWay_X1_get 3 rfl rfl rfl [3, 4] (by decide) rfl rfl rfl (Nat.le_of_ble_eq_true rfl) dX4_fewestInTheWay_5 ⟨Nat.zero_le _, Nat.zero_le _⟩) hA hP hD hS [3, 4] rfl rfl rfl (fun H locs hP hD hS => ?_)
  refine lv_iload_n hx hb dX4_fewestInTheWay_8 rfl (lv_at hl 2 rfl) ?_
  refine lv_icmp_eq (tgt := 15) hx hb dX4_fewestInTheWay_9 (by decide) (fun c12 => ?_) (fun c12 => ?_)
  · replace hf := kt c12 hf
    refine lv_aload_n hx hb dX4_fewestInTheWay_15 rfl (lv_at hl 0 rfl) ?_
    refine lv_iload_n hx hb dX4_fewestInTheWay_16 rfl (lv_at hl 1 rfl) ?_
    obtain ⟨u13, hu13, hf⟩ := kb1_e hf
    refine kc_i (wn := [(a_o, .inr (4, [.int v_o_houses, .int v_o_children, .int v_o_living, .int v_o_sideBits, .int v_o_inherited, .int v_o_theYear, .ref a_o_worth, .ref a_o_birth, .ref a_o_home, .ref a_o_kind, .ref a_o_wealth])), (a_o_birth, .inr (1, [.ref a_o_birth_cells])), (a_o_birth_cells, .inl (cI, 7, .inl f_o_birth_cells)), (a_o_home, .inr (1, [.ref a_o_home_cells])), (a_o_home_cells, .inl (cI, 7, .inl f_o_home_cells)), (a_o_kind, .inr (1, [.ref a_o_kind_cells])), (a_o_kind_cells, .inl (cI, 7, .inl f_o_kind_cells))]) (kr_V (As := [.int x1]) (rest := []) ⟨hx, hb, hml, hown, hts⟩ hK hN hP hD hl.1 (c_X4_broodOf l dC dI cI cZ a_o a_o_worth a_o_birth a_o_home a_o_kind a_o_wealth a_o_home_cells v_o_houses v_o_children v_o_living v_o_sideBits v_o_inherited v_o_theYear f_o_home_cells x1 u13 hu13 H.size) sg_X4_broodOf ⟨rfl, rfl⟩ ⟨Nat.le_of_ble_eq_true rfl, Nat.le_of_ble_eq_true rfl⟩ gX4_fewestInTheWay_X4_broodOf 0 rfl rfl rfl [0, 3, 4] (by decide) rfl rfl rfl (Nat.le_of_ble_eq_true rfl) dX4_fewestInTheWay_17 ⟨Nat.zero_le _, Nat.zero_le _⟩) hA hP hD hS [0, 3, 4] rfl rfl rfl (fun H locs hP hD hS => ?_)
    refine lv_iload_n hx hb dX4_fewestInTheWay_20 rfl (lv_at hl 1 rfl) ?_
    obtain ⟨u14, hu14, hf⟩ := kb1_e hf
    refine kc_i (wn := [(a_o, .inr (4, [.int v_o_houses, .int v_o_children, .int v_o_living, .int v_o_sideBits, .int v_o_inherited, .int v_o_theYear, .ref a_o_worth, .ref a_o_birth, .ref a_o_home, .ref a_o_kind, .ref a_o_wealth])), (a_o_birth, .inr (1, [.ref a_o_birth_cells])), (a_o_birth_cells, .inl (cI, 7, .inl f_o_birth_cells)), (a_o_home, .inr (1, [.ref a_o_home_cells])), (a_o_home_cells, .inl (cI, 7, .inl f_o_home_cells)), (a_o_kind, .inr (1, [.ref a_o_kind_cells])), (a_o_kind_cells, .inl (cI, 7, .inl f_o_kind_cells))]) (kr_N (host := RX5) (As := [.int x1]) (rest := [.int u13]) ⟨hx, hb, hml, hown, hts⟩ hK hN hP hD hl.1 (c_X5_bit l dC dI cI cZ x1 u14 hu14 H.size) sg_X5_bit ⟨rfl, rfl⟩ ⟨Nat.le_of_ble_eq_true rfl, Nat.le_of_ble_eq_true rfl⟩ gX4_fewestInTheWay_X5_bit_n67 (by decide +kernel) (by decide +kernel) (by decide +kernel) [] (by decide) rfl rfl rfl (Nat.le_of_ble_eq_true rfl) dX4_fewestInTheWay_21 ⟨Nat.zero_le _, Nat.zero_le _⟩) hA hP hD hS [] rfl rfl rfl (fun H locs hP hD hS => ?_)
    refine lv_iconst (v := (-1 : Int32)) hx hb dX4_fewestInTheWay_24 (by decide) ?_
    refine lv_ixor hx hb dX4_fewestInTheWay_25 ?_
    refine lv_iand hx hb dX4_fewestInTheWay_26 ?_
    refine lv_istore_n (lv' := [(3, .int (u13 &&& (u14 ^^^ (-1 : Int32)))), (0, .ref a_o), (1, .int x1), (2, .int x2)]) hx hb dX4_fewestInTheWay_27 rfl hl (by decide) rfl (fun ls hl => ?_)
    refine lv_iload_n hx hb dX4_fewestInTheWay_28 rfl (lv_at hl 0 rfl) ?_
    refine lv_istore (lv' := [(4, .int (u13 &&& (u14 ^^^ (-1 : Int32)))), (3, .int (u13 &&& (u14 ^^^ (-1 : Int32)))), (0, .ref a_o), (1, .int x1), (2, .int x2)]) hx hb dX4_fewestInTheWay_29 hl (by decide) rfl (fun ls hl => ?_)
    refine lv_iconst (v := (0 : Int32)) hx hb dX4_fewestInTheWay_31 (by decide) ?_
    refine lv_istore (lv' := [(5, .int (0 : Int32)), (4, .int (u13 &&& (u14 ^^^ (-1 : Int32)))), (3, .int (u13 &&& (u14 ^^^ (-1 : Int32)))), (0, .ref a_o), (1, .int x1), (2, .int x2)]) hx hb dX4_fewestInTheWay_32 hl (by decide) rfl (fun ls hl => ?_)
    exact J_34 1000 (u13 &&& (u14 ^^^ (-1 : Int32))) (u13 &&& (u14 ^^^ (-1 : Int32))) (0 : Int32) H locs ls hP hD hS (lv_sub hl [3, 4, 5, 2, 1, 0] rfl) hf
  · replace hf := kf c12 hf
    refine lv_bipush (v := (-9 : Int32)) hx hb dX4_fewestInTheWay_12 (by decide) ?_
    cases hf
    exact hend _ _ _ _ dX4_fewestInTheWay_14 rfl hP hS
theorem sg_X4_restOf : kSig yX4_restOf wsX4_restOf cX4_restOf 5 (some .int) RX4 2 := ⟨⟨_, rfl⟩, rfl, by decide, by decide +kernel, by decide +kernel, by decide +kernel⟩
abbrev rm_X4_restOf : Room := { frames := 4, cells := 0, slots := 0, locals := 96 }
set_option maxRecDepth 20000 in
theorem in_X4_restOf_X4 : ∀ w ∈ u_ws RX4 TX4 11, w ∈ wsX4_restOf := by decide +kernel
set_option maxHeartbeats 4000000 in
set_option maxRecDepth 100000 in
theorem c_X4_restOf (l : Launch) (dC : Nat → ClassId) (dI : Nat → Nat → Nat) (cI cZ : ClassId) (a_o a_o_worth a_o_birth a_o_home a_o_kind a_o_wealth a_o_worth_cells a_o_birth_cells a_o_home_cells a_o_kind_cells : Nat) (v_o_houses : Int32) (v_o_children : Int32) (v_o_living : Int32) (v_o_sideBits : Int32) (v_o_inherited : Int32) (v_o_theYear : Int32) (f_o_worth_cells : Nat → Int32) (f_o_birth_cells : Nat → Int32) (f_o_home_cells : Nat → Int32) (f_o_kind_cells : Nat → Int32) (x1 : Int32) (x2 : Int32) (u : Int32) (hf : f_X4_restOf v_o_children v_o_living v_o_sideBits f_o_worth_cells f_o_birth_cells f_o_home_cells f_o_kind_cells x1 x2 = some u) : kMi l yX4_restOf wsX4_restOf rm_X4_restOf (dC, dI) (kTy cI cZ) [.ref a_o, .int x1, .int x2] [(a_o, .inr (4, [.int v_o_houses, .int v_o_children, .int v_o_living, .int v_o_sideBits, .int v_o_inherited, .int v_o_theYear, .ref a_o_worth, .ref a_o_birth, .ref a_o_home, .ref a_o_kind, .ref a_o_wealth])), (a_o_worth, .inr (1, [.ref a_o_worth_cells])), (a_o_worth_cells, .inl (cI, 3, .inl f_o_worth_cells)), (a_o_birth, .inr (1, [.ref a_o_birth_cells])), (a_o_birth_cells, .inl (cI, 7, .inl f_o_birth_cells)), (a_o_home, .inr (1, [.ref a_o_home_cells])), (a_o_home_cells, .inl (cI, 7, .inl f_o_home_cells)), (a_o_kind, .inr (1, [.ref a_o_kind_cells])), (a_o_kind_cells, .inl (cI, 7, .inl f_o_kind_cells))] [(a_o, .inr (4, [.int v_o_houses, .int v_o_children, .int v_o_living, .int v_o_sideBits, .int v_o_inherited, .int v_o_theYear, .ref a_o_worth, .ref a_o_birth, .ref a_o_home, .ref a_o_kind, .ref a_o_wealth])), (a_o_worth, .inr (1, [.ref a_o_worth_cells])), (a_o_worth_cells, .inl (cI, 3, .inl f_o_worth_cells)), (a_o_birth, .inr (1, [.ref a_o_birth_cells])), (a_o_birth_cells, .inl (cI, 7, .inl f_o_birth_cells)), (a_o_home, .inr (1, [.ref a_o_home_cells])), (a_o_home_cells, .inl (cI, 7, .inl f_o_home_cells)), (a_o_kind, .inr (1, [.ref a_o_kind_cells])), (a_o_kind_cells, .inl (cI, 7, .inl f_o_kind_cells))] u := by
  refine kMi_of sg_X4_restOf ⟨rfl, rfl⟩ (Nat.le_of_ble_eq_true rfl) ?_
  intro p e s m args below meth c A H0 Q hx hb hml hown hts hK hN hA hend H locs ls hP hD hS hl
  have hl : lv_has ls 5 [(0, .ref a_o), (1, .int x1), (2, .int x2)] := hl
  have hk23 := hts (.fieldLink RX4 23 "YoungestHouse$Town" "home" "LYoungestHouse$Row;") (by decide +kernel)
  have hk39 := hts (.fieldLink RX4 39 "YoungestHouse$Town" "living" "I") (by decide +kernel)
  unfold f_X4_restOf at hf
  refine lv_iload_n hx hb dX4_restOf_0 rfl (lv_at hl 2 rfl) ?_
  refine lv_iload_n hx hb dX4_restOf_1 rfl (lv_at hl 1 rfl) ?_
  obtain ⟨u1, hu1, hf⟩ := kb1_e hf
  refine kc_i (wn := [(a_o, .inr (4, [.int v_o_houses, .int v_o_children, .int v_o_living, .int v_o_sideBits, .int v_o_inherited, .int v_o_theYear, .ref a_o_worth, .ref a_o_birth, .ref a_o_home, .ref a_o_kind, .ref a_o_wealth])), (a_o_worth, .inr (1, [.ref a_o_worth_cells])), (a_o_worth_cells, .inl (cI, 3, .inl f_o_worth_cells)), (a_o_birth, .inr (1, [.ref a_o_birth_cells])), (a_o_birth_cells, .inl (cI, 7, .inl f_o_birth_cells)), (a_o_home, .inr (1, [.ref a_o_home_cells])), (a_o_home_cells, .inl (cI, 7, .inl f_o_home_cells)), (a_o_kind, .inr (1, [.ref a_o_kind_cells])), (a_o_kind_cells, .inl (cI, 7, .inl f_o_kind_cells))]) (kr_N (host := RX5) (As := [.int x2, .int x1]) (rest := []) ⟨hx, hb, hml, hown, hts⟩ hK hN hP hD hl.1 (c_X5_isIn l dC dI cI cZ x2 x1 u1 hu1 H.size) sg_X5_isIn ⟨rfl, rfl⟩ ⟨Nat.le_of_ble_eq_true rfl, Nat.le_of_ble_eq_true rfl⟩ gX4_restOf_X5_isIn_n59 (by decide +kernel) (by decide +kernel) (by decide +kernel) [] (by decide) rfl rfl rfl (Nat.le_of_ble_eq_true rfl) dX4_restOf_2 ⟨Nat.zero_le _, Nat.zero_le _⟩) hA hP hD hS [] rfl rfl rfl (fun H locs hP hD hS => ?_)
  refine lv_if_eq (tgt := 10) hx hb dX4_restOf_5 (by decide) (fun c2 => ?_) (fun c2 => ?_)
  · replace hf := kt c2 hf
    refine lv_aload_n hx hb dX4_restOf_10 rfl (lv_at hl 0 rfl) ?_
    refine va_get (D := (dC, dI)) (ci := 4) (v := .ref a_o_home) (C := RX4) (T := TX4) (N := 11) hx hb hts in_X4_restOf_X4 hown hK hP 0 rfl rfl 8 (by decide) hk23 (fun _ h9 => h9) rfl dX4_restOf_11 ?_
    refine lv_iload_n hx hb dX4_restOf_14 rfl (lv_at hl 1 rfl) ?_
    obtain ⟨u3, hu3, hf⟩ := kb1_e hf
    refine kc_i (wn := [(a_o, .inr (4, [.int v_o_houses, .int v_o_children, .int v_o_living, .int v_o_sideBits, .int v_o_inherited, .int v_o_theYear, .ref a_o_worth, .ref a_o_birth, .ref a_o_home, .ref a_o_kind, .ref a_o_wealth])), (a_o_worth, .inr (1, [.ref a_o_worth_cells])), (a_o_worth_cells, .inl (cI, 3, .inl f_o_worth_cells)), (a_o_birth, .inr (1, [.ref a_o_birth_cells])), (a_o_birth_cells, .inl (cI, 7, .inl f_o_birth_cells)), (a_o_home, .inr (1, [.ref a_o_home_cells])), (a_o_home_cells, .inl (cI, 7, .inl f_o_home_cells)), (a_o_kind, .inr (1, [.ref a_o_kind_cells])), (a_o_kind_cells, .inl (cI, 7, .inl f_o_kind_cells))]) (kr_V (As := [.int x1]) (rest := []) ⟨hx, hb, hml, hown, hts⟩ hK hN hP hD hl.1 (c_X1_get l dC dI cI cZ a_o_home a_o_home_cells 7 f_o_home_cells x1 u3 hu3 H.size) sg_X1_get ⟨rfl, rfl⟩ ⟨Nat.le_of_ble_eq_true rfl, Nat.le_of_ble_eq_true rfl⟩ gX4_restOf_X1_get 5 rfl rfl rfl [5, 6] (by decide) rfl rfl rfl (Nat.le_of_ble_eq_true rfl) dX4_restOf_15 ⟨Nat.zero_le _, Nat.zero_le _⟩) hA hP hD hS [5, 6] rfl rfl rfl (fun H locs hP hD hS => ?_)
    refine lv_istore_n (lv' := [(3, .int u3), (0, .ref a_o), (1, .int x1), (2, .int x2)]) hx hb dX4_restOf_18 rfl hl (by decide) rfl (fun ls hl => ?_)
    refine lv_aload_n hx hb dX4_restOf_19 rfl (lv_at hl 1 rfl) ?_
    refine lv_iload_n hx hb dX4_restOf_20 rfl (lv_at hl 0 rfl) ?_
    refine lv_aload_n hx hb dX4_restOf_21 rfl (lv_at hl 1 rfl) ?_
    refine lv_iload_n hx hb dX4_restOf_22 rfl (lv_at hl 0 rfl) ?_
    obtain ⟨u4, hu4, hf⟩ := kb1_e hf
    refine kc_i (wn := [(a_o, .inr (4, [.int v_o_houses, .int v_o_children, .int v_o_living, .int v_o_sideBits, .int v_o_inherited, .int v_o_theYear, .ref a_o_worth, .ref a_o_birth, .ref a_o_home, .ref a_o_kind, .ref a_o_wealth])), (a_o_worth, .inr (1, [.ref a_o_worth_cells])), (a_o_worth_cells, .inl (cI, 3, .inl f_o_worth_cells)), (a_o_birth, .inr (1, [.ref a_o_birth_cells])), (a_o_birth_cells, .inl (cI, 7, .inl f_o_birth_cells)), (a_o_home, .inr (1, [.ref a_o_home_cells])), (a_o_home_cells, .inl (cI, 7, .inl f_o_home_cells)), (a_o_kind, .inr (1, [.ref a_o_kind_cells])), (a_o_kind_cells, .inl (cI, 7, .inl f_o_kind_cells))]) (kr_V (As := [.int u3]) (rest := [.int u3, .ref a_o]) ⟨hx, hb, hml, hown, hts⟩ hK hN hP hD hl.1 (c_X4_sideOf l dC dI cI cZ a_o a_o_worth a_o_birth a_o_home a_o_kind a_o_wealth v_o_houses v_o_children v_o_living v_o_sideBits v_o_inherited v_o_theYear u3 u4 hu4 H.size) sg_X4_sideOf ⟨rfl, rfl⟩ ⟨Nat.le_of_ble_eq_true rfl, Nat.le_of_ble_eq_true rfl⟩ gX4_restOf_X4_sideOf 0 rfl rfl rfl [0] (by decide) rfl rfl rfl (Nat.le_of_ble_eq_true rfl) dX4_restOf_23 ⟨Nat.zero_le _, Nat.zero_le _⟩) hA hP hD hS [0] rfl rfl rfl (fun H locs hP hD hS => ?_)
    refine lv_aload_n hx hb dX4_restOf_26 rfl (lv_at hl 1 rfl) ?_
    refine va_get (D := (dC, dI)) (ci := 4) (v := .int v_o_living) (C := RX4) (T := TX4) (N := 11) hx hb hts in_X4_restOf_X4 hown hK hP 0 rfl rfl 2 (by decide) hk39 (fun _ h9 => h9) rfl dX4_restOf_27 ?_
    refine lv_iload_n hx hb dX4_restOf_30 rfl (lv_at hl 3 rfl) ?_
    refine lv_iconst (v := (-1 : Int32)) hx hb dX4_restOf_31 (by decide) ?_
    refine lv_ixor hx hb dX4_restOf_32 ?_
    refine lv_iand hx hb dX4_restOf_33 ?_
    obtain ⟨u5, hu5, hf⟩ := kb1_e hf
    refine kc_i (wn := [(a_o, .inr (4, [.int v_o_houses, .int v_o_children, .int v_o_living, .int v_o_sideBits, .int v_o_inherited, .int v_o_theYear, .ref a_o_worth, .ref a_o_birth, .ref a_o_home, .ref a_o_kind, .ref a_o_wealth])), (a_o_worth, .inr (1, [.ref a_o_worth_cells])), (a_o_worth_cells, .inl (cI, 3, .inl f_o_worth_cells)), (a_o_birth, .inr (1, [.ref a_o_birth_cells])), (a_o_birth_cells, .inl (cI, 7, .inl f_o_birth_cells)), (a_o_home, .inr (1, [.ref a_o_home_cells])), (a_o_home_cells, .inl (cI, 7, .inl f_o_home_cells)), (a_o_kind, .inr (1, [.ref a_o_kind_cells])), (a_o_kind_cells, .inl (cI, 7, .inl f_o_kind_cells))]) (kr_V (As := [.int u3, .int u4, .int (v_o_living &&& (x2 ^^^ (-1 : Int32)))]) (rest := []) ⟨hx, hb, hml, hown, hts⟩ hK hN hP hD hl.1 (c_X4_heirsAmong l dC dI cI cZ a_o a_o_worth a_o_birth a_o_home a_o_kind a_o_wealth a_o_birth_cells a_o_home_cells a_o_kind_cells v_o_houses v_o_children v_o_living v_o_sideBits v_o_inherited v_o_theYear f_o_birth_cells f_o_home_cells f_o_kind_cells u3 u4 (v_o_living &&& (x2 ^^^ (-1 : Int32))) u5 hu5 H.size) sg_X4_heirsAmong ⟨rfl, rfl⟩ ⟨Nat.le_of_ble_eq_true rfl, Nat.le_of_ble_eq_true rfl⟩ gX4_restOf_X4_heirsAmong 0 rfl rfl rfl [0, 3, 4, 5, 6, 7, 8] (by decide) rfl rfl rfl (Nat.le_of_ble_eq_true rfl) dX4_restOf_34 ⟨Nat.zero_le _, Nat.zero_le _⟩) hA hP hD hS [0, 3, 4, 5, 6, 7, 8] rfl rfl rfl (fun H locs hP hD hS => ?_)
    refine lv_istore (lv' := [(4, .int u5), (3, .int u3), (0, .ref a_o), (1, .int x1), (2, .int x2)]) hx hb dX4_restOf_37 hl (by decide) rfl (fun ls hl => ?_)
    refine lv_iload hx hb dX4_restOf_39 (lv_at hl 0 rfl) ?_
    refine lv_iload_n hx hb dX4_restOf_41 rfl (lv_at hl 3 rfl) ?_
    obtain ⟨u6, hu6, hf⟩ := kb1_e hf
    refine kc_i (wn := [(a_o, .inr (4, [.int v_o_houses, .int v_o_children, .int v_o_living, .int v_o_sideBits, .int v_o_inherited, .int v_o_theYear, .ref a_o_worth, .ref a_o_birth, .ref a_o_home, .ref a_o_kind, .ref a_o_wealth])), (a_o_worth, .inr (1, [.ref a_o_worth_cells])), (a_o_worth_cells, .inl (cI, 3, .inl f_o_worth_cells)), (a_o_birth, .inr (1, [.ref a_o_birth_cells])), (a_o_birth_cells, .inl (cI, 7, .inl f_o_birth_cells)), (a_o_home, .inr (1, [.ref a_o_home_cells])), (a_o_home_cells, .inl (cI, 7, .inl f_o_home_cells)), (a_o_kind, .inr (1, [.ref a_o_kind_cells])), (a_o_kind_cells, .inl (cI, 7, .inl f_o_kind_cells))]) (kr_N (host := RX5) (As := [.int u5, .int x1]) (rest := []) ⟨hx, hb, hml, hown, hts⟩ hK hN hP hD hl.1 (c_X5_isIn l dC dI cI cZ u5 x1 u6 hu6 H.size) sg_X5_isIn ⟨rfl, rfl⟩ ⟨Nat.le_of_ble_eq_true rfl, Nat.le_of_ble_eq_true rfl⟩ gX4_restOf_X5_isIn_n59 (by decide +kernel) (by decide +kernel) (by decide +kernel) [] (by decide) rfl rfl rfl (Nat.le_of_ble_eq_true rfl) dX4_restOf_42 ⟨Nat.zero_le _, Nat.zero_le _⟩) hA hP hD hS [] rfl rfl rfl (fun H locs hP hD hS => ?_)
    refine lv_if_eq (tgt := 58) hx hb dX4_restOf_45 (by decide) (fun c7 => ?_) (fun c7 => ?_)
    · replace hf := kt c7 hf
      refine lv_iconst (v := (0 : Int32)) hx hb dX4_restOf_58 (by decide) ?_
      cases hf
      exact hend _ _ _ _ dX4_restOf_59 rfl hP hS
    · replace hf := kf c7 hf
      refine lv_aload_n hx hb dX4_restOf_48 rfl (lv_at hl 2 rfl) ?_
      refine lv_iload_n hx hb dX4_restOf_49 rfl (lv_at hl 1 rfl) ?_
      refine lv_iload hx hb dX4_restOf_50 (lv_at hl 0 rfl) ?_
      obtain ⟨u8, hu8, hf⟩ := kb1_e hf
      refine kc_i (wn := [(a_o, .inr (4, [.int v_o_houses, .int v_o_children, .int v_o_living, .int v_o_sideBits, .int v_o_inherited, .int v_o_theYear, .ref a_o_worth, .ref a_o_birth, .ref a_o_home, .ref a_o_kind, .ref a_o_wealth])), (a_o_worth, .inr (1, [.ref a_o_worth_cells])), (a_o_worth_cells, .inl (cI, 3, .inl f_o_worth_cells)), (a_o_birth, .inr (1, [.ref a_o_birth_cells])), (a_o_birth_cells, .inl (cI, 7, .inl f_o_birth_cells)), (a_o_home, .inr (1, [.ref a_o_home_cells])), (a_o_home_cells, .inl (cI, 7, .inl f_o_home_cells)), (a_o_kind, .inr (1, [.ref a_o_kind_cells])), (a_o_kind_cells, .inl (cI, 7, .inl f_o_kind_cells))]) (kr_V (As := [.int u3, .int u5]) (rest := []) ⟨hx, hb, hml, hown, hts⟩ hK hN hP hD hl.1 (c_X4_partOf l dC dI cI cZ a_o a_o_worth a_o_birth a_o_home a_o_kind a_o_wealth a_o_worth_cells v_o_houses v_o_children v_o_living v_o_sideBits v_o_inherited v_o_theYear f_o_worth_cells u3 u5 u8 hu8 H.size) sg_X4_partOf ⟨rfl, rfl⟩ ⟨Nat.le_of_ble_eq_true rfl, Nat.le_of_ble_eq_true rfl⟩ gX4_restOf_X4_partOf 0 rfl rfl rfl [0, 1, 2] (by decide) rfl rfl rfl (Nat.le_of_ble_eq_true rfl) dX4_restOf_52 ⟨Nat.zero_le _, Nat.zero_le _⟩) hA hP hD hS [0, 1, 2] rfl rfl rfl (fun H locs hP hD hS => ?_)
      refine lv_goto (tgt := 59) hx hb dX4_restOf_55 (by decide) ?_
      cases hf
      exact hend _ _ _ _ dX4_restOf_59 rfl hP hS
  · replace hf := kf c2 hf
    refine lv_iconst (v := (3 : Int32)) hx hb dX4_restOf_8 (by decide) ?_
    cases hf
    exact hend _ _ _ _ dX4_restOf_9 rfl hP hS
theorem sg_X4_isContent : kSig yX4_isContent wsX4_isContent cX4_isContent 3 (some .boolean) RX4 2 := ⟨⟨_, rfl⟩, rfl, by decide, by decide +kernel, by decide +kernel, by decide +kernel⟩
abbrev rm_X4_isContent : Room := { frames := 5, cells := 0, slots := 0, locals := 120 }
set_option maxHeartbeats 4000000 in
set_option maxRecDepth 100000 in
theorem c_X4_isContent (l : Launch) (dC : Nat → ClassId) (dI : Nat → Nat → Nat) (cI cZ : ClassId) (a_o a_o_worth a_o_birth a_o_home a_o_kind a_o_wealth a_o_worth_cells a_o_birth_cells a_o_home_cells a_o_kind_cells : Nat) (v_o_houses : Int32) (v_o_children : Int32) (v_o_living : Int32) (v_o_sideBits : Int32) (v_o_inherited : Int32) (v_o_theYear : Int32) (f_o_worth_cells : Nat → Int32) (f_o_birth_cells : Nat → Int32) (f_o_home_cells : Nat → Int32) (f_o_kind_cells : Nat → Int32) (x1 : Int32) (x2 : Int32) (u : Int32) (hf : f_X4_isContent v_o_children v_o_living v_o_sideBits f_o_worth_cells f_o_birth_cells f_o_home_cells f_o_kind_cells x1 x2 = some u) : kMi l yX4_isContent wsX4_isContent rm_X4_isContent (dC, dI) (kTy cI cZ) [.ref a_o, .int x1, .int x2] [(a_o, .inr (4, [.int v_o_houses, .int v_o_children, .int v_o_living, .int v_o_sideBits, .int v_o_inherited, .int v_o_theYear, .ref a_o_worth, .ref a_o_birth, .ref a_o_home, .ref a_o_kind, .ref a_o_wealth])), (a_o_worth, .inr (1, [.ref a_o_worth_cells])), (a_o_worth_cells, .inl (cI, 3, .inl f_o_worth_cells)), (a_o_birth, .inr (1, [.ref a_o_birth_cells])), (a_o_birth_cells, .inl (cI, 7, .inl f_o_birth_cells)), (a_o_home, .inr (1, [.ref a_o_home_cells])), (a_o_home_cells, .inl (cI, 7, .inl f_o_home_cells)), (a_o_kind, .inr (1, [.ref a_o_kind_cells])), (a_o_kind_cells, .inl (cI, 7, .inl f_o_kind_cells))] [(a_o, .inr (4, [.int v_o_houses, .int v_o_children, .int v_o_living, .int v_o_sideBits, .int v_o_inherited, .int v_o_theYear, .ref a_o_worth, .ref a_o_birth, .ref a_o_home, .ref a_o_kind, .ref a_o_wealth])), (a_o_worth, .inr (1, [.ref a_o_worth_cells])), (a_o_worth_cells, .inl (cI, 3, .inl f_o_worth_cells)), (a_o_birth, .inr (1, [.ref a_o_birth_cells])), (a_o_birth_cells, .inl (cI, 7, .inl f_o_birth_cells)), (a_o_home, .inr (1, [.ref a_o_home_cells])), (a_o_home_cells, .inl (cI, 7, .inl f_o_home_cells)), (a_o_kind, .inr (1, [.ref a_o_kind_cells])), (a_o_kind_cells, .inl (cI, 7, .inl f_o_kind_cells))] u := by
  refine kMi_of sg_X4_isContent ⟨rfl, rfl⟩ (Nat.le_of_ble_eq_true rfl) ?_
  intro p e s m args below meth c A H0 Q hx hb hml hown hts hK hN hA hend H locs ls hP hD hS hl
  have hl : lv_has ls 3 [(0, .ref a_o), (1, .int x1), (2, .int x2)] := hl
  unfold f_X4_isContent at hf
  refine lv_aload_n hx hb dX4_isContent_0 rfl (lv_at hl 0 rfl) ?_
  refine lv_iload_n hx hb dX4_isContent_1 rfl (lv_at hl 1 rfl) ?_
  refine lv_iload_n hx hb dX4_isContent_2 rfl (lv_at hl 2 rfl) ?_
  obtain ⟨u1, hu1, hf⟩ := kb1_e hf
  refine kc_i (wn := [(a_o, .inr (4, [.int v_o_houses, .int v_o_children, .int v_o_living, .int v_o_sideBits, .int v_o_inherited, .int v_o_theYear, .ref a_o_worth, .ref a_o_birth, .ref a_o_home, .ref a_o_kind, .ref a_o_wealth])), (a_o_worth, .inr (1, [.ref a_o_worth_cells])), (a_o_worth_cells, .inl (cI, 3, .inl f_o_worth_cells)), (a_o_birth, .inr (1, [.ref a_o_birth_cells])), (a_o_birth_cells, .inl (cI, 7, .inl f_o_birth_cells)), (a_o_home, .inr (1, [.ref a_o_home_cells])), (a_o_home_cells, .inl (cI, 7, .inl f_o_home_cells)), (a_o_kind, .inr (1, [.ref a_o_kind_cells])), (a_o_kind_cells, .inl (cI, 7, .inl f_o_kind_cells))]) (kr_V (As := [.int x1, .int x2]) (rest := []) ⟨hx, hb, hml, hown, hts⟩ hK hN hP hD hl.1 (c_X4_restOf l dC dI cI cZ a_o a_o_worth a_o_birth a_o_home a_o_kind a_o_wealth a_o_worth_cells a_o_birth_cells a_o_home_cells a_o_kind_cells v_o_houses v_o_children v_o_living v_o_sideBits v_o_inherited v_o_theYear f_o_worth_cells f_o_birth_cells f_o_home_cells f_o_kind_cells x1 x2 u1 hu1 H.size) sg_X4_restOf ⟨rfl, rfl⟩ ⟨Nat.le_of_ble_eq_true rfl, Nat.le_of_ble_eq_true rfl⟩ gX4_isContent_X4_restOf 0 rfl rfl rfl [0, 1, 2, 3, 4, 5, 6, 7, 8] (by decide) rfl rfl rfl (Nat.le_of_ble_eq_true rfl) dX4_isContent_3 ⟨Nat.zero_le _, Nat.zero_le _⟩) hA hP hD hS [0, 1, 2, 3, 4, 5, 6, 7, 8] rfl rfl rfl (fun H locs hP hD hS => ?_)
  refine lv_aload_n hx hb dX4_isContent_6 rfl (lv_at hl 0 rfl) ?_
  refine lv_iload_n hx hb dX4_isContent_7 rfl (lv_at hl 1 rfl) ?_
  refine lv_iload_n hx hb dX4_isContent_8 rfl (lv_at hl 2 rfl) ?_
  refine lv_iload_n hx hb dX4_isContent_9 rfl (lv_at hl 1 rfl) ?_
  obtain ⟨u2, hu2, hf⟩ := kb1_e hf
  refine kc_i (wn := [(a_o, .inr (4, [.int v_o_houses, .int v_o_children, .int v_o_living, .int v_o_sideBits, .int v_o_inherited, .int v_o_theYear, .ref a_o_worth, .ref a_o_birth, .ref a_o_home, .ref a_o_kind, .ref a_o_wealth])), (a_o_worth, .inr (1, [.ref a_o_worth_cells])), (a_o_worth_cells, .inl (cI, 3, .inl f_o_worth_cells)), (a_o_birth, .inr (1, [.ref a_o_birth_cells])), (a_o_birth_cells, .inl (cI, 7, .inl f_o_birth_cells)), (a_o_home, .inr (1, [.ref a_o_home_cells])), (a_o_home_cells, .inl (cI, 7, .inl f_o_home_cells)), (a_o_kind, .inr (1, [.ref a_o_kind_cells])), (a_o_kind_cells, .inl (cI, 7, .inl f_o_kind_cells))]) (kr_N (host := RX5) (As := [.int x1]) (rest := [.int x2, .int x1, .ref a_o, .int u1]) ⟨hx, hb, hml, hown, hts⟩ hK hN hP hD hl.1 (c_X5_bit l dC dI cI cZ x1 u2 hu2 H.size) sg_X5_bit ⟨rfl, rfl⟩ ⟨Nat.le_of_ble_eq_true rfl, Nat.le_of_ble_eq_true rfl⟩ gX4_isContent_X5_bit_n67 (by decide +kernel) (by decide +kernel) (by decide +kernel) [] (by decide) rfl rfl rfl (Nat.le_of_ble_eq_true rfl) dX4_isContent_10 ⟨Nat.zero_le _, Nat.zero_le _⟩) hA hP hD hS [] rfl rfl rfl (fun H locs hP hD hS => ?_)
  refine lv_ixor hx hb dX4_isContent_13 ?_
  obtain ⟨u3, hu3, hf⟩ := kb1_e hf
  refine kc_i (wn := [(a_o, .inr (4, [.int v_o_houses, .int v_o_children, .int v_o_living, .int v_o_sideBits, .int v_o_inherited, .int v_o_theYear, .ref a_o_worth, .ref a_o_birth, .ref a_o_home, .ref a_o_kind, .ref a_o_wealth])), (a_o_worth, .inr (1, [.ref a_o_worth_cells])), (a_o_worth_cells, .inl (cI, 3, .inl f_o_worth_cells)), (a_o_birth, .inr (1, [.ref a_o_birth_cells])), (a_o_birth_cells, .inl (cI, 7, .inl f_o_birth_cells)), (a_o_home, .inr (1, [.ref a_o_home_cells])), (a_o_home_cells, .inl (cI, 7, .inl f_o_home_cells)), (a_o_kind, .inr (1, [.ref a_o_kind_cells])), (a_o_kind_cells, .inl (cI, 7, .inl f_o_kind_cells))]) (kr_V (As := [.int x1, .int (x2 ^^^ u2)]) (rest := [.int u1]) ⟨hx, hb, hml, hown, hts⟩ hK hN hP hD hl.1 (c_X4_restOf l dC dI cI cZ a_o a_o_worth a_o_birth a_o_home a_o_kind a_o_wealth a_o_worth_cells a_o_birth_cells a_o_home_cells a_o_kind_cells v_o_houses v_o_children v_o_living v_o_sideBits v_o_inherited v_o_theYear f_o_worth_cells f_o_birth_cells f_o_home_cells f_o_kind_cells x1 (x2 ^^^ u2) u3 hu3 H.size) sg_X4_restOf ⟨rfl, rfl⟩ ⟨Nat.le_of_ble_eq_true rfl, Nat.le_of_ble_eq_true rfl⟩ gX4_isContent_X4_restOf 0 rfl rfl rfl [0, 1, 2, 3, 4, 5, 6, 7, 8] (by decide) rfl rfl rfl (Nat.le_of_ble_eq_true rfl) dX4_isContent_14 ⟨Nat.zero_le _, Nat.zero_le _⟩) hA hP hD hS [0, 1, 2, 3, 4, 5, 6, 7, 8] rfl rfl rfl (fun H locs hP hD hS => ?_)
  refine lv_icmp_lt (tgt := 24) hx hb dX4_isContent_17 (by decide) (fun c4 => ?_) (fun c4 => ?_)
  · replace hf := kt c4 hf
    refine lv_iconst (v := (0 : Int32)) hx hb dX4_isContent_24 (by decide) ?_
    cases hf
    exact hend _ _ _ _ dX4_isContent_25 rfl hP hS
  · replace hf := kf c4 hf
    refine lv_iconst (v := (1 : Int32)) hx hb dX4_isContent_20 (by decide) ?_
    refine lv_goto (tgt := 25) hx hb dX4_isContent_21 (by decide) ?_
    cases hf
    exact hend _ _ _ _ dX4_isContent_25 rfl hP hS
theorem sg_X4_casesAsHeir : kSig yX4_casesAsHeir wsX4_casesAsHeir cX4_casesAsHeir 9 (some .int) RX4 2 := ⟨⟨_, rfl⟩, rfl, by decide, by decide +kernel, by decide +kernel, by decide +kernel⟩
abbrev rm_X4_casesAsHeir : Room := { frames := 4, cells := 0, slots := 0, locals := 96 }
set_option maxRecDepth 20000 in
theorem in_X4_casesAsHeir_X4 : ∀ w ∈ u_ws RX4 TX4 11, w ∈ wsX4_casesAsHeir := by decide +kernel
set_option maxHeartbeats 4000000 in
set_option maxRecDepth 100000 in
theorem c_X4_casesAsHeir (l : Launch) (dC : Nat → ClassId) (dI : Nat → Nat → Nat) (cI cZ : ClassId) (a_o a_o_worth a_o_birth a_o_home a_o_kind a_o_wealth a_o_birth_cells a_o_home_cells a_o_kind_cells : Nat) (v_o_houses : Int32) (v_o_children : Int32) (v_o_living : Int32) (v_o_sideBits : Int32) (v_o_inherited : Int32) (v_o_theYear : Int32) (f_o_birth_cells : Nat → Int32) (f_o_home_cells : Nat → Int32) (f_o_kind_cells : Nat → Int32) (x1 : Int32) (x2 : Int32) (u : Int32) (hf : f_X4_casesAsHeir v_o_children v_o_living v_o_sideBits f_o_birth_cells f_o_home_cells f_o_kind_cells x1 x2 = some u) : kMi l yX4_casesAsHeir wsX4_casesAsHeir rm_X4_casesAsHeir (dC, dI) (kTy cI cZ) [.ref a_o, .int x1, .int x2] [(a_o, .inr (4, [.int v_o_houses, .int v_o_children, .int v_o_living, .int v_o_sideBits, .int v_o_inherited, .int v_o_theYear, .ref a_o_worth, .ref a_o_birth, .ref a_o_home, .ref a_o_kind, .ref a_o_wealth])), (a_o_birth, .inr (1, [.ref a_o_birth_cells])), (a_o_birth_cells, .inl (cI, 7, .inl f_o_birth_cells)), (a_o_home, .inr (1, [.ref a_o_home_cells])), (a_o_home_cells, .inl (cI, 7, .inl f_o_home_cells)), (a_o_kind, .inr (1, [.ref a_o_kind_cells])), (a_o_kind_cells, .inl (cI, 7, .inl f_o_kind_cells))] [(a_o, .inr (4, [.int v_o_houses, .int v_o_children, .int v_o_living, .int v_o_sideBits, .int v_o_inherited, .int v_o_theYear, .ref a_o_worth, .ref a_o_birth, .ref a_o_home, .ref a_o_kind, .ref a_o_wealth])), (a_o_birth, .inr (1, [.ref a_o_birth_cells])), (a_o_birth_cells, .inl (cI, 7, .inl f_o_birth_cells)), (a_o_home, .inr (1, [.ref a_o_home_cells])), (a_o_home_cells, .inl (cI, 7, .inl f_o_home_cells)), (a_o_kind, .inr (1, [.ref a_o_kind_cells])), (a_o_kind_cells, .inl (cI, 7, .inl f_o_kind_cells))] u := by
  refine kMi_of sg_X4_casesAsHeir ⟨rfl, rfl⟩ (Nat.le_of_ble_eq_true rfl) ?_
  intro p e s m args below meth c A H0 Q hx hb hml hown hts hK hN hA hend H locs ls hP hD hS hl
  have hl : lv_has ls 9 [(0, .ref a_o), (1, .int x1), (2, .int x2)] := hl
  have hk23 := hts (.fieldLink RX4 23 "YoungestHouse$Town" "home" "LYoungestHouse$Row;") (by decide +kernel)
  have J_29 : ∀ (n_29 : Nat), ∀ (x3 : Int32) (x4 : Int32) (x5 : Int32) (x6 : Int32) (x7 : Int32) (H : Heap) (locs : List Loc) (ls : Array Slot), va_P (dC, dI) vwCl [(a_o, .inr (4, [.int v_o_houses, .int v_o_children, .int v_o_living, .int v_o_sideBits, .int v_o_inherited, .int v_o_theYear, .ref a_o_worth, .ref a_o_birth, .ref a_o_home, .ref a_o_kind, .ref a_o_wealth])), (a_o_birth, .inr (1, [.ref a_o_birth_cells])), (a_o_birth_cells, .inl (cI, 7, .inl f_o_birth_cells)), (a_o_home, .inr (1, [.ref a_o_home_cells])), (a_o_home_cells, .inl (cI, 7, .inl f_o_home_cells)), (a_o_kind, .inr (1, [.ref a_o_kind_cells])), (a_o_kind_cells, .inl (cI, 7, .inl f_o_kind_cells))] H → va_D A [(a_o, .inr (4, [.int v_o_houses, .int v_o_children, .int v_o_living, .int v_o_sideBits, .int v_o_inherited, .int v_o_theYear, .ref a_o_worth, .ref a_o_birth, .ref a_o_home, .ref a_o_kind, .ref a_o_wealth])), (a_o_birth, .inr (1, [.ref a_o_birth_cells])), (a_o_birth_cells, .inl (cI, 7, .inl f_o_birth_cells)), (a_o_home, .inr (1, [.ref a_o_home_cells])), (a_o_home_cells, .inl (cI, 7, .inl f_o_home_cells)), (a_o_kind, .inr (1, [.ref a_o_kind_cells])), (a_o_kind_cells, .inl (cI, 7, .inl f_o_kind_cells))] → va_S A H0 H locs → lv_has ls 9 [(0, .ref a_o), (1, .int x1), (2, .int x2), (3, .int x3), (4, .int x4), (5, .int x5), (6, .int x6), (7, .int x7)] → f_X4_casesAsHeir_29 v_o_children v_o_living v_o_sideBits f_o_birth_cells f_o_home_cells f_o_kind_cells x1 x2 n_29 x3 x4 x5 x6 x7 = some u → W p l e rm_X4_casesAsHeir s m args below meth c H locs 0 0 Q (F0 m 29 ls []) := by
    intro n_29
    induction n_29 with
    | zero => intro x3 x4 x5 x6 x7 H locs ls hP hD hS hl hf; exact nomatch hf
    | succ n_29 ih_29 =>
      intro x3 x4 x5 x6 x7 H locs ls hP hD hS hl hf
      have hf : f_X4_casesAsHeir_29_b v_o_children v_o_living v_o_sideBits f_o_birth_cells f_o_home_cells f_o_kind_cells x1 x2 (f_X4_casesAsHeir_29 v_o_children v_o_living v_o_sideBits f_o_birth_cells f_o_home_cells f_o_kind_cells x1 x2 n_29) x3 x4 x5 x6 x7 = some u := hf
      unfold f_X4_casesAsHeir_29_b at hf
      refine lv_iload hx hb dX4_casesAsHeir_29 (lv_at hl 7 rfl) ?_
      refine lv_bipush (v := (7 : Int32)) hx hb dX4_casesAsHeir_31 (by decide) ?_
      obtain ⟨u1, hu1, hf⟩ := kb1_e hf
      refine kc_i (wn := [(a_o, .inr (4, [.int v_o_houses, .int v_o_children, .int v_o_living, .int v_o_sideBits, .int v_o_inherited, .int v_o_theYear, .ref a_o_worth, .ref a_o_birth, .ref a_o_home, .ref a_o_kind, .ref a_o_wealth])), (a_o_birth, .inr (1, [.ref a_o_birth_cells])), (a_o_birth_cells, .inl (cI, 7, .inl f_o_birth_cells)), (a_o_home, .inr (1, [.ref a_o_home_cells])), (a_o_home_cells, .inl (cI, 7, .inl f_o_home_cells)), (a_o_kind, .inr (1, [.ref a_o_kind_cells])), (a_o_kind_cells, .inl (cI, 7, .inl f_o_kind_cells))]) (kr_N (host := RX5) (As := [.int (7 : Int32)]) (rest := [.int x7]) ⟨hx, hb, hml, hown, hts⟩ hK hN hP hD hl.1 (c_X5_bit l dC dI cI cZ (7 : Int32) u1 hu1 H.size) sg_X5_bit ⟨rfl, rfl⟩ ⟨Nat.le_of_ble_eq_true rfl, Nat.le_of_ble_eq_true rfl⟩ gX4_casesAsHeir_X5_bit_n67 (by decide +kernel) (by decide +kernel) (by decide +kernel) [] (by decide) rfl rfl rfl (Nat.le_of_ble_eq_true rfl) dX4_casesAsHeir_33 ⟨Nat.zero_le _, Nat.zero_le _⟩) hA hP hD hS [] rfl rfl rfl (fun H locs hP hD hS => ?_)
      refine lv_icmp_ge (tgt := 120) hx hb dX4_casesAsHeir_36 (by decide) (fun c2 => ?_) (fun c2 => ?_)
      · replace hf := kt c2 hf
        refine lv_iload hx hb dX4_casesAsHeir_120 (lv_at hl 6 rfl) ?_
        cases hf
        exact hend _ _ _ _ dX4_casesAsHeir_122 rfl hP hS
      · replace hf := kf c2 hf
        refine lv_iload hx hb dX4_casesAsHeir_39 (lv_at hl 7 rfl) ?_
        refine lv_iload hx hb dX4_casesAsHeir_41 (lv_at hl 4 rfl) ?_
        refine lv_iconst (v := (-1 : Int32)) hx hb dX4_casesAsHeir_43 (by decide) ?_
        refine lv_ixor hx hb dX4_casesAsHeir_44 ?_
        refine lv_iand hx hb dX4_casesAsHeir_45 ?_
        refine lv_if_ne (tgt := 114) hx hb dX4_casesAsHeir_46 (by decide) (fun c3 => ?_) (fun c3 => ?_)
        · replace hf := kf c3 hf
          refine lv_iinc (v := (x7 + (1 : Int32))) (lv' := [(7, .int (x7 + (1 : Int32))), (0, .ref a_o), (1, .int x1), (2, .int x2), (3, .int x3), (4, .int x4), (5, .int x5), (6, .int x6)]) hx hb dX4_casesAsHeir_114 hl (k := 7) rfl rfl (by decide) rfl (fun ls hl => ?_)
          refine lv_goto (tgt := 29) hx hb dX4_casesAsHeir_117 (by decide) ?_
          exact ih_29 x3 x4 x5 x6 (x7 + (1 : Int32)) H locs ls hP hD hS (lv_sub hl [1, 2, 3, 4, 5, 6, 7, 0] rfl) hf
        · replace hf := kt c3 hf
          refine lv_iload hx hb dX4_casesAsHeir_49 (lv_at hl 7 rfl) ?_
          refine lv_iload_n hx hb dX4_casesAsHeir_51 rfl (lv_at hl 1 rfl) ?_
          obtain ⟨u4, hu4, hf⟩ := kb1_e hf
          refine kc_i (wn := [(a_o, .inr (4, [.int v_o_houses, .int v_o_children, .int v_o_living, .int v_o_sideBits, .int v_o_inherited, .int v_o_theYear, .ref a_o_worth, .ref a_o_birth, .ref a_o_home, .ref a_o_kind, .ref a_o_wealth])), (a_o_birth, .inr (1, [.ref a_o_birth_cells])), (a_o_birth_cells, .inl (cI, 7, .inl f_o_birth_cells)), (a_o_home, .inr (1, [.ref a_o_home_cells])), (a_o_home_cells, .inl (cI, 7, .inl f_o_home_cells)), (a_o_kind, .inr (1, [.ref a_o_kind_cells])), (a_o_kind_cells, .inl (cI, 7, .inl f_o_kind_cells))]) (kr_N (host := RX5) (As := [.int x7, .int x1]) (rest := []) ⟨hx, hb, hml, hown, hts⟩ hK hN hP hD hl.1 (c_X5_isIn l dC dI cI cZ x7 x1 u4 hu4 H.size) sg_X5_isIn ⟨rfl, rfl⟩ ⟨Nat.le_of_ble_eq_true rfl, Nat.le_of_ble_eq_true rfl⟩ gX4_casesAsHeir_X5_isIn_n59 (by decide +kernel) (by decide +kernel) (by decide +kernel) [] (by decide) rfl rfl rfl (Nat.le_of_ble_eq_true rfl) dX4_casesAsHeir_52 ⟨Nat.zero_le _, Nat.zero_le _⟩) hA hP hD hS [] rfl rfl rfl (fun H locs hP hD hS => ?_)
          refine lv_if_ne (tgt := 61) hx hb dX4_casesAsHeir_55 (by decide) (fun c5 => ?_) (fun c5 => ?_)
          · replace hf := kf c5 hf
            refine lv_aload_n hx hb dX4_casesAsHeir_61 rfl (lv_at hl 0 rfl) ?_
            refine lv_iload_n hx hb dX4_casesAsHeir_62 rfl (lv_at hl 3 rfl) ?_
            refine lv_aload_n hx hb dX4_casesAsHeir_63 rfl (lv_at hl 0 rfl) ?_
            refine lv_iload_n hx hb dX4_casesAsHeir_64 rfl (lv_at hl 3 rfl) ?_
            obtain ⟨u6, hu6, hf⟩ := kb1_e hf
            refine kc_i (wn := [(a_o, .inr (4, [.int v_o_houses, .int v_o_children, .int v_o_living, .int v_o_sideBits, .int v_o_inherited, .int v_o_theYear, .ref a_o_worth, .ref a_o_birth, .ref a_o_home, .ref a_o_kind, .ref a_o_wealth])), (a_o_birth, .inr (1, [.ref a_o_birth_cells])), (a_o_birth_cells, .inl (cI, 7, .inl f_o_birth_cells)), (a_o_home, .inr (1, [.ref a_o_home_cells])), (a_o_home_cells, .inl (cI, 7, .inl f_o_home_cells)), (a_o_kind, .inr (1, [.ref a_o_kind_cells])), (a_o_kind_cells, .inl (cI, 7, .inl f_o_kind_cells))]) (kr_V (As := [.int x3]) (rest := [.int x3, .ref a_o]) ⟨hx, hb, hml, hown, hts⟩ hK hN hP hD hl.1 (c_X4_sideOf l dC dI cI cZ a_o a_o_worth a_o_birth a_o_home a_o_kind a_o_wealth v_o_houses v_o_children v_o_living v_o_sideBits v_o_inherited v_o_theYear x3 u6 hu6 H.size) sg_X4_sideOf ⟨rfl, rfl⟩ ⟨Nat.le_of_ble_eq_true rfl, Nat.le_of_ble_eq_true rfl⟩ gX4_casesAsHeir_X4_sideOf 0 rfl rfl rfl [0] (by decide) rfl rfl rfl (Nat.le_of_ble_eq_true rfl) dX4_casesAsHeir_65 ⟨Nat.zero_le _, Nat.zero_le _⟩) hA hP hD hS [0] rfl rfl rfl (fun H locs hP hD hS => ?_)
            refine lv_iload hx hb dX4_casesAsHeir_68 (lv_at hl 7 rfl) ?_
            obtain ⟨u7, hu7, hf⟩ := kb1_e hf
            refine kc_i (wn := [(a_o, .inr (4, [.int v_o_houses, .int v_o_children, .int v_o_living, .int v_o_sideBits, .int v_o_inherited, .int v_o_theYear, .ref a_o_worth, .ref a_o_birth, .ref a_o_home, .ref a_o_kind, .ref a_o_wealth])), (a_o_birth, .inr (1, [.ref a_o_birth_cells])), (a_o_birth_cells, .inl (cI, 7, .inl f_o_birth_cells)), (a_o_home, .inr (1, [.ref a_o_home_cells])), (a_o_home_cells, .inl (cI, 7, .inl f_o_home_cells)), (a_o_kind, .inr (1, [.ref a_o_kind_cells])), (a_o_kind_cells, .inl (cI, 7, .inl f_o_kind_cells))]) (kr_V (As := [.int x3, .int u6, .int x7]) (rest := []) ⟨hx, hb, hml, hown, hts⟩ hK hN hP hD hl.1 (c_X4_heirsAmong l dC dI cI cZ a_o a_o_worth a_o_birth a_o_home a_o_kind a_o_wealth a_o_birth_cells a_o_home_cells a_o_kind_cells v_o_houses v_o_children v_o_living v_o_sideBits v_o_inherited v_o_theYear f_o_birth_cells f_o_home_cells f_o_kind_cells x3 u6 x7 u7 hu7 H.size) sg_X4_heirsAmong ⟨rfl, rfl⟩ ⟨Nat.le_of_ble_eq_true rfl, Nat.le_of_ble_eq_true rfl⟩ gX4_casesAsHeir_X4_heirsAmong 0 rfl rfl rfl [0, 1, 2, 3, 4, 5, 6] (by decide) rfl rfl rfl (Nat.le_of_ble_eq_true rfl) dX4_casesAsHeir_70 ⟨Nat.zero_le _, Nat.zero_le _⟩) hA hP hD hS [0, 1, 2, 3, 4, 5, 6] rfl rfl rfl (fun H locs hP hD hS => ?_)
            refine lv_iload_n hx hb dX4_casesAsHeir_73 rfl (lv_at hl 1 rfl) ?_
            obtain ⟨u8, hu8, hf⟩ := kb1_e hf
            refine kc_i (wn := [(a_o, .inr (4, [.int v_o_houses, .int v_o_children, .int v_o_living, .int v_o_sideBits, .int v_o_inherited, .int v_o_theYear, .ref a_o_worth, .ref a_o_birth, .ref a_o_home, .ref a_o_kind, .ref a_o_wealth])), (a_o_birth, .inr (1, [.ref a_o_birth_cells])), (a_o_birth_cells, .inl (cI, 7, .inl f_o_birth_cells)), (a_o_home, .inr (1, [.ref a_o_home_cells])), (a_o_home_cells, .inl (cI, 7, .inl f_o_home_cells)), (a_o_kind, .inr (1, [.ref a_o_kind_cells])), (a_o_kind_cells, .inl (cI, 7, .inl f_o_kind_cells))]) (kr_N (host := RX5) (As := [.int u7, .int x1]) (rest := []) ⟨hx, hb, hml, hown, hts⟩ hK hN hP hD hl.1 (c_X5_isIn l dC dI cI cZ u7 x1 u8 hu8 H.size) sg_X5_isIn ⟨rfl, rfl⟩ ⟨Nat.le_of_ble_eq_true rfl, Nat.le_of_ble_eq_true rfl⟩ gX4_casesAsHeir_X5_isIn_n59 (by decide +kernel) (by decide +kernel) (by decide +kernel) [] (by decide) rfl rfl rfl (Nat.le_of_ble_eq_true rfl) dX4_casesAsHeir_74 ⟨Nat.zero_le _, Nat.zero_le _⟩) hA hP hD hS [] rfl rfl rfl (fun H locs hP hD hS => ?_)
            refine lv_if_ne (tgt := 83) hx hb dX4_casesAsHeir_77 (by decide) (fun c9 => ?_) (fun c9 => ?_)
            · replace hf := kf c9 hf
              refine lv_iload hx hb dX4_casesAsHeir_83 (lv_at hl 7 rfl) ?_
              obtain ⟨u10, hu10, hf⟩ := kb1_e hf
              refine kc_i (wn := [(a_o, .inr (4, [.int v_o_houses, .int v_o_children, .int v_o_living, .int v_o_sideBits, .int v_o_inherited, .int v_o_theYear, .ref a_o_worth, .ref a_o_birth, .ref a_o_home, .ref a_o_kind, .ref a_o_wealth])), (a_o_birth, .inr (1, [.ref a_o_birth_cells])), (a_o_birth_cells, .inl (cI, 7, .inl f_o_birth_cells)), (a_o_home, .inr (1, [.ref a_o_home_cells])), (a_o_home_cells, .inl (cI, 7, .inl f_o_home_cells)), (a_o_kind, .inr (1, [.ref a_o_kind_cells])), (a_o_kind_cells, .inl (cI, 7, .inl f_o_kind_cells))]) (kr_T (As := [.int x7]) (rest := []) ⟨hx, hb, hml, hown, hts⟩ hK hN hP hD hl.1 (c_J6_bitCount_0f7a4 l dC dI cI cZ x7 u10 hu10 H.size) sg_J6_bitCount_0f7a4 ⟨rfl, rfl⟩ ⟨Nat.le_of_ble_eq_true rfl, Nat.le_of_ble_eq_true rfl⟩ gX4_casesAsHeir_J6_bitCount_0f7a4 [] (by decide) rfl rfl rfl (Nat.le_of_ble_eq_true rfl) dX4_casesAsHeir_85 ⟨Nat.zero_le _, Nat.zero_le _⟩) hA hP hD hS [] rfl rfl rfl (fun H locs hP hD hS => ?_)
              refine lv_istore (lv' := [(8, .int u10), (0, .ref a_o), (1, .int x1), (2, .int x2), (3, .int x3), (4, .int x4), (5, .int x5), (6, .int x6), (7, .int x7)]) hx hb dX4_casesAsHeir_88 hl (by decide) rfl (fun ls hl => ?_)
              refine lv_iload hx hb dX4_casesAsHeir_90 (lv_at hl 7 rfl) ?_
              refine lv_bipush (v := (10 : Int32)) hx hb dX4_casesAsHeir_92 (by decide) ?_
              refine lv_iload_n hx hb dX4_casesAsHeir_94 rfl (lv_at hl 3 rfl) ?_
              refine lv_isub hx hb dX4_casesAsHeir_95 ?_
              refine lv_iload hx hb dX4_casesAsHeir_96 (lv_at hl 0 rfl) ?_
              obtain ⟨u11, hu11, hf⟩ := kb1_e hf
              refine kc_i (wn := [(a_o, .inr (4, [.int v_o_houses, .int v_o_children, .int v_o_living, .int v_o_sideBits, .int v_o_inherited, .int v_o_theYear, .ref a_o_worth, .ref a_o_birth, .ref a_o_home, .ref a_o_kind, .ref a_o_wealth])), (a_o_birth, .inr (1, [.ref a_o_birth_cells])), (a_o_birth_cells, .inl (cI, 7, .inl f_o_birth_cells)), (a_o_home, .inr (1, [.ref a_o_home_cells])), (a_o_home_cells, .inl (cI, 7, .inl f_o_home_cells)), (a_o_kind, .inr (1, [.ref a_o_kind_cells])), (a_o_kind_cells, .inl (cI, 7, .inl f_o_kind_cells))]) (kr_N (host := RX5) (As := [.int ((10 : Int32) - x2), .int u10]) (rest := [.int x6]) ⟨hx, hb, hml, hown, hts⟩ hK hN hP hD hl.1 (c_X5_power l dC dI cI cZ ((10 : Int32) - x2) u10 u11 hu11 H.size) sg_X5_power ⟨rfl, rfl⟩ ⟨Nat.le_of_ble_eq_true rfl, Nat.le_of_ble_eq_true rfl⟩ gX4_casesAsHeir_X5_power_n127 (by decide +kernel) (by decide +kernel) (by decide +kernel) [] (by decide) rfl rfl rfl (Nat.le_of_ble_eq_true rfl) dX4_casesAsHeir_98 ⟨Nat.zero_le _, Nat.zero_le _⟩) hA hP hD hS [] rfl rfl rfl (fun H locs hP hD hS => ?_)
              refine lv_iload_n hx hb dX4_casesAsHeir_101 rfl (lv_at hl 3 rfl) ?_
              refine lv_iload hx hb dX4_casesAsHeir_102 (lv_at hl 6 rfl) ?_
              refine lv_iload hx hb dX4_casesAsHeir_104 (lv_at hl 0 rfl) ?_
              refine lv_isub hx hb dX4_casesAsHeir_106 ?_
              obtain ⟨u12, hu12, hf⟩ := kb1_e hf
              refine kc_i (wn := [(a_o, .inr (4, [.int v_o_houses, .int v_o_children, .int v_o_living, .int v_o_sideBits, .int v_o_inherited, .int v_o_theYear, .ref a_o_worth, .ref a_o_birth, .ref a_o_home, .ref a_o_kind, .ref a_o_wealth])), (a_o_birth, .inr (1, [.ref a_o_birth_cells])), (a_o_birth_cells, .inl (cI, 7, .inl f_o_birth_cells)), (a_o_home, .inr (1, [.ref a_o_home_cells])), (a_o_home_cells, .inl (cI, 7, .inl f_o_home_cells)), (a_o_kind, .inr (1, [.ref a_o_kind_cells])), (a_o_kind_cells, .inl (cI, 7, .inl f_o_kind_cells))]) (kr_N (host := RX5) (As := [.int x2, .int (x5 - u10)]) (rest := [.int u11, .int x6]) ⟨hx, hb, hml, hown, hts⟩ hK hN hP hD hl.1 (c_X5_power l dC dI cI cZ x2 (x5 - u10) u12 hu12 H.size) sg_X5_power ⟨rfl, rfl⟩ ⟨Nat.le_of_ble_eq_true rfl, Nat.le_of_ble_eq_true rfl⟩ gX4_casesAsHeir_X5_power_n127 (by decide +kernel) (by decide +kernel) (by decide +kernel) [] (by decide) rfl rfl rfl (Nat.le_of_ble_eq_true rfl) dX4_casesAsHeir_107 ⟨Nat.zero_le _, Nat.zero_le _⟩) hA hP hD hS [] rfl rfl rfl (fun H locs hP hD hS => ?_)
              refine lv_imul hx hb dX4_casesAsHeir_110 ?_
              refine lv_iadd hx hb dX4_casesAsHeir_111 ?_
              refine lv_istore (lv' := [(6, .int (x6 + (u11 * u12))), (8, .int u10), (0, .ref a_o), (1, .int x1), (2, .int x2), (3, .int x3), (4, .int x4), (5, .int x5), (7, .int x7)]) hx hb dX4_casesAsHeir_112 hl (by decide) rfl (fun ls hl => ?_)
              refine lv_iinc (v := (x7 + (1 : Int32))) (lv' := [(7, .int (x7 + (1 : Int32))), (6, .int (x6 + (u11 * u12))), (8, .int u10), (0, .ref a_o), (1, .int x1), (2, .int x2), (3, .int x3), (4, .int x4), (5, .int x5)]) hx hb dX4_casesAsHeir_114 hl (k := 8) rfl rfl (by decide) rfl (fun ls hl => ?_)
              refine lv_goto (tgt := 29) hx hb dX4_casesAsHeir_117 (by decide) ?_
              exact ih_29 x3 x4 x5 (x6 + (u11 * u12)) (x7 + (1 : Int32)) H locs ls hP hD hS (lv_sub hl [3, 4, 5, 6, 7, 8, 1, 0] rfl) hf
            · replace hf := kt c9 hf
              refine lv_goto (tgt := 114) hx hb dX4_casesAsHeir_80 (by decide) ?_
              refine lv_iinc (v := (x7 + (1 : Int32))) (lv' := [(7, .int (x7 + (1 : Int32))), (0, .ref a_o), (1, .int x1), (2, .int x2), (3, .int x3), (4, .int x4), (5, .int x5), (6, .int x6)]) hx hb dX4_casesAsHeir_114 hl (k := 7) rfl rfl (by decide) rfl (fun ls hl => ?_)
              refine lv_goto (tgt := 29) hx hb dX4_casesAsHeir_117 (by decide) ?_
              exact ih_29 x3 x4 x5 x6 (x7 + (1 : Int32)) H locs ls hP hD hS (lv_sub hl [1, 2, 3, 4, 5, 6, 7, 0] rfl) hf
          · replace hf := kt c5 hf
            refine lv_goto (tgt := 114) hx hb dX4_casesAsHeir_58 (by decide) ?_
            refine lv_iinc (v := (x7 + (1 : Int32))) (lv' := [(7, .int (x7 + (1 : Int32))), (0, .ref a_o), (1, .int x1), (2, .int x2), (3, .int x3), (4, .int x4), (5, .int x5), (6, .int x6)]) hx hb dX4_casesAsHeir_114 hl (k := 7) rfl rfl (by decide) rfl (fun ls hl => ?_)
            refine lv_goto (tgt := 29) hx hb dX4_casesAsHeir_117 (by decide) ?_
            exact ih_29 x3 x4 x5 x6 (x7 + (1 : Int32)) H locs ls hP hD hS (lv_sub hl [1, 2, 3, 4, 5, 6, 7, 0] rfl) hf
  unfold f_X4_casesAsHeir at hf
  refine lv_aload_n hx hb dX4_casesAsHeir_0 rfl (lv_at hl 0 rfl) ?_
  refine va_get (D := (dC, dI)) (ci := 4) (v := .ref a_o_home) (C := RX4) (T := TX4) (N := 11) hx hb hts in_X4_casesAsHeir_X4 hown hK hP 0 rfl rfl 8 (by decide) hk23 (fun _ h9 => h9) rfl dX4_casesAsHeir_1 ?_
  refine lv_iload_n hx hb dX4_casesAsHeir_4 rfl (lv_at hl 1 rfl) ?_
  obtain ⟨u13, hu13, hf⟩ := kb1_e hf
  refine kc_i (wn := [(a_o, .inr (4, [.int v_o_houses, .int v_o_children, .int v_o_living, .int v_o_sideBits, .int v_o_inherited, .int v_o_theYear, .ref a_o_worth, .ref a_o_birth, .ref a_o_home, .ref a_o_kind, .ref a_o_wealth])), (a_o_birth, .inr (1, [.ref a_o_birth_cells])), (a_o_birth_cells, .inl (cI, 7, .inl f_o_birth_cells)), (a_o_home, .inr (1, [.ref a_o_home_cells])), (a_o_home_cells, .inl (cI, 7, .inl f_o_home_cells)), (a_o_kind, .inr (1, [.ref a_o_kind_cells])), (a_o_kind_cells, .inl (cI, 7, .inl f_o_kind_cells))]) (kr_V (As := [.int x1]) (rest := []) ⟨hx, hb, hml, hown, hts⟩ hK hN hP hD hl.1 (c_X1_get l dC dI cI cZ a_o_home a_o_home_cells 7 f_o_home_cells x1 u13 hu13 H.size) sg_X1_get ⟨rfl, rfl⟩ ⟨Nat.le_of_ble_eq_true rfl, Nat.le_of_ble_eq_true rfl⟩ gX4_casesAsHeir_X1_get 3 rfl rfl rfl [3, 4] (by decide) rfl rfl rfl (Nat.le_of_ble_eq_true rfl) dX4_casesAsHeir_5 ⟨Nat.zero_le _, Nat.zero_le _⟩) hA hP hD hS [3, 4] rfl rfl rfl (fun H locs hP hD hS => ?_)
  refine lv_istore_n (lv' := [(3, .int u13), (0, .ref a_o), (1, .int x1), (2, .int x2)]) hx hb dX4_casesAsHeir_8 rfl hl (by decide) rfl (fun ls hl => ?_)
  refine lv_aload_n hx hb dX4_casesAsHeir_9 rfl (lv_at hl 1 rfl) ?_
  refine lv_iload_n hx hb dX4_casesAsHeir_10 rfl (lv_at hl 2 rfl) ?_
  obtain ⟨u14, hu14, hf⟩ := kb1_e hf
  refine kc_i (wn := [(a_o, .inr (4, [.int v_o_houses, .int v_o_children, .int v_o_living, .int v_o_sideBits, .int v_o_inherited, .int v_o_theYear, .ref a_o_worth, .ref a_o_birth, .ref a_o_home, .ref a_o_kind, .ref a_o_wealth])), (a_o_birth, .inr (1, [.ref a_o_birth_cells])), (a_o_birth_cells, .inl (cI, 7, .inl f_o_birth_cells)), (a_o_home, .inr (1, [.ref a_o_home_cells])), (a_o_home_cells, .inl (cI, 7, .inl f_o_home_cells)), (a_o_kind, .inr (1, [.ref a_o_kind_cells])), (a_o_kind_cells, .inl (cI, 7, .inl f_o_kind_cells))]) (kr_V (As := [.int x1]) (rest := []) ⟨hx, hb, hml, hown, hts⟩ hK hN hP hD hl.1 (c_X4_broodOf l dC dI cI cZ a_o a_o_worth a_o_birth a_o_home a_o_kind a_o_wealth a_o_home_cells v_o_houses v_o_children v_o_living v_o_sideBits v_o_inherited v_o_theYear f_o_home_cells x1 u14 hu14 H.size) sg_X4_broodOf ⟨rfl, rfl⟩ ⟨Nat.le_of_ble_eq_true rfl, Nat.le_of_ble_eq_true rfl⟩ gX4_casesAsHeir_X4_broodOf 0 rfl rfl rfl [0, 3, 4] (by decide) rfl rfl rfl (Nat.le_of_ble_eq_true rfl) dX4_casesAsHeir_11 ⟨Nat.zero_le _, Nat.zero_le _⟩) hA hP hD hS [0, 3, 4] rfl rfl rfl (fun H locs hP hD hS => ?_)
  refine lv_istore (lv' := [(4, .int u14), (3, .int u13), (0, .ref a_o), (1, .int x1), (2, .int x2)]) hx hb dX4_casesAsHeir_14 hl (by decide) rfl (fun ls hl => ?_)
  refine lv_iload hx hb dX4_casesAsHeir_16 (lv_at hl 0 rfl) ?_
  obtain ⟨u15, hu15, hf⟩ := kb1_e hf
  refine kc_i (wn := [(a_o, .inr (4, [.int v_o_houses, .int v_o_children, .int v_o_living, .int v_o_sideBits, .int v_o_inherited, .int v_o_theYear, .ref a_o_worth, .ref a_o_birth, .ref a_o_home, .ref a_o_kind, .ref a_o_wealth])), (a_o_birth, .inr (1, [.ref a_o_birth_cells])), (a_o_birth_cells, .inl (cI, 7, .inl f_o_birth_cells)), (a_o_home, .inr (1, [.ref a_o_home_cells])), (a_o_home_cells, .inl (cI, 7, .inl f_o_home_cells)), (a_o_kind, .inr (1, [.ref a_o_kind_cells])), (a_o_kind_cells, .inl (cI, 7, .inl f_o_kind_cells))]) (kr_T (As := [.int u14]) (rest := []) ⟨hx, hb, hml, hown, hts⟩ hK hN hP hD hl.1 (c_J6_bitCount_0f7a4 l dC dI cI cZ u14 u15 hu15 H.size) sg_J6_bitCount_0f7a4 ⟨rfl, rfl⟩ ⟨Nat.le_of_ble_eq_true rfl, Nat.le_of_ble_eq_true rfl⟩ gX4_casesAsHeir_J6_bitCount_0f7a4 [] (by decide) rfl rfl rfl (Nat.le_of_ble_eq_true rfl) dX4_casesAsHeir_18 ⟨Nat.zero_le _, Nat.zero_le _⟩) hA hP hD hS [] rfl rfl rfl (fun H locs hP hD hS => ?_)
  refine lv_istore (lv' := [(5, .int u15), (4, .int u14), (3, .int u13), (0, .ref a_o), (1, .int x1), (2, .int x2)]) hx hb dX4_casesAsHeir_21 hl (by decide) rfl (fun ls hl => ?_)
  refine lv_iconst (v := (0 : Int32)) hx hb dX4_casesAsHeir_23 (by decide) ?_
  refine lv_istore (lv' := [(6, .int (0 : Int32)), (5, .int u15), (4, .int u14), (3, .int u13), (0, .ref a_o), (1, .int x1), (2, .int x2)]) hx hb dX4_casesAsHeir_24 hl (by decide) rfl (fun ls hl => ?_)
  refine lv_iconst (v := (0 : Int32)) hx hb dX4_casesAsHeir_26 (by decide) ?_
  refine lv_istore (lv' := [(7, .int (0 : Int32)), (6, .int (0 : Int32)), (5, .int u15), (4, .int u14), (3, .int u13), (0, .ref a_o), (1, .int x1), (2, .int x2)]) hx hb dX4_casesAsHeir_27 hl (by decide) rfl (fun ls hl => ?_)
  exact J_29 1000 u13 u14 u15 (0 : Int32) (0 : Int32) H locs ls hP hD hS (lv_sub hl [5, 6, 7, 4, 3, 2, 1, 0] rfl) hf
