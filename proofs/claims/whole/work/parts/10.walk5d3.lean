theorem sg_X5_see : kSig yX5_see wsX5_see cX5_see 4 (some .int) RX5 3 := ⟨⟨_, rfl⟩, rfl, by decide, by decide +kernel, by decide +kernel, by decide +kernel⟩
abbrev rm_X5_see : Room := { frames := 2, cells := 0, slots := 0, locals := 45 }
set_option maxRecDepth 20000 in
theorem in_X5_see_X2 : ∀ w ∈ u_ws RX2 TX2 4, w ∈ wsX5_see := by decide +kernel
set_option maxRecDepth 20000 in
theorem in_X5_see_X4 : ∀ w ∈ u_ws RX4 TX4 11, w ∈ wsX5_see := by decide +kernel
set_option maxRecDepth 20000 in
theorem in_X5_see_X5 : ∀ w ∈ u_ws RX5 TX5 9, w ∈ wsX5_see := by decide +kernel
set_option maxHeartbeats 4000000 in
set_option maxRecDepth 100000 in
theorem c_X5_see (l : Launch) (dC : Nat → ClassId) (dI : Nat → Nat → Nat) (cI cZ : ClassId) (a_o a_o_text a_o_now a_o_trial a_o_firstSlot a_o_secondSlot a_o_acts a_o_seen a_o_now_worth a_o_now_birth a_o_now_home a_o_now_kind a_o_now_wealth a_o_seen_house a_o_seen_child a_o_seen_lived a_o_seen_house_cells a_o_seen_child_cells a_o_seen_lived_cells : Nat) (v_o_keptSlots : Int32) (v_o_seedNow : Int64) (v_o_now_houses : Int32) (v_o_now_children : Int32) (v_o_now_living : Int32) (v_o_now_sideBits : Int32) (v_o_now_inherited : Int32) (v_o_now_theYear : Int32) (v_o_seen_count : Int32) (f_o_seen_house_cells : Nat → Int32) (f_o_seen_child_cells : Nat → Int32) (f_o_seen_lived_cells : Nat → Int32) (x1 : Int32) (x2 : Int32) (x3 : Int32) (u : Int32 × Int32 × (Nat → Int32) × (Nat → Int32) × (Nat → Int32)) (hf : f_X5_see v_o_now_houses v_o_now_children v_o_seen_count f_o_seen_house_cells f_o_seen_child_cells f_o_seen_lived_cells x1 x2 x3 = some u) : kMi l yX5_see wsX5_see rm_X5_see (dC, dI) (kTy cI cZ) [.ref a_o, .int x1, .int x2, .int x3] [(a_o, .inr (5, [.ref a_o_text, .ref a_o_now, .ref a_o_trial, .ref a_o_firstSlot, .ref a_o_secondSlot, .int v_o_keptSlots, .ref a_o_acts, .ref a_o_seen, .long v_o_seedNow])), (a_o_now, .inr (4, [.int v_o_now_houses, .int v_o_now_children, .int v_o_now_living, .int v_o_now_sideBits, .int v_o_now_inherited, .int v_o_now_theYear, .ref a_o_now_worth, .ref a_o_now_birth, .ref a_o_now_home, .ref a_o_now_kind, .ref a_o_now_wealth])), (a_o_seen, .inr (2, [.ref a_o_seen_house, .ref a_o_seen_child, .ref a_o_seen_lived, .int v_o_seen_count])), (a_o_seen_house, .inr (1, [.ref a_o_seen_house_cells])), (a_o_seen_house_cells, .inl (cI, 6, .inl f_o_seen_house_cells)), (a_o_seen_child, .inr (1, [.ref a_o_seen_child_cells])), (a_o_seen_child_cells, .inl (cI, 6, .inl f_o_seen_child_cells)), (a_o_seen_lived, .inr (1, [.ref a_o_seen_lived_cells])), (a_o_seen_lived_cells, .inl (cI, 6, .inl f_o_seen_lived_cells))] [(a_o, .inr (5, [.ref a_o_text, .ref a_o_now, .ref a_o_trial, .ref a_o_firstSlot, .ref a_o_secondSlot, .int v_o_keptSlots, .ref a_o_acts, .ref a_o_seen, .long v_o_seedNow])), (a_o_now, .inr (4, [.int v_o_now_houses, .int v_o_now_children, .int v_o_now_living, .int v_o_now_sideBits, .int v_o_now_inherited, .int v_o_now_theYear, .ref a_o_now_worth, .ref a_o_now_birth, .ref a_o_now_home, .ref a_o_now_kind, .ref a_o_now_wealth])), (a_o_seen, .inr (2, [.ref a_o_seen_house, .ref a_o_seen_child, .ref a_o_seen_lived, .int u.2.1])), (a_o_seen_house, .inr (1, [.ref a_o_seen_house_cells])), (a_o_seen_house_cells, .inl (cI, 6, .inl u.2.2.1)), (a_o_seen_child, .inr (1, [.ref a_o_seen_child_cells])), (a_o_seen_child_cells, .inl (cI, 6, .inl u.2.2.2.1)), (a_o_seen_lived, .inr (1, [.ref a_o_seen_lived_cells])), (a_o_seen_lived_cells, .inl (cI, 6, .inl u.2.2.2.2))] u.1 := by
  refine kMi_of sg_X5_see ⟨rfl, rfl⟩ (Nat.le_of_ble_eq_true rfl) ?_
  intro p e s m args below meth c A H0 Q hx hb hml hown hts hK hN hA hend H locs ls hP hD hS hl
  have hl : lv_has ls 4 [(0, .ref a_o), (1, .int x1), (2, .int x2), (3, .int x3)] := hl
  have hk19 := hts (.fieldLink RX5 19 "YoungestHouse" "now" "LYoungestHouse$Town;") (by decide +kernel)
  have hk42 := hts (.fieldLink RX5 42 "YoungestHouse" "seen" "LYoungestHouse$Sightings;") (by decide +kernel)
  have hk71 := va_Nw.use (A := args) rfl (hN (.fieldLinkNest RX5 71 RX4 "children" "I" RX5) (by decide +kernel))
  have hk86 := va_Nw.use (A := args) rfl (hN (.fieldLinkNest RX5 86 RX2 "count" "I" RX5) (by decide +kernel))
  unfold f_X5_see at hf
  refine lv_aload_n hx hb dX5_see_0 rfl (lv_at hl 0 rfl) ?_
  refine va_get (D := (dC, dI)) (ci := 5) (v := .ref a_o_now) (C := RX5) (T := TX5) (N := 9) hx hb hts in_X5_see_X5 hown hK hP 0 rfl rfl 1 (by decide) hk19 (fun _ h9 => h9) rfl dX5_see_1 ?_
  refine lv_iload_n hx hb dX5_see_4 rfl (lv_at hl 1 rfl) ?_
  obtain ⟨u1, hu1, hf⟩ := kb1_e hf
  refine kc_i (wn := [(a_o, .inr (5, [.ref a_o_text, .ref a_o_now, .ref a_o_trial, .ref a_o_firstSlot, .ref a_o_secondSlot, .int v_o_keptSlots, .ref a_o_acts, .ref a_o_seen, .long v_o_seedNow])), (a_o_now, .inr (4, [.int v_o_now_houses, .int v_o_now_children, .int v_o_now_living, .int v_o_now_sideBits, .int v_o_now_inherited, .int v_o_now_theYear, .ref a_o_now_worth, .ref a_o_now_birth, .ref a_o_now_home, .ref a_o_now_kind, .ref a_o_now_wealth])), (a_o_seen, .inr (2, [.ref a_o_seen_house, .ref a_o_seen_child, .ref a_o_seen_lived, .int v_o_seen_count])), (a_o_seen_house, .inr (1, [.ref a_o_seen_house_cells])), (a_o_seen_house_cells, .inl (cI, 6, .inl f_o_seen_house_cells)), (a_o_seen_child, .inr (1, [.ref a_o_seen_child_cells])), (a_o_seen_child_cells, .inl (cI, 6, .inl f_o_seen_child_cells)), (a_o_seen_lived, .inr (1, [.ref a_o_seen_lived_cells])), (a_o_seen_lived_cells, .inl (cI, 6, .inl f_o_seen_lived_cells))]) (wr := [(a_o, .inr (5, [.ref a_o_text, .ref a_o_now, .ref a_o_trial, .ref a_o_firstSlot, .ref a_o_secondSlot, .int v_o_keptSlots, .ref a_o_acts, .ref a_o_seen, .long v_o_seedNow])), (a_o_seen, .inr (2, [.ref a_o_seen_house, .ref a_o_seen_child, .ref a_o_seen_lived, .int v_o_seen_count])), (a_o_seen_house, .inr (1, [.ref a_o_seen_house_cells])), (a_o_seen_house_cells, .inl (cI, 6, .inl f_o_seen_house_cells)), (a_o_seen_child, .inr (1, [.ref a_o_seen_child_cells])), (a_o_seen_child_cells, .inl (cI, 6, .inl f_o_seen_child_cells)), (a_o_seen_lived, .inr (1, [.ref a_o_seen_lived_cells])), (a_o_seen_lived_cells, .inl (cI, 6, .inl f_o_seen_lived_cells))]) (kr_V (As := [.int x1]) (rest := []) ⟨hx, hb, hml, hown, hts⟩ hK hN hP hD hl.1 (c_X4_hasHouse l dC dI cI cZ a_o_now a_o_now_worth a_o_now_birth a_o_now_home a_o_now_kind a_o_now_wealth v_o_now_houses v_o_now_children v_o_now_living v_o_now_sideBits v_o_now_inherited v_o_now_theYear x1 u1 hu1 H.size) sg_X4_hasHouse ⟨rfl, rfl⟩ ⟨Nat.le_of_ble_eq_true rfl, Nat.le_of_ble_eq_true rfl⟩ gX5_see_X4_hasHouse 1 rfl rfl rfl [1] (by decide +kernel) rfl rfl rfl (Nat.le_of_ble_eq_true rfl) dX5_see_5 ⟨Nat.zero_le _, Nat.zero_le _⟩) hA hP hD hS [1] [0, 2, 3, 4, 5, 6, 7, 8] 9 rfl rfl rfl rfl rfl (by decide +kernel) (by decide +kernel) rfl (fun H locs hP hD hS => ?_)
  refine lv_if_eq (tgt := 22) hx hb dX5_see_8 (by decide) (fun c2 => ?_) (fun c2 => ?_)
  · replace hf := kt c2 hf
    refine lv_iconst (v := (-1 : Int32)) hx hb dX5_see_22 (by decide) ?_
    cases hf
    exact hend _ _ _ _ dX5_see_23 rfl hP hS
  · replace hf := kf c2 hf
    refine lv_aload_n hx hb dX5_see_11 rfl (lv_at hl 0 rfl) ?_
    refine va_get (D := (dC, dI)) (ci := 5) (v := .ref a_o_now) (C := RX5) (T := TX5) (N := 9) hx hb hts in_X5_see_X5 hown hK hP 0 rfl rfl 1 (by decide) hk19 (fun _ h9 => h9) rfl dX5_see_12 ?_
    refine lv_iload_n hx hb dX5_see_15 rfl (lv_at hl 2 rfl) ?_
    obtain ⟨u3, hu3, hf⟩ := kb1_e hf
    refine kc_i (wn := [(a_o, .inr (5, [.ref a_o_text, .ref a_o_now, .ref a_o_trial, .ref a_o_firstSlot, .ref a_o_secondSlot, .int v_o_keptSlots, .ref a_o_acts, .ref a_o_seen, .long v_o_seedNow])), (a_o_now, .inr (4, [.int v_o_now_houses, .int v_o_now_children, .int v_o_now_living, .int v_o_now_sideBits, .int v_o_now_inherited, .int v_o_now_theYear, .ref a_o_now_worth, .ref a_o_now_birth, .ref a_o_now_home, .ref a_o_now_kind, .ref a_o_now_wealth])), (a_o_seen, .inr (2, [.ref a_o_seen_house, .ref a_o_seen_child, .ref a_o_seen_lived, .int v_o_seen_count])), (a_o_seen_house, .inr (1, [.ref a_o_seen_house_cells])), (a_o_seen_house_cells, .inl (cI, 6, .inl f_o_seen_house_cells)), (a_o_seen_child, .inr (1, [.ref a_o_seen_child_cells])), (a_o_seen_child_cells, .inl (cI, 6, .inl f_o_seen_child_cells)), (a_o_seen_lived, .inr (1, [.ref a_o_seen_lived_cells])), (a_o_seen_lived_cells, .inl (cI, 6, .inl f_o_seen_lived_cells))]) (wr := [(a_o, .inr (5, [.ref a_o_text, .ref a_o_now, .ref a_o_trial, .ref a_o_firstSlot, .ref a_o_secondSlot, .int v_o_keptSlots, .ref a_o_acts, .ref a_o_seen, .long v_o_seedNow])), (a_o_seen, .inr (2, [.ref a_o_seen_house, .ref a_o_seen_child, .ref a_o_seen_lived, .int v_o_seen_count])), (a_o_seen_house, .inr (1, [.ref a_o_seen_house_cells])), (a_o_seen_house_cells, .inl (cI, 6, .inl f_o_seen_house_cells)), (a_o_seen_child, .inr (1, [.ref a_o_seen_child_cells])), (a_o_seen_child_cells, .inl (cI, 6, .inl f_o_seen_child_cells)), (a_o_seen_lived, .inr (1, [.ref a_o_seen_lived_cells])), (a_o_seen_lived_cells, .inl (cI, 6, .inl f_o_seen_lived_cells))]) (kr_V (As := [.int x2]) (rest := []) ⟨hx, hb, hml, hown, hts⟩ hK hN hP hD hl.1 (c_X4_hasChild l dC dI cI cZ a_o_now a_o_now_worth a_o_now_birth a_o_now_home a_o_now_kind a_o_now_wealth v_o_now_houses v_o_now_children v_o_now_living v_o_now_sideBits v_o_now_inherited v_o_now_theYear x2 u3 hu3 H.size) sg_X4_hasChild ⟨rfl, rfl⟩ ⟨Nat.le_of_ble_eq_true rfl, Nat.le_of_ble_eq_true rfl⟩ gX5_see_X4_hasChild 1 rfl rfl rfl [1] (by decide +kernel) rfl rfl rfl (Nat.le_of_ble_eq_true rfl) dX5_see_16 ⟨Nat.zero_le _, Nat.zero_le _⟩) hA hP hD hS [1] [0, 2, 3, 4, 5, 6, 7, 8] 9 rfl rfl rfl rfl rfl (by decide +kernel) (by decide +kernel) rfl (fun H locs hP hD hS => ?_)
    refine lv_if_ne (tgt := 24) hx hb dX5_see_19 (by decide) (fun c4 => ?_) (fun c4 => ?_)
    · replace hf := kf c4 hf
      refine lv_iload_n hx hb dX5_see_24 rfl (lv_at hl 3 rfl) ?_
      refine lv_if_lt (tgt := 49) hx hb dX5_see_25 (by decide) (fun c5 => ?_) (fun c5 => ?_)
      · replace hf := kt c5 hf
        refine lv_bipush (v := (-2 : Int32)) hx hb dX5_see_49 (by decide) ?_
        cases hf
        exact hend _ _ _ _ dX5_see_51 rfl hP hS
      · replace hf := kf c5 hf
        refine lv_iload_n hx hb dX5_see_28 rfl (lv_at hl 3 rfl) ?_
        refine lv_iconst (v := (1 : Int32)) hx hb dX5_see_29 (by decide) ?_
        refine lv_aload_n hx hb dX5_see_30 rfl (lv_at hl 0 rfl) ?_
        refine va_get (D := (dC, dI)) (ci := 5) (v := .ref a_o_now) (C := RX5) (T := TX5) (N := 9) hx hb hts in_X5_see_X5 hown hK hP 0 rfl rfl 1 (by decide) hk19 (fun _ h9 => h9) rfl dX5_see_31 ?_
        refine va_getN (D := (dC, dI)) (ci := 4) (v := .int v_o_now_children) (C := RX4) (T := TX4) (N := 11) hx hb hts in_X5_see_X4 hown hK hP 1 rfl rfl 1 (by decide) hk71 (fun _ h9 => h9) rfl dX5_see_34 ?_
        refine lv_ishl hx hb dX5_see_37 ?_
        refine lv_icmp_ge (tgt := 49) hx hb dX5_see_38 (by decide) (fun c6 => ?_) (fun c6 => ?_)
        · replace hf := kt c6 hf
          refine lv_bipush (v := (-2 : Int32)) hx hb dX5_see_49 (by decide) ?_
          cases hf
          exact hend _ _ _ _ dX5_see_51 rfl hP hS
        · replace hf := kf c6 hf
          refine lv_iload_n hx hb dX5_see_41 rfl (lv_at hl 3 rfl) ?_
          refine lv_iload_n hx hb dX5_see_42 rfl (lv_at hl 2 rfl) ?_
          obtain ⟨u7, hu7, hf⟩ := kb1_e hf
          refine kc_i (wn := [(a_o, .inr (5, [.ref a_o_text, .ref a_o_now, .ref a_o_trial, .ref a_o_firstSlot, .ref a_o_secondSlot, .int v_o_keptSlots, .ref a_o_acts, .ref a_o_seen, .long v_o_seedNow])), (a_o_now, .inr (4, [.int v_o_now_houses, .int v_o_now_children, .int v_o_now_living, .int v_o_now_sideBits, .int v_o_now_inherited, .int v_o_now_theYear, .ref a_o_now_worth, .ref a_o_now_birth, .ref a_o_now_home, .ref a_o_now_kind, .ref a_o_now_wealth])), (a_o_seen, .inr (2, [.ref a_o_seen_house, .ref a_o_seen_child, .ref a_o_seen_lived, .int v_o_seen_count])), (a_o_seen_house, .inr (1, [.ref a_o_seen_house_cells])), (a_o_seen_house_cells, .inl (cI, 6, .inl f_o_seen_house_cells)), (a_o_seen_child, .inr (1, [.ref a_o_seen_child_cells])), (a_o_seen_child_cells, .inl (cI, 6, .inl f_o_seen_child_cells)), (a_o_seen_lived, .inr (1, [.ref a_o_seen_lived_cells])), (a_o_seen_lived_cells, .inl (cI, 6, .inl f_o_seen_lived_cells))]) (wr := [(a_o, .inr (5, [.ref a_o_text, .ref a_o_now, .ref a_o_trial, .ref a_o_firstSlot, .ref a_o_secondSlot, .int v_o_keptSlots, .ref a_o_acts, .ref a_o_seen, .long v_o_seedNow])), (a_o_now, .inr (4, [.int v_o_now_houses, .int v_o_now_children, .int v_o_now_living, .int v_o_now_sideBits, .int v_o_now_inherited, .int v_o_now_theYear, .ref a_o_now_worth, .ref a_o_now_birth, .ref a_o_now_home, .ref a_o_now_kind, .ref a_o_now_wealth])), (a_o_seen, .inr (2, [.ref a_o_seen_house, .ref a_o_seen_child, .ref a_o_seen_lived, .int v_o_seen_count])), (a_o_seen_house, .inr (1, [.ref a_o_seen_house_cells])), (a_o_seen_house_cells, .inl (cI, 6, .inl f_o_seen_house_cells)), (a_o_seen_child, .inr (1, [.ref a_o_seen_child_cells])), (a_o_seen_child_cells, .inl (cI, 6, .inl f_o_seen_child_cells)), (a_o_seen_lived, .inr (1, [.ref a_o_seen_lived_cells])), (a_o_seen_lived_cells, .inl (cI, 6, .inl f_o_seen_lived_cells))]) (kr_T (As := [.int x3, .int x2]) (rest := []) ⟨hx, hb, hml, hown, hts⟩ hK hN hP hD hl.1 (c_X5_isIn l dC dI cI cZ x3 x2 u7 hu7 H.size) sg_X5_isIn ⟨rfl, rfl⟩ ⟨Nat.le_of_ble_eq_true rfl, Nat.le_of_ble_eq_true rfl⟩ gX5_see_X5_isIn [] (by decide +kernel) rfl rfl rfl (Nat.le_of_ble_eq_true rfl) dX5_see_43 ⟨Nat.zero_le _, Nat.zero_le _⟩) hA hP hD hS [] [0, 1, 2, 3, 4, 5, 6, 7, 8] 9 rfl rfl rfl rfl rfl (by decide +kernel) (by decide +kernel) rfl (fun H locs hP hD hS => ?_)
          refine lv_if_ne (tgt := 52) hx hb dX5_see_46 (by decide) (fun c8 => ?_) (fun c8 => ?_)
          · replace hf := kf c8 hf
            refine lv_aload_n hx hb dX5_see_52 rfl (lv_at hl 0 rfl) ?_
            refine va_get (D := (dC, dI)) (ci := 5) (v := .ref a_o_seen) (C := RX5) (T := TX5) (N := 9) hx hb hts in_X5_see_X5 hown hK hP 0 rfl rfl 7 (by decide) hk42 (fun _ h9 => h9) rfl dX5_see_53 ?_
            refine va_getN (D := (dC, dI)) (ci := 2) (v := .int v_o_seen_count) (C := RX2) (T := TX2) (N := 4) hx hb hts in_X5_see_X2 hown hK hP 2 rfl rfl 3 (by decide) hk86 (fun _ h9 => h9) rfl dX5_see_56 ?_
            refine lv_bipush (v := (6 : Int32)) hx hb dX5_see_59 (by decide) ?_
            refine lv_icmp_lt (tgt := 67) hx hb dX5_see_61 (by decide) (fun c9 => ?_) (fun c9 => ?_)
            · replace hf := kt c9 hf
              refine lv_aload_n hx hb dX5_see_67 rfl (lv_at hl 0 rfl) ?_
              refine va_get (D := (dC, dI)) (ci := 5) (v := .ref a_o_seen) (C := RX5) (T := TX5) (N := 9) hx hb hts in_X5_see_X5 hown hK hP 0 rfl rfl 7 (by decide) hk42 (fun _ h9 => h9) rfl dX5_see_68 ?_
              refine lv_iload_n hx hb dX5_see_71 rfl (lv_at hl 1 rfl) ?_
              refine lv_iload_n hx hb dX5_see_72 rfl (lv_at hl 2 rfl) ?_
              refine lv_iload_n hx hb dX5_see_73 rfl (lv_at hl 3 rfl) ?_
              obtain ⟨u10, hu10, hf⟩ := kb1_e hf
              refine kc_i (wn := [(a_o, .inr (5, [.ref a_o_text, .ref a_o_now, .ref a_o_trial, .ref a_o_firstSlot, .ref a_o_secondSlot, .int v_o_keptSlots, .ref a_o_acts, .ref a_o_seen, .long v_o_seedNow])), (a_o_now, .inr (4, [.int v_o_now_houses, .int v_o_now_children, .int v_o_now_living, .int v_o_now_sideBits, .int v_o_now_inherited, .int v_o_now_theYear, .ref a_o_now_worth, .ref a_o_now_birth, .ref a_o_now_home, .ref a_o_now_kind, .ref a_o_now_wealth])), (a_o_seen, .inr (2, [.ref a_o_seen_house, .ref a_o_seen_child, .ref a_o_seen_lived, .int u10.2.1])), (a_o_seen_house, .inr (1, [.ref a_o_seen_house_cells])), (a_o_seen_house_cells, .inl (cI, 6, .inl u10.2.2.1)), (a_o_seen_child, .inr (1, [.ref a_o_seen_child_cells])), (a_o_seen_child_cells, .inl (cI, 6, .inl u10.2.2.2.1)), (a_o_seen_lived, .inr (1, [.ref a_o_seen_lived_cells])), (a_o_seen_lived_cells, .inl (cI, 6, .inl u10.2.2.2.2))]) (wr := [(a_o, .inr (5, [.ref a_o_text, .ref a_o_now, .ref a_o_trial, .ref a_o_firstSlot, .ref a_o_secondSlot, .int v_o_keptSlots, .ref a_o_acts, .ref a_o_seen, .long v_o_seedNow])), (a_o_now, .inr (4, [.int v_o_now_houses, .int v_o_now_children, .int v_o_now_living, .int v_o_now_sideBits, .int v_o_now_inherited, .int v_o_now_theYear, .ref a_o_now_worth, .ref a_o_now_birth, .ref a_o_now_home, .ref a_o_now_kind, .ref a_o_now_wealth]))]) (kr_V (As := [.int x1, .int x2, .int x3]) (rest := []) ⟨hx, hb, hml, hown, hts⟩ hK hN hP hD hl.1 (c_X2_add l dC dI cI cZ a_o_seen a_o_seen_house a_o_seen_child a_o_seen_lived a_o_seen_house_cells a_o_seen_child_cells a_o_seen_lived_cells v_o_seen_count f_o_seen_house_cells f_o_seen_child_cells f_o_seen_lived_cells x1 x2 x3 u10 hu10 H.size) sg_X2_add ⟨rfl, rfl⟩ ⟨Nat.le_of_ble_eq_true rfl, Nat.le_of_ble_eq_true rfl⟩ gX5_see_X2_add 2 rfl rfl rfl [2, 3, 4, 5, 6, 7, 8] (by decide +kernel) rfl rfl rfl (Nat.le_of_ble_eq_true rfl) dX5_see_74 ⟨Nat.zero_le _, Nat.zero_le _⟩) hA hP hD hS [2, 3, 4, 5, 6, 7, 8] [0, 1] 9 rfl rfl rfl rfl rfl (by decide +kernel) (by decide +kernel) rfl (fun H locs hP hD hS => ?_)
              cases hf
              exact hend _ _ _ _ dX5_see_77 rfl hP hS
            · replace hf := kf c9 hf
              refine lv_bipush (v := (-4 : Int32)) hx hb dX5_see_64 (by decide) ?_
              cases hf
              exact hend _ _ _ _ dX5_see_66 rfl hP hS
          · replace hf := kt c8 hf
            refine lv_bipush (v := (-2 : Int32)) hx hb dX5_see_49 (by decide) ?_
            cases hf
            exact hend _ _ _ _ dX5_see_51 rfl hP hS
    · replace hf := kt c4 hf
      refine lv_iconst (v := (-1 : Int32)) hx hb dX5_see_22 (by decide) ?_
      cases hf
      exact hend _ _ _ _ dX5_see_23 rfl hP hS
