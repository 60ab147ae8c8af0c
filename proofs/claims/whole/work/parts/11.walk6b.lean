theorem sg_X6_readPart : kSig yX6_readPart wsX6_readPart cX6_readPart 2 (some .boolean) RX6 0 := ⟨⟨_, rfl⟩, rfl, by decide, by decide +kernel, by decide +kernel, by decide +kernel⟩
abbrev rm_X6_readPart : Room := { frames := 3, cells := 0, slots := 0, locals := 70 }
set_option maxRecDepth 20000 in
theorem in_X6_readPart_X6 : ∀ w ∈ u_ws RX6 TX6 32, w ∈ wsX6_readPart := by decide +kernel
set_option maxHeartbeats 4000000 in
set_option maxRecDepth 100000 in
theorem c_X6_readPart (l : Launch) (dC : Nat → ClassId) (dI : Nat → Nat → Nat) (cI cZ : ClassId) (a_o a_o_text a_o_worth a_o_readHouse a_o_readChild a_o_page a_o_trial a_o_book a_o_kept a_o_isKept a_o_seenHouse a_o_seenChild a_o_seenLived a_o_gains a_o_value : Nat) (v_o_thrown : Int32) (v_o_textSize : Int32) (v_o_place : Int32) (v_o_houses : Int32) (v_o_readHouses : Int32) (v_o_readChildren : Int32) (v_o_acts : Int32) (v_o_seen : Int32) (v_o_seed : Int64) (v_o_rollMost : Int32) (v_o_rollSet : Int32) (v_o_sideMany : Int32) (v_o_sideOne : Int32) (v_o_sideNone : Int32) (v_o_wrongSides : Int32) (v_o_wrongMany : Int32) (v_o_restMany : Int32) (v_o_restFirst : Int32) (f_o_text : Nat → Int32) (f_o_readHouse : Nat → Int32) (f_o_readChild : Nat → Int32)  (u : Int32 × Int32 × Int32 × Int32 × (Nat → Int32) × (Nat → Int32)) (hf : f_X6_readPart v_o_textSize f_o_text v_o_place v_o_readHouses v_o_readChildren f_o_readHouse f_o_readChild = some u) : kMi l yX6_readPart wsX6_readPart rm_X6_readPart (dC, dI) (kTy cI cZ) [.ref a_o] [(a_o, .inr (6, [.int v_o_thrown, .ref a_o_text, .int v_o_textSize, .int v_o_place, .int v_o_houses, .ref a_o_worth, .int v_o_readHouses, .ref a_o_readHouse, .int v_o_readChildren, .ref a_o_readChild, .ref a_o_page, .ref a_o_trial, .ref a_o_book, .int v_o_acts, .ref a_o_kept, .ref a_o_isKept, .int v_o_seen, .ref a_o_seenHouse, .ref a_o_seenChild, .ref a_o_seenLived, .long v_o_seed, .int v_o_rollMost, .int v_o_rollSet, .int v_o_sideMany, .int v_o_sideOne, .int v_o_sideNone, .int v_o_wrongSides, .int v_o_wrongMany, .int v_o_restMany, .int v_o_restFirst, .ref a_o_gains, .ref a_o_value])), (a_o_text, .inl (cI, 48, .inl f_o_text)), (a_o_readHouse, .inl (cI, 6, .inl f_o_readHouse)), (a_o_readChild, .inl (cI, 18, .inl f_o_readChild))] [(a_o, .inr (6, [.int v_o_thrown, .ref a_o_text, .int v_o_textSize, .int u.2.1, .int v_o_houses, .ref a_o_worth, .int u.2.2.1, .ref a_o_readHouse, .int u.2.2.2.1, .ref a_o_readChild, .ref a_o_page, .ref a_o_trial, .ref a_o_book, .int v_o_acts, .ref a_o_kept, .ref a_o_isKept, .int v_o_seen, .ref a_o_seenHouse, .ref a_o_seenChild, .ref a_o_seenLived, .long v_o_seed, .int v_o_rollMost, .int v_o_rollSet, .int v_o_sideMany, .int v_o_sideOne, .int v_o_sideNone, .int v_o_wrongSides, .int v_o_wrongMany, .int v_o_restMany, .int v_o_restFirst, .ref a_o_gains, .ref a_o_value])), (a_o_text, .inl (cI, 48, .inl f_o_text)), (a_o_readHouse, .inl (cI, 6, .inl u.2.2.2.2.1)), (a_o_readChild, .inl (cI, 18, .inl u.2.2.2.2.2))] u.1 := by
  refine kMi_of sg_X6_readPart ⟨rfl, rfl⟩ (Nat.le_of_ble_eq_true rfl) ?_
  intro p e s m args below meth c A H0 Q hx hb hml hown hts hK hN hA hend H locs ls hP hD hS hl
  have hl : lv_has ls 2 [(0, .ref a_o)] := hl
  have hk7 := hts (.fieldLink RX6 7 "YoungestHouseModel" "text" "[I") (by decide +kernel)
  have hk69 := hts (.fieldLink RX6 69 "YoungestHouseModel" "place" "I") (by decide +kernel)
  have hk76 := hts (.fieldLink RX6 76 "YoungestHouseModel" "readHouses" "I") (by decide +kernel)
  have hk79 := hts (.fieldLink RX6 79 "YoungestHouseModel" "readChildren" "I") (by decide +kernel)
  have J_66 : ∀ (v_o_place : Int32) (v_o_readHouses : Int32) (v_o_readChildren : Int32) (f_o_readHouse : Nat → Int32) (f_o_readChild : Nat → Int32) (H : Heap) (locs : List Loc) (ls : Array Slot), va_P (dC, dI) vwCl [(a_o, .inr (6, [.int v_o_thrown, .ref a_o_text, .int v_o_textSize, .int v_o_place, .int v_o_houses, .ref a_o_worth, .int v_o_readHouses, .ref a_o_readHouse, .int v_o_readChildren, .ref a_o_readChild, .ref a_o_page, .ref a_o_trial, .ref a_o_book, .int v_o_acts, .ref a_o_kept, .ref a_o_isKept, .int v_o_seen, .ref a_o_seenHouse, .ref a_o_seenChild, .ref a_o_seenLived, .long v_o_seed, .int v_o_rollMost, .int v_o_rollSet, .int v_o_sideMany, .int v_o_sideOne, .int v_o_sideNone, .int v_o_wrongSides, .int v_o_wrongMany, .int v_o_restMany, .int v_o_restFirst, .ref a_o_gains, .ref a_o_value])), (a_o_text, .inl (cI, 48, .inl f_o_text)), (a_o_readHouse, .inl (cI, 6, .inl f_o_readHouse)), (a_o_readChild, .inl (cI, 18, .inl f_o_readChild))] H → va_D A [(a_o, .inr (6, [.int v_o_thrown, .ref a_o_text, .int v_o_textSize, .int v_o_place, .int v_o_houses, .ref a_o_worth, .int v_o_readHouses, .ref a_o_readHouse, .int v_o_readChildren, .ref a_o_readChild, .ref a_o_page, .ref a_o_trial, .ref a_o_book, .int v_o_acts, .ref a_o_kept, .ref a_o_isKept, .int v_o_seen, .ref a_o_seenHouse, .ref a_o_seenChild, .ref a_o_seenLived, .long v_o_seed, .int v_o_rollMost, .int v_o_rollSet, .int v_o_sideMany, .int v_o_sideOne, .int v_o_sideNone, .int v_o_wrongSides, .int v_o_wrongMany, .int v_o_restMany, .int v_o_restFirst, .ref a_o_gains, .ref a_o_value])), (a_o_text, .inl (cI, 48, .inl f_o_text)), (a_o_readHouse, .inl (cI, 6, .inl f_o_readHouse)), (a_o_readChild, .inl (cI, 18, .inl f_o_readChild))] → va_S A H0 H locs → lv_has ls 2 [(0, .ref a_o)] → f_X6_readPart_66 v_o_textSize f_o_text v_o_place v_o_readHouses v_o_readChildren f_o_readHouse f_o_readChild = some u → W p l e rm_X6_readPart s m args below meth c H locs 0 0 Q (F0 m 66 ls []) := by
    intro v_o_place v_o_readHouses v_o_readChildren f_o_readHouse f_o_readChild H locs ls hP hD hS hl hf
    unfold f_X6_readPart_66 at hf
    refine lv_aload_n hx hb dX6_readPart_66 rfl (lv_at hl 0 rfl) ?_
    refine lv_dup hx hb dX6_readPart_67 rfl ?_
    refine va_get (D := (dC, dI)) (ci := 6) (v := .int v_o_place) (C := RX6) (T := TX6) (N := 32) hx hb hts in_X6_readPart_X6 hown hK hP 0 rfl rfl 3 (by decide) hk69 (fun _ h9 => h9) rfl dX6_readPart_68 ?_
    refine lv_iconst (v := (1 : Int32)) hx hb dX6_readPart_71 (by decide) ?_
    refine lv_isub hx hb dX6_readPart_72 ?_
    refine va_put (D := (dC, dI)) (ci := 6) (v := .int (v_o_place - (1 : Int32))) (ty := .int) (C := RX6) (T := TX6) (N := 32) hx hb hts in_X6_readPart_X6 tyX6 tyX6_ok nmX6 hown hK hP hD hS 0 rfl rfl 3 (by decide) hk69 (fun _ h9 => h9) rfl (by decide +kernel) rfl rfl (Nat.le_of_ble_eq_true rfl) dX6_readPart_73 (fun H locs hP hD hS => ?_)
    have hP : va_P (dC, dI) vwCl [(a_o, .inr (6, [.int v_o_thrown, .ref a_o_text, .int v_o_textSize, .int (v_o_place - (1 : Int32)), .int v_o_houses, .ref a_o_worth, .int v_o_readHouses, .ref a_o_readHouse, .int v_o_readChildren, .ref a_o_readChild, .ref a_o_page, .ref a_o_trial, .ref a_o_book, .int v_o_acts, .ref a_o_kept, .ref a_o_isKept, .int v_o_seen, .ref a_o_seenHouse, .ref a_o_seenChild, .ref a_o_seenLived, .long v_o_seed, .int v_o_rollMost, .int v_o_rollSet, .int v_o_sideMany, .int v_o_sideOne, .int v_o_sideNone, .int v_o_wrongSides, .int v_o_wrongMany, .int v_o_restMany, .int v_o_restFirst, .ref a_o_gains, .ref a_o_value])), (a_o_text, .inl (cI, 48, .inl f_o_text)), (a_o_readHouse, .inl (cI, 6, .inl f_o_readHouse)), (a_o_readChild, .inl (cI, 18, .inl f_o_readChild))] H := hP
    have hD : va_D A [(a_o, .inr (6, [.int v_o_thrown, .ref a_o_text, .int v_o_textSize, .int (v_o_place - (1 : Int32)), .int v_o_houses, .ref a_o_worth, .int v_o_readHouses, .ref a_o_readHouse, .int v_o_readChildren, .ref a_o_readChild, .ref a_o_page, .ref a_o_trial, .ref a_o_book, .int v_o_acts, .ref a_o_kept, .ref a_o_isKept, .int v_o_seen, .ref a_o_seenHouse, .ref a_o_seenChild, .ref a_o_seenLived, .long v_o_seed, .int v_o_rollMost, .int v_o_rollSet, .int v_o_sideMany, .int v_o_sideOne, .int v_o_sideNone, .int v_o_wrongSides, .int v_o_wrongMany, .int v_o_restMany, .int v_o_restFirst, .ref a_o_gains, .ref a_o_value])), (a_o_text, .inl (cI, 48, .inl f_o_text)), (a_o_readHouse, .inl (cI, 6, .inl f_o_readHouse)), (a_o_readChild, .inl (cI, 18, .inl f_o_readChild))] := hD
    refine lv_iconst (v := (0 : Int32)) hx hb dX6_readPart_76 (by decide) ?_
    cases hf
    exact hend _ _ _ _ dX6_readPart_77 (show narrow FieldType.boolean (Value.int (0 : Int32)) = Value.int (0 : Int32) from rfl) hP hS
  have J_39 : ∀ (v_o_place : Int32) (v_o_readHouses : Int32) (v_o_readChildren : Int32) (f_o_readHouse : Nat → Int32) (f_o_readChild : Nat → Int32) (x1 : Int32) (H : Heap) (locs : List Loc) (ls : Array Slot), va_P (dC, dI) vwCl [(a_o, .inr (6, [.int v_o_thrown, .ref a_o_text, .int v_o_textSize, .int v_o_place, .int v_o_houses, .ref a_o_worth, .int v_o_readHouses, .ref a_o_readHouse, .int v_o_readChildren, .ref a_o_readChild, .ref a_o_page, .ref a_o_trial, .ref a_o_book, .int v_o_acts, .ref a_o_kept, .ref a_o_isKept, .int v_o_seen, .ref a_o_seenHouse, .ref a_o_seenChild, .ref a_o_seenLived, .long v_o_seed, .int v_o_rollMost, .int v_o_rollSet, .int v_o_sideMany, .int v_o_sideOne, .int v_o_sideNone, .int v_o_wrongSides, .int v_o_wrongMany, .int v_o_restMany, .int v_o_restFirst, .ref a_o_gains, .ref a_o_value])), (a_o_text, .inl (cI, 48, .inl f_o_text)), (a_o_readHouse, .inl (cI, 6, .inl f_o_readHouse)), (a_o_readChild, .inl (cI, 18, .inl f_o_readChild))] H → va_D A [(a_o, .inr (6, [.int v_o_thrown, .ref a_o_text, .int v_o_textSize, .int v_o_place, .int v_o_houses, .ref a_o_worth, .int v_o_readHouses, .ref a_o_readHouse, .int v_o_readChildren, .ref a_o_readChild, .ref a_o_page, .ref a_o_trial, .ref a_o_book, .int v_o_acts, .ref a_o_kept, .ref a_o_isKept, .int v_o_seen, .ref a_o_seenHouse, .ref a_o_seenChild, .ref a_o_seenLived, .long v_o_seed, .int v_o_rollMost, .int v_o_rollSet, .int v_o_sideMany, .int v_o_sideOne, .int v_o_sideNone, .int v_o_wrongSides, .int v_o_wrongMany, .int v_o_restMany, .int v_o_restFirst, .ref a_o_gains, .ref a_o_value])), (a_o_text, .inl (cI, 48, .inl f_o_text)), (a_o_readHouse, .inl (cI, 6, .inl f_o_readHouse)), (a_o_readChild, .inl (cI, 18, .inl f_o_readChild))] → va_S A H0 H locs → lv_has ls 2 [(0, .ref a_o), (1, .int x1)] → f_X6_readPart_39 v_o_textSize f_o_text v_o_place v_o_readHouses v_o_readChildren f_o_readHouse f_o_readChild x1 = some u → W p l e rm_X6_readPart s m args below meth c H locs 0 0 Q (F0 m 39 ls []) := by
    intro v_o_place v_o_readHouses v_o_readChildren f_o_readHouse f_o_readChild x1 H locs ls hP hD hS hl hf
    unfold f_X6_readPart_39 at hf
    refine lv_iload_n hx hb dX6_readPart_39 rfl (lv_at hl 1 rfl) ?_
    refine lv_bipush (v := (67 : Int32)) hx hb dX6_readPart_40 (by decide) ?_
    refine lv_icmp_ne (tgt := 66) hx hb dX6_readPart_42 (by decide) (fun c1 => ?_) (fun c1 => ?_)
    · replace hf := kf c1 hf
      exact J_66 v_o_place v_o_readHouses v_o_readChildren f_o_readHouse f_o_readChild H locs ls hP hD hS (lv_sub hl [0] rfl) hf
    · replace hf := kt c1 hf
      refine lv_aload_n hx hb dX6_readPart_45 rfl (lv_at hl 0 rfl) ?_
      refine va_get (D := (dC, dI)) (ci := 6) (v := .int v_o_readHouses) (C := RX6) (T := TX6) (N := 32) hx hb hts in_X6_readPart_X6 hown hK hP 0 rfl rfl 6 (by decide) hk76 (fun _ h9 => h9) rfl dX6_readPart_46 ?_
      refine lv_if_le (tgt := 66) hx hb dX6_readPart_49 (by decide) (fun c2 => ?_) (fun c2 => ?_)
      · replace hf := kt c2 hf
        exact J_66 v_o_place v_o_readHouses v_o_readChildren f_o_readHouse f_o_readChild H locs ls hP hD hS (lv_sub hl [0] rfl) hf
      · replace hf := kf c2 hf
        refine lv_aload_n hx hb dX6_readPart_52 rfl (lv_at hl 0 rfl) ?_
        refine va_get (D := (dC, dI)) (ci := 6) (v := .int v_o_readChildren) (C := RX6) (T := TX6) (N := 32) hx hb hts in_X6_readPart_X6 hown hK hP 0 rfl rfl 8 (by decide) hk79 (fun _ h9 => h9) rfl dX6_readPart_53 ?_
        refine lv_bipush (v := (6 : Int32)) hx hb dX6_readPart_56 (by decide) ?_
        refine lv_icmp_ge (tgt := 66) hx hb dX6_readPart_58 (by decide) (fun c3 => ?_) (fun c3 => ?_)
        · replace hf := kt c3 hf
          exact J_66 v_o_place v_o_readHouses v_o_readChildren f_o_readHouse f_o_readChild H locs ls hP hD hS (lv_sub hl [0] rfl) hf
        · replace hf := kf c3 hf
          refine lv_aload_n hx hb dX6_readPart_61 rfl (lv_at hl 0 rfl) ?_
          obtain ⟨u4, hu4, hf⟩ := kb1_e hf
          refine kc_i (wn := [(a_o, .inr (6, [.int v_o_thrown, .ref a_o_text, .int v_o_textSize, .int u4.2.1, .int v_o_houses, .ref a_o_worth, .int v_o_readHouses, .ref a_o_readHouse, .int u4.2.2.1, .ref a_o_readChild, .ref a_o_page, .ref a_o_trial, .ref a_o_book, .int v_o_acts, .ref a_o_kept, .ref a_o_isKept, .int v_o_seen, .ref a_o_seenHouse, .ref a_o_seenChild, .ref a_o_seenLived, .long v_o_seed, .int v_o_rollMost, .int v_o_rollSet, .int v_o_sideMany, .int v_o_sideOne, .int v_o_sideNone, .int v_o_wrongSides, .int v_o_wrongMany, .int v_o_restMany, .int v_o_restFirst, .ref a_o_gains, .ref a_o_value])), (a_o_text, .inl (cI, 48, .inl f_o_text)), (a_o_readHouse, .inl (cI, 6, .inl f_o_readHouse)), (a_o_readChild, .inl (cI, 18, .inl u4.2.2.2))]) (wr := [(a_o_readHouse, .inl (cI, 6, .inl f_o_readHouse))]) (kr_V (As := []) (rest := []) ⟨hx, hb, hml, hown, hts⟩ hK hN hP hD hl.1 (c_X6_readChild l dC dI cI cZ a_o a_o_text a_o_worth a_o_readHouse a_o_readChild a_o_page a_o_trial a_o_book a_o_kept a_o_isKept a_o_seenHouse a_o_seenChild a_o_seenLived a_o_gains a_o_value v_o_thrown v_o_textSize v_o_place v_o_houses v_o_readHouses v_o_readChildren v_o_acts v_o_seen v_o_seed v_o_rollMost v_o_rollSet v_o_sideMany v_o_sideOne v_o_sideNone v_o_wrongSides v_o_wrongMany v_o_restMany v_o_restFirst f_o_text f_o_readChild u4 hu4 H.size) sg_X6_readChild ⟨rfl, rfl⟩ ⟨Nat.le_of_ble_eq_true rfl, Nat.le_of_ble_eq_true rfl⟩ gX6_readPart_X6_readChild 0 rfl rfl rfl [0, 1, 3] (by decide +kernel) rfl rfl rfl (Nat.le_of_ble_eq_true rfl) dX6_readPart_62 ⟨Nat.zero_le _, Nat.zero_le _⟩) hA hP hD hS [0, 1, 3] [2] 4 rfl rfl rfl rfl rfl (by decide +kernel) (by decide +kernel) rfl (fun H locs hP hD hS => ?_)
          obtain ⟨hg5, hf⟩ := kg_e hf
          cases hf
          exact hend _ _ _ _ dX6_readPart_65 (kbo_e hg5) hP hS
  unfold f_X6_readPart at hf
  refine lv_aload_n hx hb dX6_readPart_0 rfl (lv_at hl 0 rfl) ?_
  refine va_get (D := (dC, dI)) (ci := 6) (v := .ref a_o_text) (C := RX6) (T := TX6) (N := 32) hx hb hts in_X6_readPart_X6 hown hK hP 0 rfl rfl 1 (by decide) hk7 (fun _ h9 => h9) rfl dX6_readPart_1 ?_
  refine lv_aload_n hx hb dX6_readPart_4 rfl (lv_at hl 0 rfl) ?_
  refine va_get (D := (dC, dI)) (ci := 6) (v := .int v_o_place) (C := RX6) (T := TX6) (N := 32) hx hb hts in_X6_readPart_X6 hown hK hP 0 rfl rfl 3 (by decide) hk69 (fun _ h9 => h9) rfl dX6_readPart_5 ?_
  obtain ⟨hg6, hf⟩ := kg_e hf
  refine ka_ild (k := (v_o_place).toNatClampNeg) hx hb hK hP 1 0 rfl rfl (kin_e hg6) rfl dX6_readPart_8 ?_
  refine lv_istore_n (lv' := [(1, .int (f_o_text (v_o_place).toNatClampNeg)), (0, .ref a_o)]) hx hb dX6_readPart_9 rfl hl (by decide) rfl (fun ls hl => ?_)
  refine lv_aload_n hx hb dX6_readPart_10 rfl (lv_at hl 1 rfl) ?_
  refine lv_dup hx hb dX6_readPart_11 rfl ?_
  refine va_get (D := (dC, dI)) (ci := 6) (v := .int v_o_place) (C := RX6) (T := TX6) (N := 32) hx hb hts in_X6_readPart_X6 hown hK hP 0 rfl rfl 3 (by decide) hk69 (fun _ h9 => h9) rfl dX6_readPart_12 ?_
  refine lv_iconst (v := (1 : Int32)) hx hb dX6_readPart_15 (by decide) ?_
  refine lv_iadd hx hb dX6_readPart_16 ?_
  refine va_put (D := (dC, dI)) (ci := 6) (v := .int (v_o_place + (1 : Int32))) (ty := .int) (C := RX6) (T := TX6) (N := 32) hx hb hts in_X6_readPart_X6 tyX6 tyX6_ok nmX6 hown hK hP hD hS 0 rfl rfl 3 (by decide) hk69 (fun _ h9 => h9) rfl (by decide +kernel) rfl rfl (Nat.le_of_ble_eq_true rfl) dX6_readPart_17 (fun H locs hP hD hS => ?_)
  have hP : va_P (dC, dI) vwCl [(a_o, .inr (6, [.int v_o_thrown, .ref a_o_text, .int v_o_textSize, .int (v_o_place + (1 : Int32)), .int v_o_houses, .ref a_o_worth, .int v_o_readHouses, .ref a_o_readHouse, .int v_o_readChildren, .ref a_o_readChild, .ref a_o_page, .ref a_o_trial, .ref a_o_book, .int v_o_acts, .ref a_o_kept, .ref a_o_isKept, .int v_o_seen, .ref a_o_seenHouse, .ref a_o_seenChild, .ref a_o_seenLived, .long v_o_seed, .int v_o_rollMost, .int v_o_rollSet, .int v_o_sideMany, .int v_o_sideOne, .int v_o_sideNone, .int v_o_wrongSides, .int v_o_wrongMany, .int v_o_restMany, .int v_o_restFirst, .ref a_o_gains, .ref a_o_value])), (a_o_text, .inl (cI, 48, .inl f_o_text)), (a_o_readHouse, .inl (cI, 6, .inl f_o_readHouse)), (a_o_readChild, .inl (cI, 18, .inl f_o_readChild))] H := hP
  have hD : va_D A [(a_o, .inr (6, [.int v_o_thrown, .ref a_o_text, .int v_o_textSize, .int (v_o_place + (1 : Int32)), .int v_o_houses, .ref a_o_worth, .int v_o_readHouses, .ref a_o_readHouse, .int v_o_readChildren, .ref a_o_readChild, .ref a_o_page, .ref a_o_trial, .ref a_o_book, .int v_o_acts, .ref a_o_kept, .ref a_o_isKept, .int v_o_seen, .ref a_o_seenHouse, .ref a_o_seenChild, .ref a_o_seenLived, .long v_o_seed, .int v_o_rollMost, .int v_o_rollSet, .int v_o_sideMany, .int v_o_sideOne, .int v_o_sideNone, .int v_o_wrongSides, .int v_o_wrongMany, .int v_o_restMany, .int v_o_restFirst, .ref a_o_gains, .ref a_o_value])), (a_o_text, .inl (cI, 48, .inl f_o_text)), (a_o_readHouse, .inl (cI, 6, .inl f_o_readHouse)), (a_o_readChild, .inl (cI, 18, .inl f_o_readChild))] := hD
  refine lv_iload_n hx hb dX6_readPart_20 rfl (lv_at hl 0 rfl) ?_
  refine lv_bipush (v := (72 : Int32)) hx hb dX6_readPart_21 (by decide) ?_
  refine lv_icmp_ne (tgt := 39) hx hb dX6_readPart_23 (by decide) (fun c7 => ?_) (fun c7 => ?_)
  · replace hf := kf c7 hf
    exact J_39 (v_o_place + (1 : Int32)) v_o_readHouses v_o_readChildren f_o_readHouse f_o_readChild (f_o_text (v_o_place).toNatClampNeg) H locs ls hP hD hS (lv_sub hl [1, 0] rfl) hf
  · replace hf := kt c7 hf
    refine lv_aload_n hx hb dX6_readPart_26 rfl (lv_at hl 1 rfl) ?_
    refine va_get (D := (dC, dI)) (ci := 6) (v := .int v_o_readHouses) (C := RX6) (T := TX6) (N := 32) hx hb hts in_X6_readPart_X6 hown hK hP 0 rfl rfl 6 (by decide) hk76 (fun _ h9 => h9) rfl dX6_readPart_27 ?_
    refine lv_iconst (v := (3 : Int32)) hx hb dX6_readPart_30 (by decide) ?_
    refine lv_icmp_ge (tgt := 39) hx hb dX6_readPart_31 (by decide) (fun c8 => ?_) (fun c8 => ?_)
    · replace hf := kt c8 hf
      exact J_39 (v_o_place + (1 : Int32)) v_o_readHouses v_o_readChildren f_o_readHouse f_o_readChild (f_o_text (v_o_place).toNatClampNeg) H locs ls hP hD hS (lv_sub hl [1, 0] rfl) hf
    · replace hf := kf c8 hf
      refine lv_aload_n hx hb dX6_readPart_34 rfl (lv_at hl 1 rfl) ?_
      obtain ⟨u9, hu9, hf⟩ := kb1_e hf
      refine kc_i (wn := [(a_o, .inr (6, [.int v_o_thrown, .ref a_o_text, .int v_o_textSize, .int u9.2.1, .int v_o_houses, .ref a_o_worth, .int u9.2.2.1, .ref a_o_readHouse, .int v_o_readChildren, .ref a_o_readChild, .ref a_o_page, .ref a_o_trial, .ref a_o_book, .int v_o_acts, .ref a_o_kept, .ref a_o_isKept, .int v_o_seen, .ref a_o_seenHouse, .ref a_o_seenChild, .ref a_o_seenLived, .long v_o_seed, .int v_o_rollMost, .int v_o_rollSet, .int v_o_sideMany, .int v_o_sideOne, .int v_o_sideNone, .int v_o_wrongSides, .int v_o_wrongMany, .int v_o_restMany, .int v_o_restFirst, .ref a_o_gains, .ref a_o_value])), (a_o_text, .inl (cI, 48, .inl f_o_text)), (a_o_readHouse, .inl (cI, 6, .inl u9.2.2.2)), (a_o_readChild, .inl (cI, 18, .inl f_o_readChild))]) (wr := [(a_o_readChild, .inl (cI, 18, .inl f_o_readChild))]) (kr_V (As := []) (rest := []) ⟨hx, hb, hml, hown, hts⟩ hK hN hP hD hl.1 (c_X6_readHouse l dC dI cI cZ a_o a_o_text a_o_worth a_o_readHouse a_o_readChild a_o_page a_o_trial a_o_book a_o_kept a_o_isKept a_o_seenHouse a_o_seenChild a_o_seenLived a_o_gains a_o_value v_o_thrown v_o_textSize (v_o_place + (1 : Int32)) v_o_houses v_o_readHouses v_o_readChildren v_o_acts v_o_seen v_o_seed v_o_rollMost v_o_rollSet v_o_sideMany v_o_sideOne v_o_sideNone v_o_wrongSides v_o_wrongMany v_o_restMany v_o_restFirst f_o_text f_o_readHouse u9 hu9 H.size) sg_X6_readHouse ⟨rfl, rfl⟩ ⟨Nat.le_of_ble_eq_true rfl, Nat.le_of_ble_eq_true rfl⟩ gX6_readPart_X6_readHouse 0 rfl rfl rfl [0, 1, 2] (by decide +kernel) rfl rfl rfl (Nat.le_of_ble_eq_true rfl) dX6_readPart_35 ⟨Nat.zero_le _, Nat.zero_le _⟩) hA hP hD hS [0, 1, 2] [3] 4 rfl rfl rfl rfl rfl (by decide +kernel) (by decide +kernel) rfl (fun H locs hP hD hS => ?_)
      obtain ⟨hg10, hf⟩ := kg_e hf
      cases hf
      exact hend _ _ _ _ dX6_readPart_38 (kbo_e hg10) hP hS
theorem sg_X6_readTown : kSig yX6_readTown wsX6_readTown cX6_readTown 1 (some .int) RX6 0 := ⟨⟨_, rfl⟩, rfl, by decide, by decide +kernel, by decide +kernel, by decide +kernel⟩
abbrev rm_X6_readTown : Room := { frames := 4, cells := 0, slots := 0, locals := 91 }
set_option maxRecDepth 20000 in
theorem in_X6_readTown_X6 : ∀ w ∈ u_ws RX6 TX6 32, w ∈ wsX6_readTown := by decide +kernel
set_option maxHeartbeats 4000000 in
set_option maxRecDepth 100000 in
theorem c_X6_readTown (l : Launch) (dC : Nat → ClassId) (dI : Nat → Nat → Nat) (cI cZ : ClassId) (a_o a_o_text a_o_worth a_o_readHouse a_o_readChild a_o_page a_o_trial a_o_book a_o_kept a_o_isKept a_o_seenHouse a_o_seenChild a_o_seenLived a_o_gains a_o_value : Nat) (v_o_thrown : Int32) (v_o_textSize : Int32) (v_o_place : Int32) (v_o_houses : Int32) (v_o_readHouses : Int32) (v_o_readChildren : Int32) (v_o_acts : Int32) (v_o_seen : Int32) (v_o_seed : Int64) (v_o_rollMost : Int32) (v_o_rollSet : Int32) (v_o_sideMany : Int32) (v_o_sideOne : Int32) (v_o_sideNone : Int32) (v_o_wrongSides : Int32) (v_o_wrongMany : Int32) (v_o_restMany : Int32) (v_o_restFirst : Int32) (f_o_text : Nat → Int32) (f_o_readHouse : Nat → Int32) (f_o_readChild : Nat → Int32)  (u : Int32 × Int32 × Int32 × Int32 × (Nat → Int32) × (Nat → Int32)) (hf : f_X6_readTown v_o_textSize f_o_text v_o_place v_o_readHouses v_o_readChildren f_o_readHouse f_o_readChild = some u) : kMi l yX6_readTown wsX6_readTown rm_X6_readTown (dC, dI) (kTy cI cZ) [.ref a_o] [(a_o, .inr (6, [.int v_o_thrown, .ref a_o_text, .int v_o_textSize, .int v_o_place, .int v_o_houses, .ref a_o_worth, .int v_o_readHouses, .ref a_o_readHouse, .int v_o_readChildren, .ref a_o_readChild, .ref a_o_page, .ref a_o_trial, .ref a_o_book, .int v_o_acts, .ref a_o_kept, .ref a_o_isKept, .int v_o_seen, .ref a_o_seenHouse, .ref a_o_seenChild, .ref a_o_seenLived, .long v_o_seed, .int v_o_rollMost, .int v_o_rollSet, .int v_o_sideMany, .int v_o_sideOne, .int v_o_sideNone, .int v_o_wrongSides, .int v_o_wrongMany, .int v_o_restMany, .int v_o_restFirst, .ref a_o_gains, .ref a_o_value])), (a_o_text, .inl (cI, 48, .inl f_o_text)), (a_o_readHouse, .inl (cI, 6, .inl f_o_readHouse)), (a_o_readChild, .inl (cI, 18, .inl f_o_readChild))] [(a_o, .inr (6, [.int v_o_thrown, .ref a_o_text, .int v_o_textSize, .int u.2.1, .int v_o_houses, .ref a_o_worth, .int u.2.2.1, .ref a_o_readHouse, .int u.2.2.2.1, .ref a_o_readChild, .ref a_o_page, .ref a_o_trial, .ref a_o_book, .int v_o_acts, .ref a_o_kept, .ref a_o_isKept, .int v_o_seen, .ref a_o_seenHouse, .ref a_o_seenChild, .ref a_o_seenLived, .long v_o_seed, .int v_o_rollMost, .int v_o_rollSet, .int v_o_sideMany, .int v_o_sideOne, .int v_o_sideNone, .int v_o_wrongSides, .int v_o_wrongMany, .int v_o_restMany, .int v_o_restFirst, .ref a_o_gains, .ref a_o_value])), (a_o_text, .inl (cI, 48, .inl f_o_text)), (a_o_readHouse, .inl (cI, 6, .inl u.2.2.2.2.1)), (a_o_readChild, .inl (cI, 18, .inl u.2.2.2.2.2))] u.1 := by
  refine kMi_of sg_X6_readTown ⟨rfl, rfl⟩ (Nat.le_of_ble_eq_true rfl) ?_
  intro p e s m args below meth c A H0 Q hx hb hml hown hts hK hN hA hend H locs ls hP hD hS hl
  have hl : lv_has ls 1 [(0, .ref a_o)] := hl
  have hk7 := hts (.fieldLink RX6 7 "YoungestHouseModel" "text" "[I") (by decide +kernel)
  have hk66 := hts (.fieldLink RX6 66 "YoungestHouseModel" "textSize" "I") (by decide +kernel)
  have hk69 := hts (.fieldLink RX6 69 "YoungestHouseModel" "place" "I") (by decide +kernel)
  have hk76 := hts (.fieldLink RX6 76 "YoungestHouseModel" "readHouses" "I") (by decide +kernel)
  have hk79 := hts (.fieldLink RX6 79 "YoungestHouseModel" "readChildren" "I") (by decide +kernel)
  have J_40 : ∀ (n_40 : Nat), ∀ (v_o_place : Int32) (v_o_readHouses : Int32) (v_o_readChildren : Int32) (f_o_readHouse : Nat → Int32) (f_o_readChild : Nat → Int32) (H : Heap) (locs : List Loc) (ls : Array Slot), va_P (dC, dI) vwCl [(a_o, .inr (6, [.int v_o_thrown, .ref a_o_text, .int v_o_textSize, .int v_o_place, .int v_o_houses, .ref a_o_worth, .int v_o_readHouses, .ref a_o_readHouse, .int v_o_readChildren, .ref a_o_readChild, .ref a_o_page, .ref a_o_trial, .ref a_o_book, .int v_o_acts, .ref a_o_kept, .ref a_o_isKept, .int v_o_seen, .ref a_o_seenHouse, .ref a_o_seenChild, .ref a_o_seenLived, .long v_o_seed, .int v_o_rollMost, .int v_o_rollSet, .int v_o_sideMany, .int v_o_sideOne, .int v_o_sideNone, .int v_o_wrongSides, .int v_o_wrongMany, .int v_o_restMany, .int v_o_restFirst, .ref a_o_gains, .ref a_o_value])), (a_o_text, .inl (cI, 48, .inl f_o_text)), (a_o_readHouse, .inl (cI, 6, .inl f_o_readHouse)), (a_o_readChild, .inl (cI, 18, .inl f_o_readChild))] H → va_D A [(a_o, .inr (6, [.int v_o_thrown, .ref a_o_text, .int v_o_textSize, .int v_o_place, .int v_o_houses, .ref a_o_worth, .int v_o_readHouses, .ref a_o_readHouse, .int v_o_readChildren, .ref a_o_readChild, .ref a_o_page, .ref a_o_trial, .ref a_o_book, .int v_o_acts, .ref a_o_kept, .ref a_o_isKept, .int v_o_seen, .ref a_o_seenHouse, .ref a_o_seenChild, .ref a_o_seenLived, .long v_o_seed, .int v_o_rollMost, .int v_o_rollSet, .int v_o_sideMany, .int v_o_sideOne, .int v_o_sideNone, .int v_o_wrongSides, .int v_o_wrongMany, .int v_o_restMany, .int v_o_restFirst, .ref a_o_gains, .ref a_o_value])), (a_o_text, .inl (cI, 48, .inl f_o_text)), (a_o_readHouse, .inl (cI, 6, .inl f_o_readHouse)), (a_o_readChild, .inl (cI, 18, .inl f_o_readChild))] → va_S A H0 H locs → lv_has ls 1 [(0, .ref a_o)] → f_X6_readTown_40 v_o_textSize f_o_text n_40 v_o_place v_o_readHouses v_o_readChildren f_o_readHouse f_o_readChild = some u → W p l e rm_X6_readTown s m args below meth c H locs 0 0 Q (F0 m 40 ls []) := by
    intro n_40
    induction n_40 with
    | zero => intro v_o_place v_o_readHouses v_o_readChildren f_o_readHouse f_o_readChild H locs ls hP hD hS hl hf; exact nomatch hf
    | succ n_40 ih_40 =>
      intro v_o_place v_o_readHouses v_o_readChildren f_o_readHouse f_o_readChild H locs ls hP hD hS hl hf
      have hf : f_X6_readTown_40_b v_o_textSize f_o_text (f_X6_readTown_40 v_o_textSize f_o_text n_40) v_o_place v_o_readHouses v_o_readChildren f_o_readHouse f_o_readChild = some u := hf
      unfold f_X6_readTown_40_b at hf
      refine lv_aload_n hx hb dX6_readTown_40 rfl (lv_at hl 0 rfl) ?_
      refine va_get (D := (dC, dI)) (ci := 6) (v := .int v_o_place) (C := RX6) (T := TX6) (N := 32) hx hb hts in_X6_readTown_X6 hown hK hP 0 rfl rfl 3 (by decide) hk69 (fun _ h9 => h9) rfl dX6_readTown_41 ?_
      refine lv_aload_n hx hb dX6_readTown_44 rfl (lv_at hl 0 rfl) ?_
      refine va_get (D := (dC, dI)) (ci := 6) (v := .int v_o_textSize) (C := RX6) (T := TX6) (N := 32) hx hb hts in_X6_readTown_X6 hown hK hP 0 rfl rfl 2 (by decide) hk66 (fun _ h9 => h9) rfl dX6_readTown_45 ?_
      refine lv_icmp_ge (tgt := 63) hx hb dX6_readTown_48 (by decide) (fun c1 => ?_) (fun c1 => ?_)
      · replace hf := kt c1 hf
        refine lv_bipush (v := (-9 : Int32)) hx hb dX6_readTown_63 (by decide) ?_
        cases hf
        exact hend _ _ _ _ dX6_readTown_65 rfl hP hS
      · replace hf := kf c1 hf
        refine lv_aload_n hx hb dX6_readTown_51 rfl (lv_at hl 0 rfl) ?_
        obtain ⟨u2, hu2, hf⟩ := kb1_e hf
        refine kc_i (wn := [(a_o, .inr (6, [.int v_o_thrown, .ref a_o_text, .int v_o_textSize, .int u2.2.1, .int v_o_houses, .ref a_o_worth, .int u2.2.2.1, .ref a_o_readHouse, .int u2.2.2.2.1, .ref a_o_readChild, .ref a_o_page, .ref a_o_trial, .ref a_o_book, .int v_o_acts, .ref a_o_kept, .ref a_o_isKept, .int v_o_seen, .ref a_o_seenHouse, .ref a_o_seenChild, .ref a_o_seenLived, .long v_o_seed, .int v_o_rollMost, .int v_o_rollSet, .int v_o_sideMany, .int v_o_sideOne, .int v_o_sideNone, .int v_o_wrongSides, .int v_o_wrongMany, .int v_o_restMany, .int v_o_restFirst, .ref a_o_gains, .ref a_o_value])), (a_o_text, .inl (cI, 48, .inl f_o_text)), (a_o_readHouse, .inl (cI, 6, .inl u2.2.2.2.2.1)), (a_o_readChild, .inl (cI, 18, .inl u2.2.2.2.2.2))]) (wr := []) (kr_V (As := []) (rest := []) ⟨hx, hb, hml, hown, hts⟩ hK hN hP hD hl.1 (c_X6_readPart l dC dI cI cZ a_o a_o_text a_o_worth a_o_readHouse a_o_readChild a_o_page a_o_trial a_o_book a_o_kept a_o_isKept a_o_seenHouse a_o_seenChild a_o_seenLived a_o_gains a_o_value v_o_thrown v_o_textSize v_o_place v_o_houses v_o_readHouses v_o_readChildren v_o_acts v_o_seen v_o_seed v_o_rollMost v_o_rollSet v_o_sideMany v_o_sideOne v_o_sideNone v_o_wrongSides v_o_wrongMany v_o_restMany v_o_restFirst f_o_text f_o_readHouse f_o_readChild u2 hu2 H.size) sg_X6_readPart ⟨rfl, rfl⟩ ⟨Nat.le_of_ble_eq_true rfl, Nat.le_of_ble_eq_true rfl⟩ gX6_readTown_X6_readPart 0 rfl rfl rfl [0, 1, 2, 3] (by decide +kernel) rfl rfl rfl (Nat.le_of_ble_eq_true rfl) dX6_readTown_52 ⟨Nat.zero_le _, Nat.zero_le _⟩) hA hP hD hS [0, 1, 2, 3] [] 4 rfl rfl rfl rfl rfl (by decide +kernel) (by decide +kernel) rfl (fun H locs hP hD hS => ?_)
        refine lv_if_ne (tgt := 40) hx hb dX6_readTown_55 (by decide) (fun c3 => ?_) (fun c3 => ?_)
        · replace hf := kf c3 hf
          exact ih_40 u2.2.1 u2.2.2.1 u2.2.2.2.1 u2.2.2.2.2.1 u2.2.2.2.2.2 H locs ls hP hD hS (lv_sub hl [0] rfl) hf
        · replace hf := kt c3 hf
          refine lv_aload_n hx hb dX6_readTown_58 rfl (lv_at hl 0 rfl) ?_
          refine va_get (D := (dC, dI)) (ci := 6) (v := .int u2.2.1) (C := RX6) (T := TX6) (N := 32) hx hb hts in_X6_readTown_X6 hown hK hP 0 rfl rfl 3 (by decide) hk69 (fun _ h9 => h9) rfl dX6_readTown_59 ?_
          cases hf
          exact hend _ _ _ _ dX6_readTown_62 rfl hP hS
  unfold f_X6_readTown at hf
  refine lv_aload_n hx hb dX6_readTown_0 rfl (lv_at hl 0 rfl) ?_
  refine lv_iconst (v := (0 : Int32)) hx hb dX6_readTown_1 (by decide) ?_
  refine va_put (D := (dC, dI)) (ci := 6) (v := .int (0 : Int32)) (ty := .int) (C := RX6) (T := TX6) (N := 32) hx hb hts in_X6_readTown_X6 tyX6 tyX6_ok nmX6 hown hK hP hD hS 0 rfl rfl 3 (by decide) hk69 (fun _ h9 => h9) rfl (by decide +kernel) rfl rfl (Nat.le_of_ble_eq_true rfl) dX6_readTown_2 (fun H locs hP hD hS => ?_)
  have hP : va_P (dC, dI) vwCl [(a_o, .inr (6, [.int v_o_thrown, .ref a_o_text, .int v_o_textSize, .int (0 : Int32), .int v_o_houses, .ref a_o_worth, .int v_o_readHouses, .ref a_o_readHouse, .int v_o_readChildren, .ref a_o_readChild, .ref a_o_page, .ref a_o_trial, .ref a_o_book, .int v_o_acts, .ref a_o_kept, .ref a_o_isKept, .int v_o_seen, .ref a_o_seenHouse, .ref a_o_seenChild, .ref a_o_seenLived, .long v_o_seed, .int v_o_rollMost, .int v_o_rollSet, .int v_o_sideMany, .int v_o_sideOne, .int v_o_sideNone, .int v_o_wrongSides, .int v_o_wrongMany, .int v_o_restMany, .int v_o_restFirst, .ref a_o_gains, .ref a_o_value])), (a_o_text, .inl (cI, 48, .inl f_o_text)), (a_o_readHouse, .inl (cI, 6, .inl f_o_readHouse)), (a_o_readChild, .inl (cI, 18, .inl f_o_readChild))] H := hP
  have hD : va_D A [(a_o, .inr (6, [.int v_o_thrown, .ref a_o_text, .int v_o_textSize, .int (0 : Int32), .int v_o_houses, .ref a_o_worth, .int v_o_readHouses, .ref a_o_readHouse, .int v_o_readChildren, .ref a_o_readChild, .ref a_o_page, .ref a_o_trial, .ref a_o_book, .int v_o_acts, .ref a_o_kept, .ref a_o_isKept, .int v_o_seen, .ref a_o_seenHouse, .ref a_o_seenChild, .ref a_o_seenLived, .long v_o_seed, .int v_o_rollMost, .int v_o_rollSet, .int v_o_sideMany, .int v_o_sideOne, .int v_o_sideNone, .int v_o_wrongSides, .int v_o_wrongMany, .int v_o_restMany, .int v_o_restFirst, .ref a_o_gains, .ref a_o_value])), (a_o_text, .inl (cI, 48, .inl f_o_text)), (a_o_readHouse, .inl (cI, 6, .inl f_o_readHouse)), (a_o_readChild, .inl (cI, 18, .inl f_o_readChild))] := hD
  refine lv_aload_n hx hb dX6_readTown_5 rfl (lv_at hl 0 rfl) ?_
  refine lv_iconst (v := (0 : Int32)) hx hb dX6_readTown_6 (by decide) ?_
  refine va_put (D := (dC, dI)) (ci := 6) (v := .int (0 : Int32)) (ty := .int) (C := RX6) (T := TX6) (N := 32) hx hb hts in_X6_readTown_X6 tyX6 tyX6_ok nmX6 hown hK hP hD hS 0 rfl rfl 6 (by decide) hk76 (fun _ h9 => h9) rfl (by decide +kernel) rfl rfl (Nat.le_of_ble_eq_true rfl) dX6_readTown_7 (fun H locs hP hD hS => ?_)
  have hP : va_P (dC, dI) vwCl [(a_o, .inr (6, [.int v_o_thrown, .ref a_o_text, .int v_o_textSize, .int (0 : Int32), .int v_o_houses, .ref a_o_worth, .int (0 : Int32), .ref a_o_readHouse, .int v_o_readChildren, .ref a_o_readChild, .ref a_o_page, .ref a_o_trial, .ref a_o_book, .int v_o_acts, .ref a_o_kept, .ref a_o_isKept, .int v_o_seen, .ref a_o_seenHouse, .ref a_o_seenChild, .ref a_o_seenLived, .long v_o_seed, .int v_o_rollMost, .int v_o_rollSet, .int v_o_sideMany, .int v_o_sideOne, .int v_o_sideNone, .int v_o_wrongSides, .int v_o_wrongMany, .int v_o_restMany, .int v_o_restFirst, .ref a_o_gains, .ref a_o_value])), (a_o_text, .inl (cI, 48, .inl f_o_text)), (a_o_readHouse, .inl (cI, 6, .inl f_o_readHouse)), (a_o_readChild, .inl (cI, 18, .inl f_o_readChild))] H := hP
  have hD : va_D A [(a_o, .inr (6, [.int v_o_thrown, .ref a_o_text, .int v_o_textSize, .int (0 : Int32), .int v_o_houses, .ref a_o_worth, .int (0 : Int32), .ref a_o_readHouse, .int v_o_readChildren, .ref a_o_readChild, .ref a_o_page, .ref a_o_trial, .ref a_o_book, .int v_o_acts, .ref a_o_kept, .ref a_o_isKept, .int v_o_seen, .ref a_o_seenHouse, .ref a_o_seenChild, .ref a_o_seenLived, .long v_o_seed, .int v_o_rollMost, .int v_o_rollSet, .int v_o_sideMany, .int v_o_sideOne, .int v_o_sideNone, .int v_o_wrongSides, .int v_o_wrongMany, .int v_o_restMany, .int v_o_restFirst, .ref a_o_gains, .ref a_o_value])), (a_o_text, .inl (cI, 48, .inl f_o_text)), (a_o_readHouse, .inl (cI, 6, .inl f_o_readHouse)), (a_o_readChild, .inl (cI, 18, .inl f_o_readChild))] := hD
  refine lv_aload_n hx hb dX6_readTown_10 rfl (lv_at hl 0 rfl) ?_
  refine lv_iconst (v := (0 : Int32)) hx hb dX6_readTown_11 (by decide) ?_
  refine va_put (D := (dC, dI)) (ci := 6) (v := .int (0 : Int32)) (ty := .int) (C := RX6) (T := TX6) (N := 32) hx hb hts in_X6_readTown_X6 tyX6 tyX6_ok nmX6 hown hK hP hD hS 0 rfl rfl 8 (by decide) hk79 (fun _ h9 => h9) rfl (by decide +kernel) rfl rfl (Nat.le_of_ble_eq_true rfl) dX6_readTown_12 (fun H locs hP hD hS => ?_)
  have hP : va_P (dC, dI) vwCl [(a_o, .inr (6, [.int v_o_thrown, .ref a_o_text, .int v_o_textSize, .int (0 : Int32), .int v_o_houses, .ref a_o_worth, .int (0 : Int32), .ref a_o_readHouse, .int (0 : Int32), .ref a_o_readChild, .ref a_o_page, .ref a_o_trial, .ref a_o_book, .int v_o_acts, .ref a_o_kept, .ref a_o_isKept, .int v_o_seen, .ref a_o_seenHouse, .ref a_o_seenChild, .ref a_o_seenLived, .long v_o_seed, .int v_o_rollMost, .int v_o_rollSet, .int v_o_sideMany, .int v_o_sideOne, .int v_o_sideNone, .int v_o_wrongSides, .int v_o_wrongMany, .int v_o_restMany, .int v_o_restFirst, .ref a_o_gains, .ref a_o_value])), (a_o_text, .inl (cI, 48, .inl f_o_text)), (a_o_readHouse, .inl (cI, 6, .inl f_o_readHouse)), (a_o_readChild, .inl (cI, 18, .inl f_o_readChild))] H := hP
  have hD : va_D A [(a_o, .inr (6, [.int v_o_thrown, .ref a_o_text, .int v_o_textSize, .int (0 : Int32), .int v_o_houses, .ref a_o_worth, .int (0 : Int32), .ref a_o_readHouse, .int (0 : Int32), .ref a_o_readChild, .ref a_o_page, .ref a_o_trial, .ref a_o_book, .int v_o_acts, .ref a_o_kept, .ref a_o_isKept, .int v_o_seen, .ref a_o_seenHouse, .ref a_o_seenChild, .ref a_o_seenLived, .long v_o_seed, .int v_o_rollMost, .int v_o_rollSet, .int v_o_sideMany, .int v_o_sideOne, .int v_o_sideNone, .int v_o_wrongSides, .int v_o_wrongMany, .int v_o_restMany, .int v_o_restFirst, .ref a_o_gains, .ref a_o_value])), (a_o_text, .inl (cI, 48, .inl f_o_text)), (a_o_readHouse, .inl (cI, 6, .inl f_o_readHouse)), (a_o_readChild, .inl (cI, 18, .inl f_o_readChild))] := hD
  refine lv_aload_n hx hb dX6_readTown_15 rfl (lv_at hl 0 rfl) ?_
  refine va_get (D := (dC, dI)) (ci := 6) (v := .int v_o_textSize) (C := RX6) (T := TX6) (N := 32) hx hb hts in_X6_readTown_X6 hown hK hP 0 rfl rfl 2 (by decide) hk66 (fun _ h9 => h9) rfl dX6_readTown_16 ?_
  refine lv_if_eq (tgt := 33) hx hb dX6_readTown_19 (by decide) (fun c4 => ?_) (fun c4 => ?_)
  · replace hf := kt c4 hf
    refine lv_iconst (v := (0 : Int32)) hx hb dX6_readTown_33 (by decide) ?_
    cases hf
    exact hend _ _ _ _ dX6_readTown_34 rfl hP hS
  · replace hf := kf c4 hf
    refine lv_aload_n hx hb dX6_readTown_22 rfl (lv_at hl 0 rfl) ?_
    refine va_get (D := (dC, dI)) (ci := 6) (v := .ref a_o_text) (C := RX6) (T := TX6) (N := 32) hx hb hts in_X6_readTown_X6 hown hK hP 0 rfl rfl 1 (by decide) hk7 (fun _ h9 => h9) rfl dX6_readTown_23 ?_
    refine lv_iconst (v := (0 : Int32)) hx hb dX6_readTown_26 (by decide) ?_
    refine ka_ild (k := 0) hx hb hK hP 1 0 rfl rfl (kin_e (by decide)) rfl dX6_readTown_27 ?_
    refine lv_bipush (v := (89 : Int32)) hx hb dX6_readTown_28 (by decide) ?_
    refine lv_icmp_eq (tgt := 35) hx hb dX6_readTown_30 (by decide) (fun c5 => ?_) (fun c5 => ?_)
    · replace hf := kt c5 hf
      refine lv_aload_n hx hb dX6_readTown_35 rfl (lv_at hl 0 rfl) ?_
      refine lv_iconst (v := (1 : Int32)) hx hb dX6_readTown_36 (by decide) ?_
      refine va_put (D := (dC, dI)) (ci := 6) (v := .int (1 : Int32)) (ty := .int) (C := RX6) (T := TX6) (N := 32) hx hb hts in_X6_readTown_X6 tyX6 tyX6_ok nmX6 hown hK hP hD hS 0 rfl rfl 3 (by decide) hk69 (fun _ h9 => h9) rfl (by decide +kernel) rfl rfl (Nat.le_of_ble_eq_true rfl) dX6_readTown_37 (fun H locs hP hD hS => ?_)
      have hP : va_P (dC, dI) vwCl [(a_o, .inr (6, [.int v_o_thrown, .ref a_o_text, .int v_o_textSize, .int (1 : Int32), .int v_o_houses, .ref a_o_worth, .int (0 : Int32), .ref a_o_readHouse, .int (0 : Int32), .ref a_o_readChild, .ref a_o_page, .ref a_o_trial, .ref a_o_book, .int v_o_acts, .ref a_o_kept, .ref a_o_isKept, .int v_o_seen, .ref a_o_seenHouse, .ref a_o_seenChild, .ref a_o_seenLived, .long v_o_seed, .int v_o_rollMost, .int v_o_rollSet, .int v_o_sideMany, .int v_o_sideOne, .int v_o_sideNone, .int v_o_wrongSides, .int v_o_wrongMany, .int v_o_restMany, .int v_o_restFirst, .ref a_o_gains, .ref a_o_value])), (a_o_text, .inl (cI, 48, .inl f_o_text)), (a_o_readHouse, .inl (cI, 6, .inl f_o_readHouse)), (a_o_readChild, .inl (cI, 18, .inl f_o_readChild))] H := hP
      have hD : va_D A [(a_o, .inr (6, [.int v_o_thrown, .ref a_o_text, .int v_o_textSize, .int (1 : Int32), .int v_o_houses, .ref a_o_worth, .int (0 : Int32), .ref a_o_readHouse, .int (0 : Int32), .ref a_o_readChild, .ref a_o_page, .ref a_o_trial, .ref a_o_book, .int v_o_acts, .ref a_o_kept, .ref a_o_isKept, .int v_o_seen, .ref a_o_seenHouse, .ref a_o_seenChild, .ref a_o_seenLived, .long v_o_seed, .int v_o_rollMost, .int v_o_rollSet, .int v_o_sideMany, .int v_o_sideOne, .int v_o_sideNone, .int v_o_wrongSides, .int v_o_wrongMany, .int v_o_restMany, .int v_o_restFirst, .ref a_o_gains, .ref a_o_value])), (a_o_text, .inl (cI, 48, .inl f_o_text)), (a_o_readHouse, .inl (cI, 6, .inl f_o_readHouse)), (a_o_readChild, .inl (cI, 18, .inl f_o_readChild))] := hD
      exact J_40 1000 (1 : Int32) (0 : Int32) (0 : Int32) f_o_readHouse f_o_readChild H locs ls hP hD hS (lv_sub hl [0] rfl) hf
    · replace hf := kf c5 hf
      refine lv_iconst (v := (0 : Int32)) hx hb dX6_readTown_33 (by decide) ?_
      cases hf
      exact hend _ _ _ _ dX6_readTown_34 rfl hP hS
theorem sg_X6_fault : kSig yX6_fault wsX6_fault cX6_fault 1 (some .int) RX6 0 := ⟨⟨_, rfl⟩, rfl, by decide, by decide +kernel, by decide +kernel, by decide +kernel⟩
abbrev rm_X6_fault : Room := { frames := 5, cells := 0, slots := 0, locals := 111 }
set_option maxRecDepth 20000 in
theorem in_X6_fault_X6 : ∀ w ∈ u_ws RX6 TX6 32, w ∈ wsX6_fault := by decide +kernel
set_option maxHeartbeats 4000000 in
set_option maxRecDepth 100000 in
theorem c_X6_fault (l : Launch) (dC : Nat → ClassId) (dI : Nat → Nat → Nat) (cI cZ : ClassId) (a_o a_o_text a_o_worth a_o_readHouse a_o_readChild a_o_page a_o_trial a_o_book a_o_kept a_o_isKept a_o_seenHouse a_o_seenChild a_o_seenLived a_o_gains a_o_value : Nat) (v_o_thrown : Int32) (v_o_textSize : Int32) (v_o_place : Int32) (v_o_houses : Int32) (v_o_readHouses : Int32) (v_o_readChildren : Int32) (v_o_acts : Int32) (v_o_seen : Int32) (v_o_seed : Int64) (v_o_rollMost : Int32) (v_o_rollSet : Int32) (v_o_sideMany : Int32) (v_o_sideOne : Int32) (v_o_sideNone : Int32) (v_o_wrongSides : Int32) (v_o_wrongMany : Int32) (v_o_restMany : Int32) (v_o_restFirst : Int32) (f_o_text : Nat → Int32) (f_o_readHouse : Nat → Int32) (f_o_readChild : Nat → Int32)  (u : Int32 × Int32 × Int32 × Int32 × Int32 × (Nat → Int32) × (Nat → Int32)) (hf : f_X6_fault v_o_textSize f_o_text v_o_thrown v_o_place v_o_readHouses v_o_readChildren f_o_readHouse f_o_readChild = some u) : kMi l yX6_fault wsX6_fault rm_X6_fault (dC, dI) (kTy cI cZ) [.ref a_o] [(a_o, .inr (6, [.int v_o_thrown, .ref a_o_text, .int v_o_textSize, .int v_o_place, .int v_o_houses, .ref a_o_worth, .int v_o_readHouses, .ref a_o_readHouse, .int v_o_readChildren, .ref a_o_readChild, .ref a_o_page, .ref a_o_trial, .ref a_o_book, .int v_o_acts, .ref a_o_kept, .ref a_o_isKept, .int v_o_seen, .ref a_o_seenHouse, .ref a_o_seenChild, .ref a_o_seenLived, .long v_o_seed, .int v_o_rollMost, .int v_o_rollSet, .int v_o_sideMany, .int v_o_sideOne, .int v_o_sideNone, .int v_o_wrongSides, .int v_o_wrongMany, .int v_o_restMany, .int v_o_restFirst, .ref a_o_gains, .ref a_o_value])), (a_o_text, .inl (cI, 48, .inl f_o_text)), (a_o_readHouse, .inl (cI, 6, .inl f_o_readHouse)), (a_o_readChild, .inl (cI, 18, .inl f_o_readChild))] [(a_o, .inr (6, [.int u.2.1, .ref a_o_text, .int v_o_textSize, .int u.2.2.1, .int v_o_houses, .ref a_o_worth, .int u.2.2.2.1, .ref a_o_readHouse, .int u.2.2.2.2.1, .ref a_o_readChild, .ref a_o_page, .ref a_o_trial, .ref a_o_book, .int v_o_acts, .ref a_o_kept, .ref a_o_isKept, .int v_o_seen, .ref a_o_seenHouse, .ref a_o_seenChild, .ref a_o_seenLived, .long v_o_seed, .int v_o_rollMost, .int v_o_rollSet, .int v_o_sideMany, .int v_o_sideOne, .int v_o_sideNone, .int v_o_wrongSides, .int v_o_wrongMany, .int v_o_restMany, .int v_o_restFirst, .ref a_o_gains, .ref a_o_value])), (a_o_text, .inl (cI, 48, .inl f_o_text)), (a_o_readHouse, .inl (cI, 6, .inl u.2.2.2.2.2.1)), (a_o_readChild, .inl (cI, 18, .inl u.2.2.2.2.2.2))] u.1 := by
  refine kMi_of sg_X6_fault ⟨rfl, rfl⟩ (Nat.le_of_ble_eq_true rfl) ?_
  intro p e s m args below meth c A H0 Q hx hb hml hown hts hK hN hA hend H locs ls hP hD hS hl
  have hl : lv_has ls 1 [(0, .ref a_o)] := hl
  have hk53 := hts (.fieldLink RX6 53 "YoungestHouseModel" "thrown" "I") (by decide +kernel)
  unfold f_X6_fault at hf
  refine lv_aload_n hx hb dX6_fault_0 rfl (lv_at hl 0 rfl) ?_
  refine lv_iconst (v := (0 : Int32)) hx hb dX6_fault_1 (by decide) ?_
  refine va_put (D := (dC, dI)) (ci := 6) (v := .int (0 : Int32)) (ty := .int) (C := RX6) (T := TX6) (N := 32) hx hb hts in_X6_fault_X6 tyX6 tyX6_ok nmX6 hown hK hP hD hS 0 rfl rfl 0 (by decide) hk53 (fun _ h9 => h9) rfl (by decide +kernel) rfl rfl (Nat.le_of_ble_eq_true rfl) dX6_fault_2 (fun H locs hP hD hS => ?_)
  have hP : va_P (dC, dI) vwCl [(a_o, .inr (6, [.int (0 : Int32), .ref a_o_text, .int v_o_textSize, .int v_o_place, .int v_o_houses, .ref a_o_worth, .int v_o_readHouses, .ref a_o_readHouse, .int v_o_readChildren, .ref a_o_readChild, .ref a_o_page, .ref a_o_trial, .ref a_o_book, .int v_o_acts, .ref a_o_kept, .ref a_o_isKept, .int v_o_seen, .ref a_o_seenHouse, .ref a_o_seenChild, .ref a_o_seenLived, .long v_o_seed, .int v_o_rollMost, .int v_o_rollSet, .int v_o_sideMany, .int v_o_sideOne, .int v_o_sideNone, .int v_o_wrongSides, .int v_o_wrongMany, .int v_o_restMany, .int v_o_restFirst, .ref a_o_gains, .ref a_o_value])), (a_o_text, .inl (cI, 48, .inl f_o_text)), (a_o_readHouse, .inl (cI, 6, .inl f_o_readHouse)), (a_o_readChild, .inl (cI, 18, .inl f_o_readChild))] H := hP
  have hD : va_D A [(a_o, .inr (6, [.int (0 : Int32), .ref a_o_text, .int v_o_textSize, .int v_o_place, .int v_o_houses, .ref a_o_worth, .int v_o_readHouses, .ref a_o_readHouse, .int v_o_readChildren, .ref a_o_readChild, .ref a_o_page, .ref a_o_trial, .ref a_o_book, .int v_o_acts, .ref a_o_kept, .ref a_o_isKept, .int v_o_seen, .ref a_o_seenHouse, .ref a_o_seenChild, .ref a_o_seenLived, .long v_o_seed, .int v_o_rollMost, .int v_o_rollSet, .int v_o_sideMany, .int v_o_sideOne, .int v_o_sideNone, .int v_o_wrongSides, .int v_o_wrongMany, .int v_o_restMany, .int v_o_restFirst, .ref a_o_gains, .ref a_o_value])), (a_o_text, .inl (cI, 48, .inl f_o_text)), (a_o_readHouse, .inl (cI, 6, .inl f_o_readHouse)), (a_o_readChild, .inl (cI, 18, .inl f_o_readChild))] := hD
  refine lv_aload_n hx hb dX6_fault_5 rfl (lv_at hl 0 rfl) ?_
  obtain ⟨u1, hu1, hf⟩ := kb1_e hf
  refine kc_i (wn := [(a_o, .inr (6, [.int (0 : Int32), .ref a_o_text, .int v_o_textSize, .int u1.2.1, .int v_o_houses, .ref a_o_worth, .int u1.2.2.1, .ref a_o_readHouse, .int u1.2.2.2.1, .ref a_o_readChild, .ref a_o_page, .ref a_o_trial, .ref a_o_book, .int v_o_acts, .ref a_o_kept, .ref a_o_isKept, .int v_o_seen, .ref a_o_seenHouse, .ref a_o_seenChild, .ref a_o_seenLived, .long v_o_seed, .int v_o_rollMost, .int v_o_rollSet, .int v_o_sideMany, .int v_o_sideOne, .int v_o_sideNone, .int v_o_wrongSides, .int v_o_wrongMany, .int v_o_restMany, .int v_o_restFirst, .ref a_o_gains, .ref a_o_value])), (a_o_text, .inl (cI, 48, .inl f_o_text)), (a_o_readHouse, .inl (cI, 6, .inl u1.2.2.2.2.1)), (a_o_readChild, .inl (cI, 18, .inl u1.2.2.2.2.2))]) (wr := []) (kr_V (As := []) (rest := []) ⟨hx, hb, hml, hown, hts⟩ hK hN hP hD hl.1 (c_X6_readTown l dC dI cI cZ a_o a_o_text a_o_worth a_o_readHouse a_o_readChild a_o_page a_o_trial a_o_book a_o_kept a_o_isKept a_o_seenHouse a_o_seenChild a_o_seenLived a_o_gains a_o_value (0 : Int32) v_o_textSize v_o_place v_o_houses v_o_readHouses v_o_readChildren v_o_acts v_o_seen v_o_seed v_o_rollMost v_o_rollSet v_o_sideMany v_o_sideOne v_o_sideNone v_o_wrongSides v_o_wrongMany v_o_restMany v_o_restFirst f_o_text f_o_readHouse f_o_readChild u1 hu1 H.size) sg_X6_readTown ⟨rfl, rfl⟩ ⟨Nat.le_of_ble_eq_true rfl, Nat.le_of_ble_eq_true rfl⟩ gX6_fault_X6_readTown 0 rfl rfl rfl [0, 1, 2, 3] (by decide +kernel) rfl rfl rfl (Nat.le_of_ble_eq_true rfl) dX6_fault_6 ⟨Nat.zero_le _, Nat.zero_le _⟩) hA hP hD hS [0, 1, 2, 3] [] 4 rfl rfl rfl rfl rfl (by decide +kernel) (by decide +kernel) rfl (fun H locs hP hD hS => ?_)
  cases hf
  exact hend _ _ _ _ dX6_fault_9 rfl hP hS
theorem sg_X6_town : kSig yX6_town wsX6_town cX6_town 2 (some .int) RX6 0 := ⟨⟨_, rfl⟩, rfl, by decide, by decide +kernel, by decide +kernel, by decide +kernel⟩
abbrev rm_X6_town : Room := { frames := 5, cells := 0, slots := 0, locals := 111 }
set_option maxRecDepth 20000 in
theorem in_X6_town_X6 : ∀ w ∈ u_ws RX6 TX6 32, w ∈ wsX6_town := by decide +kernel
set_option maxHeartbeats 4000000 in
set_option maxRecDepth 100000 in
theorem c_X6_town (l : Launch) (dC : Nat → ClassId) (dI : Nat → Nat → Nat) (cI cZ : ClassId) (a_o a_o_text a_o_worth a_o_readHouse a_o_readChild a_o_page a_o_trial a_o_book a_o_kept a_o_isKept a_o_seenHouse a_o_seenChild a_o_seenLived a_o_gains a_o_value : Nat) (v_o_thrown : Int32) (v_o_textSize : Int32) (v_o_place : Int32) (v_o_houses : Int32) (v_o_readHouses : Int32) (v_o_readChildren : Int32) (v_o_acts : Int32) (v_o_seen : Int32) (v_o_seed : Int64) (v_o_rollMost : Int32) (v_o_rollSet : Int32) (v_o_sideMany : Int32) (v_o_sideOne : Int32) (v_o_sideNone : Int32) (v_o_wrongSides : Int32) (v_o_wrongMany : Int32) (v_o_restMany : Int32) (v_o_restFirst : Int32) (f_o_text : Nat → Int32) (f_o_worth : Nat → Int32) (f_o_readHouse : Nat → Int32) (f_o_readChild : Nat → Int32) (f_o_page : Nat → Int32) (f_o_isKept : Nat → Int32)  (u : Int32 × Int32 × Int32 × Int32 × Int32 × Int32 × Int32 × (Nat → Int32) × (Nat → Int32) × (Nat → Int32) × (Nat → Int32) × (Nat → Int32)) (hf : f_X6_town v_o_textSize f_o_text v_o_thrown v_o_place v_o_houses v_o_readHouses v_o_readChildren v_o_acts f_o_worth f_o_readHouse f_o_readChild f_o_page f_o_isKept = some u) : kMi l yX6_town wsX6_town rm_X6_town (dC, dI) (kTy cI cZ) [.ref a_o] [(a_o, .inr (6, [.int v_o_thrown, .ref a_o_text, .int v_o_textSize, .int v_o_place, .int v_o_houses, .ref a_o_worth, .int v_o_readHouses, .ref a_o_readHouse, .int v_o_readChildren, .ref a_o_readChild, .ref a_o_page, .ref a_o_trial, .ref a_o_book, .int v_o_acts, .ref a_o_kept, .ref a_o_isKept, .int v_o_seen, .ref a_o_seenHouse, .ref a_o_seenChild, .ref a_o_seenLived, .long v_o_seed, .int v_o_rollMost, .int v_o_rollSet, .int v_o_sideMany, .int v_o_sideOne, .int v_o_sideNone, .int v_o_wrongSides, .int v_o_wrongMany, .int v_o_restMany, .int v_o_restFirst, .ref a_o_gains, .ref a_o_value])), (a_o_text, .inl (cI, 48, .inl f_o_text)), (a_o_worth, .inl (cI, 3, .inl f_o_worth)), (a_o_readHouse, .inl (cI, 6, .inl f_o_readHouse)), (a_o_readChild, .inl (cI, 18, .inl f_o_readChild)), (a_o_page, .inl (cI, 33, .inl f_o_page)), (a_o_isKept, .inl (cZ, 2, .inl f_o_isKept))] [(a_o, .inr (6, [.int u.2.1, .ref a_o_text, .int v_o_textSize, .int u.2.2.1, .int u.2.2.2.1, .ref a_o_worth, .int u.2.2.2.2.1, .ref a_o_readHouse, .int u.2.2.2.2.2.1, .ref a_o_readChild, .ref a_o_page, .ref a_o_trial, .ref a_o_book, .int u.2.2.2.2.2.2.1, .ref a_o_kept, .ref a_o_isKept, .int v_o_seen, .ref a_o_seenHouse, .ref a_o_seenChild, .ref a_o_seenLived, .long v_o_seed, .int v_o_rollMost, .int v_o_rollSet, .int v_o_sideMany, .int v_o_sideOne, .int v_o_sideNone, .int v_o_wrongSides, .int v_o_wrongMany, .int v_o_restMany, .int v_o_restFirst, .ref a_o_gains, .ref a_o_value])), (a_o_text, .inl (cI, 48, .inl f_o_text)), (a_o_worth, .inl (cI, 3, .inl u.2.2.2.2.2.2.2.1)), (a_o_readHouse, .inl (cI, 6, .inl u.2.2.2.2.2.2.2.2.1)), (a_o_readChild, .inl (cI, 18, .inl u.2.2.2.2.2.2.2.2.2.1)), (a_o_page, .inl (cI, 33, .inl u.2.2.2.2.2.2.2.2.2.2.1)), (a_o_isKept, .inl (cZ, 2, .inl u.2.2.2.2.2.2.2.2.2.2.2))] u.1 := by
  refine kMi_of sg_X6_town ⟨rfl, rfl⟩ (Nat.le_of_ble_eq_true rfl) ?_
  intro p e s m args below meth c A H0 Q hx hb hml hown hts hK hN hA hend H locs ls hP hD hS hl
  have hl : lv_has ls 2 [(0, .ref a_o)] := hl
  have hk13 := hts (.fieldLink RX6 13 "YoungestHouseModel" "worth" "[I") (by decide +kernel)
  have hk16 := hts (.fieldLink RX6 16 "YoungestHouseModel" "readHouse" "[I") (by decide +kernel)
  have hk19 := hts (.fieldLink RX6 19 "YoungestHouseModel" "readChild" "[I") (by decide +kernel)
  have hk22 := hts (.fieldLink RX6 22 "YoungestHouseModel" "page" "[I") (by decide +kernel)
  have hk34 := hts (.fieldLink RX6 34 "YoungestHouseModel" "isKept" "[Z") (by decide +kernel)
  have hk53 := hts (.fieldLink RX6 53 "YoungestHouseModel" "thrown" "I") (by decide +kernel)
  have hk57 := hts (.fieldLink RX6 57 "YoungestHouseModel" "houses" "I") (by decide +kernel)
  have hk76 := hts (.fieldLink RX6 76 "YoungestHouseModel" "readHouses" "I") (by decide +kernel)
  have hk79 := hts (.fieldLink RX6 79 "YoungestHouseModel" "readChildren" "I") (by decide +kernel)
  have hk94 := hts (.fieldLink RX6 94 "YoungestHouseModel" "acts" "I") (by decide +kernel)
  have J_100 : ∀ (n_100 : Nat), ∀ (v_o_thrown : Int32) (v_o_place : Int32) (v_o_houses : Int32) (v_o_readHouses : Int32) (v_o_readChildren : Int32) (v_o_acts : Int32) (f_o_worth : Nat → Int32) (f_o_readHouse : Nat → Int32) (f_o_readChild : Nat → Int32) (f_o_page : Nat → Int32) (f_o_isKept : Nat → Int32) (x1 : Int32) (H : Heap) (locs : List Loc) (ls : Array Slot), va_P (dC, dI) vwCl [(a_o, .inr (6, [.int v_o_thrown, .ref a_o_text, .int v_o_textSize, .int v_o_place, .int v_o_houses, .ref a_o_worth, .int v_o_readHouses, .ref a_o_readHouse, .int v_o_readChildren, .ref a_o_readChild, .ref a_o_page, .ref a_o_trial, .ref a_o_book, .int v_o_acts, .ref a_o_kept, .ref a_o_isKept, .int v_o_seen, .ref a_o_seenHouse, .ref a_o_seenChild, .ref a_o_seenLived, .long v_o_seed, .int v_o_rollMost, .int v_o_rollSet, .int v_o_sideMany, .int v_o_sideOne, .int v_o_sideNone, .int v_o_wrongSides, .int v_o_wrongMany, .int v_o_restMany, .int v_o_restFirst, .ref a_o_gains, .ref a_o_value])), (a_o_text, .inl (cI, 48, .inl f_o_text)), (a_o_worth, .inl (cI, 3, .inl f_o_worth)), (a_o_readHouse, .inl (cI, 6, .inl f_o_readHouse)), (a_o_readChild, .inl (cI, 18, .inl f_o_readChild)), (a_o_page, .inl (cI, 33, .inl f_o_page)), (a_o_isKept, .inl (cZ, 2, .inl f_o_isKept))] H → va_D A [(a_o, .inr (6, [.int v_o_thrown, .ref a_o_text, .int v_o_textSize, .int v_o_place, .int v_o_houses, .ref a_o_worth, .int v_o_readHouses, .ref a_o_readHouse, .int v_o_readChildren, .ref a_o_readChild, .ref a_o_page, .ref a_o_trial, .ref a_o_book, .int v_o_acts, .ref a_o_kept, .ref a_o_isKept, .int v_o_seen, .ref a_o_seenHouse, .ref a_o_seenChild, .ref a_o_seenLived, .long v_o_seed, .int v_o_rollMost, .int v_o_rollSet, .int v_o_sideMany, .int v_o_sideOne, .int v_o_sideNone, .int v_o_wrongSides, .int v_o_wrongMany, .int v_o_restMany, .int v_o_restFirst, .ref a_o_gains, .ref a_o_value])), (a_o_text, .inl (cI, 48, .inl f_o_text)), (a_o_worth, .inl (cI, 3, .inl f_o_worth)), (a_o_readHouse, .inl (cI, 6, .inl f_o_readHouse)), (a_o_readChild, .inl (cI, 18, .inl f_o_readChild)), (a_o_page, .inl (cI, 33, .inl f_o_page)), (a_o_isKept, .inl (cZ, 2, .inl f_o_isKept))] → va_S A H0 H locs → lv_has ls 2 [(0, .ref a_o), (1, .int x1)] → f_X6_town_100 v_o_textSize f_o_text n_100 v_o_thrown v_o_place v_o_houses v_o_readHouses v_o_readChildren v_o_acts f_o_worth f_o_readHouse f_o_readChild f_o_page f_o_isKept x1 = some u → W p l e rm_X6_town s m args below meth c H locs 0 0 Q (F0 m 100 ls []) := by
    intro n_100
    induction n_100 with
    | zero => intro v_o_thrown v_o_place v_o_houses v_o_readHouses v_o_readChildren v_o_acts f_o_worth f_o_readHouse f_o_readChild f_o_page f_o_isKept x1 H locs ls hP hD hS hl hf; exact nomatch hf
    | succ n_100 ih_100 =>
      intro v_o_thrown v_o_place v_o_houses v_o_readHouses v_o_readChildren v_o_acts f_o_worth f_o_readHouse f_o_readChild f_o_page f_o_isKept x1 H locs ls hP hD hS hl hf
      have hf : f_X6_town_100_b v_o_textSize f_o_text (f_X6_town_100 v_o_textSize f_o_text n_100) v_o_thrown v_o_place v_o_houses v_o_readHouses v_o_readChildren v_o_acts f_o_worth f_o_readHouse f_o_readChild f_o_page f_o_isKept x1 = some u := hf
      unfold f_X6_town_100_b at hf
      refine lv_iload_n hx hb dX6_town_100 rfl (lv_at hl 1 rfl) ?_
      refine lv_aload_n hx hb dX6_town_101 rfl (lv_at hl 0 rfl) ?_
      refine va_get (D := (dC, dI)) (ci := 6) (v := .int v_o_readChildren) (C := RX6) (T := TX6) (N := 32) hx hb hts in_X6_town_X6 hown hK hP 0 rfl rfl 8 (by decide) hk79 (fun _ h9 => h9) rfl dX6_town_102 ?_
      refine lv_icmp_ge (tgt := 168) hx hb dX6_town_105 (by decide) (fun c1 => ?_) (fun c1 => ?_)
      · replace hf := kt c1 hf
        refine lv_aload_n hx hb dX6_town_168 rfl (lv_at hl 0 rfl) ?_
        refine va_get (D := (dC, dI)) (ci := 6) (v := .ref a_o_page) (C := RX6) (T := TX6) (N := 32) hx hb hts in_X6_town_X6 hown hK hP 0 rfl rfl 10 (by decide) hk22 (fun _ h9 => h9) rfl dX6_town_169 ?_
        refine lv_bipush (v := (25 : Int32)) hx hb dX6_town_172 (by decide) ?_
        refine lv_aload_n hx hb dX6_town_174 rfl (lv_at hl 0 rfl) ?_
        refine va_get (D := (dC, dI)) (ci := 6) (v := .int v_o_readChildren) (C := RX6) (T := TX6) (N := 32) hx hb hts in_X6_town_X6 hown hK hP 0 rfl rfl 8 (by decide) hk79 (fun _ h9 => h9) rfl dX6_town_175 ?_
        refine ka_ist (k := 25) hx hb hK hP hD hS 5 0 rfl rfl (kin_e (by decide)) rfl dX6_town_178 (fun H locs hP hD hS => ?_)
        have hP : va_P (dC, dI) vwCl [(a_o, .inr (6, [.int v_o_thrown, .ref a_o_text, .int v_o_textSize, .int v_o_place, .int v_o_houses, .ref a_o_worth, .int v_o_readHouses, .ref a_o_readHouse, .int v_o_readChildren, .ref a_o_readChild, .ref a_o_page, .ref a_o_trial, .ref a_o_book, .int v_o_acts, .ref a_o_kept, .ref a_o_isKept, .int v_o_seen, .ref a_o_seenHouse, .ref a_o_seenChild, .ref a_o_seenLived, .long v_o_seed, .int v_o_rollMost, .int v_o_rollSet, .int v_o_sideMany, .int v_o_sideOne, .int v_o_sideNone, .int v_o_wrongSides, .int v_o_wrongMany, .int v_o_restMany, .int v_o_restFirst, .ref a_o_gains, .ref a_o_value])), (a_o_text, .inl (cI, 48, .inl f_o_text)), (a_o_worth, .inl (cI, 3, .inl f_o_worth)), (a_o_readHouse, .inl (cI, 6, .inl f_o_readHouse)), (a_o_readChild, .inl (cI, 18, .inl f_o_readChild)), (a_o_page, .inl (cI, 33, .inl (upd f_o_page 25 v_o_readChildren))), (a_o_isKept, .inl (cZ, 2, .inl f_o_isKept))] H := hP
        have hD : va_D A [(a_o, .inr (6, [.int v_o_thrown, .ref a_o_text, .int v_o_textSize, .int v_o_place, .int v_o_houses, .ref a_o_worth, .int v_o_readHouses, .ref a_o_readHouse, .int v_o_readChildren, .ref a_o_readChild, .ref a_o_page, .ref a_o_trial, .ref a_o_book, .int v_o_acts, .ref a_o_kept, .ref a_o_isKept, .int v_o_seen, .ref a_o_seenHouse, .ref a_o_seenChild, .ref a_o_seenLived, .long v_o_seed, .int v_o_rollMost, .int v_o_rollSet, .int v_o_sideMany, .int v_o_sideOne, .int v_o_sideNone, .int v_o_wrongSides, .int v_o_wrongMany, .int v_o_restMany, .int v_o_restFirst, .ref a_o_gains, .ref a_o_value])), (a_o_text, .inl (cI, 48, .inl f_o_text)), (a_o_worth, .inl (cI, 3, .inl f_o_worth)), (a_o_readHouse, .inl (cI, 6, .inl f_o_readHouse)), (a_o_readChild, .inl (cI, 18, .inl f_o_readChild)), (a_o_page, .inl (cI, 33, .inl (upd f_o_page 25 v_o_readChildren))), (a_o_isKept, .inl (cZ, 2, .inl f_o_isKept))] := hD
        refine lv_aload_n hx hb dX6_town_179 rfl (lv_at hl 0 rfl) ?_
        refine va_get (D := (dC, dI)) (ci := 6) (v := .ref a_o_page) (C := RX6) (T := TX6) (N := 32) hx hb hts in_X6_town_X6 hown hK hP 0 rfl rfl 10 (by decide) hk22 (fun _ h9 => h9) rfl dX6_town_180 ?_
        refine lv_bipush (v := (21 : Int32)) hx hb dX6_town_183 (by decide) ?_
        refine lv_iconst (v := (1 : Int32)) hx hb dX6_town_185 (by decide) ?_
        refine lv_aload_n hx hb dX6_town_186 rfl (lv_at hl 0 rfl) ?_
        refine va_get (D := (dC, dI)) (ci := 6) (v := .int v_o_readChildren) (C := RX6) (T := TX6) (N := 32) hx hb hts in_X6_town_X6 hown hK hP 0 rfl rfl 8 (by decide) hk79 (fun _ h9 => h9) rfl dX6_town_187 ?_
        refine lv_ishl hx hb dX6_town_190 ?_
        refine lv_iconst (v := (1 : Int32)) hx hb dX6_town_191 (by decide) ?_
        refine lv_isub hx hb dX6_town_192 ?_
        refine ka_ist (k := 21) hx hb hK hP hD hS 5 0 rfl rfl (kin_e (by decide)) rfl dX6_town_193 (fun H locs hP hD hS => ?_)
        have hP : va_P (dC, dI) vwCl [(a_o, .inr (6, [.int v_o_thrown, .ref a_o_text, .int v_o_textSize, .int v_o_place, .int v_o_houses, .ref a_o_worth, .int v_o_readHouses, .ref a_o_readHouse, .int v_o_readChildren, .ref a_o_readChild, .ref a_o_page, .ref a_o_trial, .ref a_o_book, .int v_o_acts, .ref a_o_kept, .ref a_o_isKept, .int v_o_seen, .ref a_o_seenHouse, .ref a_o_seenChild, .ref a_o_seenLived, .long v_o_seed, .int v_o_rollMost, .int v_o_rollSet, .int v_o_sideMany, .int v_o_sideOne, .int v_o_sideNone, .int v_o_wrongSides, .int v_o_wrongMany, .int v_o_restMany, .int v_o_restFirst, .ref a_o_gains, .ref a_o_value])), (a_o_text, .inl (cI, 48, .inl f_o_text)), (a_o_worth, .inl (cI, 3, .inl f_o_worth)), (a_o_readHouse, .inl (cI, 6, .inl f_o_readHouse)), (a_o_readChild, .inl (cI, 18, .inl f_o_readChild)), (a_o_page, .inl (cI, 33, .inl (upd (upd f_o_page 25 v_o_readChildren) 21 (((1 : Int32) <<< (v_o_readChildren &&& 31)) - (1 : Int32))))), (a_o_isKept, .inl (cZ, 2, .inl f_o_isKept))] H := hP
        have hD : va_D A [(a_o, .inr (6, [.int v_o_thrown, .ref a_o_text, .int v_o_textSize, .int v_o_place, .int v_o_houses, .ref a_o_worth, .int v_o_readHouses, .ref a_o_readHouse, .int v_o_readChildren, .ref a_o_readChild, .ref a_o_page, .ref a_o_trial, .ref a_o_book, .int v_o_acts, .ref a_o_kept, .ref a_o_isKept, .int v_o_seen, .ref a_o_seenHouse, .ref a_o_seenChild, .ref a_o_seenLived, .long v_o_seed, .int v_o_rollMost, .int v_o_rollSet, .int v_o_sideMany, .int v_o_sideOne, .int v_o_sideNone, .int v_o_wrongSides, .int v_o_wrongMany, .int v_o_restMany, .int v_o_restFirst, .ref a_o_gains, .ref a_o_value])), (a_o_text, .inl (cI, 48, .inl f_o_text)), (a_o_worth, .inl (cI, 3, .inl f_o_worth)), (a_o_readHouse, .inl (cI, 6, .inl f_o_readHouse)), (a_o_readChild, .inl (cI, 18, .inl f_o_readChild)), (a_o_page, .inl (cI, 33, .inl (upd (upd f_o_page 25 v_o_readChildren) 21 (((1 : Int32) <<< (v_o_readChildren &&& 31)) - (1 : Int32))))), (a_o_isKept, .inl (cZ, 2, .inl f_o_isKept))] := hD
        refine lv_aload_n hx hb dX6_town_194 rfl (lv_at hl 0 rfl) ?_
        refine lv_iconst (v := (0 : Int32)) hx hb dX6_town_195 (by decide) ?_
        refine va_put (D := (dC, dI)) (ci := 6) (v := .int (0 : Int32)) (ty := .int) (C := RX6) (T := TX6) (N := 32) hx hb hts in_X6_town_X6 tyX6 tyX6_ok nmX6 hown hK hP hD hS 0 rfl rfl 13 (by decide) hk94 (fun _ h9 => h9) rfl (by decide +kernel) rfl rfl (Nat.le_of_ble_eq_true rfl) dX6_town_196 (fun H locs hP hD hS => ?_)
        have hP : va_P (dC, dI) vwCl [(a_o, .inr (6, [.int v_o_thrown, .ref a_o_text, .int v_o_textSize, .int v_o_place, .int v_o_houses, .ref a_o_worth, .int v_o_readHouses, .ref a_o_readHouse, .int v_o_readChildren, .ref a_o_readChild, .ref a_o_page, .ref a_o_trial, .ref a_o_book, .int (0 : Int32), .ref a_o_kept, .ref a_o_isKept, .int v_o_seen, .ref a_o_seenHouse, .ref a_o_seenChild, .ref a_o_seenLived, .long v_o_seed, .int v_o_rollMost, .int v_o_rollSet, .int v_o_sideMany, .int v_o_sideOne, .int v_o_sideNone, .int v_o_wrongSides, .int v_o_wrongMany, .int v_o_restMany, .int v_o_restFirst, .ref a_o_gains, .ref a_o_value])), (a_o_text, .inl (cI, 48, .inl f_o_text)), (a_o_worth, .inl (cI, 3, .inl f_o_worth)), (a_o_readHouse, .inl (cI, 6, .inl f_o_readHouse)), (a_o_readChild, .inl (cI, 18, .inl f_o_readChild)), (a_o_page, .inl (cI, 33, .inl (upd (upd f_o_page 25 v_o_readChildren) 21 (((1 : Int32) <<< (v_o_readChildren &&& 31)) - (1 : Int32))))), (a_o_isKept, .inl (cZ, 2, .inl f_o_isKept))] H := hP
        have hD : va_D A [(a_o, .inr (6, [.int v_o_thrown, .ref a_o_text, .int v_o_textSize, .int v_o_place, .int v_o_houses, .ref a_o_worth, .int v_o_readHouses, .ref a_o_readHouse, .int v_o_readChildren, .ref a_o_readChild, .ref a_o_page, .ref a_o_trial, .ref a_o_book, .int (0 : Int32), .ref a_o_kept, .ref a_o_isKept, .int v_o_seen, .ref a_o_seenHouse, .ref a_o_seenChild, .ref a_o_seenLived, .long v_o_seed, .int v_o_rollMost, .int v_o_rollSet, .int v_o_sideMany, .int v_o_sideOne, .int v_o_sideNone, .int v_o_wrongSides, .int v_o_wrongMany, .int v_o_restMany, .int v_o_restFirst, .ref a_o_gains, .ref a_o_value])), (a_o_text, .inl (cI, 48, .inl f_o_text)), (a_o_worth, .inl (cI, 3, .inl f_o_worth)), (a_o_readHouse, .inl (cI, 6, .inl f_o_readHouse)), (a_o_readChild, .inl (cI, 18, .inl f_o_readChild)), (a_o_page, .inl (cI, 33, .inl (upd (upd f_o_page 25 v_o_readChildren) 21 (((1 : Int32) <<< (v_o_readChildren &&& 31)) - (1 : Int32))))), (a_o_isKept, .inl (cZ, 2, .inl f_o_isKept))] := hD
        refine lv_aload_n hx hb dX6_town_199 rfl (lv_at hl 0 rfl) ?_
        refine va_get (D := (dC, dI)) (ci := 6) (v := .ref a_o_isKept) (C := RX6) (T := TX6) (N := 32) hx hb hts in_X6_town_X6 hown hK hP 0 rfl rfl 15 (by decide) hk34 (fun _ h9 => h9) rfl dX6_town_200 ?_
        refine lv_iconst (v := (0 : Int32)) hx hb dX6_town_203 (by decide) ?_
        refine lv_iconst (v := (0 : Int32)) hx hb dX6_town_204 (by decide) ?_
        refine ka_zst (k := 0) hx hb hK hP hD hS 6 1 rfl rfl (kin_e (by decide)) rfl rfl dX6_town_205 (fun H locs hP hD hS => ?_)
        have hP : va_P (dC, dI) vwCl [(a_o, .inr (6, [.int v_o_thrown, .ref a_o_text, .int v_o_textSize, .int v_o_place, .int v_o_houses, .ref a_o_worth, .int v_o_readHouses, .ref a_o_readHouse, .int v_o_readChildren, .ref a_o_readChild, .ref a_o_page, .ref a_o_trial, .ref a_o_book, .int (0 : Int32), .ref a_o_kept, .ref a_o_isKept, .int v_o_seen, .ref a_o_seenHouse, .ref a_o_seenChild, .ref a_o_seenLived, .long v_o_seed, .int v_o_rollMost, .int v_o_rollSet, .int v_o_sideMany, .int v_o_sideOne, .int v_o_sideNone, .int v_o_wrongSides, .int v_o_wrongMany, .int v_o_restMany, .int v_o_restFirst, .ref a_o_gains, .ref a_o_value])), (a_o_text, .inl (cI, 48, .inl f_o_text)), (a_o_worth, .inl (cI, 3, .inl f_o_worth)), (a_o_readHouse, .inl (cI, 6, .inl f_o_readHouse)), (a_o_readChild, .inl (cI, 18, .inl f_o_readChild)), (a_o_page, .inl (cI, 33, .inl (upd (upd f_o_page 25 v_o_readChildren) 21 (((1 : Int32) <<< (v_o_readChildren &&& 31)) - (1 : Int32))))), (a_o_isKept, .inl (cZ, 2, .inl (upd f_o_isKept 0 (0 : Int32))))] H := hP
        have hD : va_D A [(a_o, .inr (6, [.int v_o_thrown, .ref a_o_text, .int v_o_textSize, .int v_o_place, .int v_o_houses, .ref a_o_worth, .int v_o_readHouses, .ref a_o_readHouse, .int v_o_readChildren, .ref a_o_readChild, .ref a_o_page, .ref a_o_trial, .ref a_o_book, .int (0 : Int32), .ref a_o_kept, .ref a_o_isKept, .int v_o_seen, .ref a_o_seenHouse, .ref a_o_seenChild, .ref a_o_seenLived, .long v_o_seed, .int v_o_rollMost, .int v_o_rollSet, .int v_o_sideMany, .int v_o_sideOne, .int v_o_sideNone, .int v_o_wrongSides, .int v_o_wrongMany, .int v_o_restMany, .int v_o_restFirst, .ref a_o_gains, .ref a_o_value])), (a_o_text, .inl (cI, 48, .inl f_o_text)), (a_o_worth, .inl (cI, 3, .inl f_o_worth)), (a_o_readHouse, .inl (cI, 6, .inl f_o_readHouse)), (a_o_readChild, .inl (cI, 18, .inl f_o_readChild)), (a_o_page, .inl (cI, 33, .inl (upd (upd f_o_page 25 v_o_readChildren) 21 (((1 : Int32) <<< (v_o_readChildren &&& 31)) - (1 : Int32))))), (a_o_isKept, .inl (cZ, 2, .inl (upd f_o_isKept 0 (0 : Int32))))] := hD
        refine lv_aload_n hx hb dX6_town_206 rfl (lv_at hl 0 rfl) ?_
        refine va_get (D := (dC, dI)) (ci := 6) (v := .ref a_o_isKept) (C := RX6) (T := TX6) (N := 32) hx hb hts in_X6_town_X6 hown hK hP 0 rfl rfl 15 (by decide) hk34 (fun _ h9 => h9) rfl dX6_town_207 ?_
        refine lv_iconst (v := (1 : Int32)) hx hb dX6_town_210 (by decide) ?_
        refine lv_iconst (v := (0 : Int32)) hx hb dX6_town_211 (by decide) ?_
        refine ka_zst (k := 1) hx hb hK hP hD hS 6 1 rfl rfl (kin_e (by decide)) rfl rfl dX6_town_212 (fun H locs hP hD hS => ?_)
        have hP : va_P (dC, dI) vwCl [(a_o, .inr (6, [.int v_o_thrown, .ref a_o_text, .int v_o_textSize, .int v_o_place, .int v_o_houses, .ref a_o_worth, .int v_o_readHouses, .ref a_o_readHouse, .int v_o_readChildren, .ref a_o_readChild, .ref a_o_page, .ref a_o_trial, .ref a_o_book, .int (0 : Int32), .ref a_o_kept, .ref a_o_isKept, .int v_o_seen, .ref a_o_seenHouse, .ref a_o_seenChild, .ref a_o_seenLived, .long v_o_seed, .int v_o_rollMost, .int v_o_rollSet, .int v_o_sideMany, .int v_o_sideOne, .int v_o_sideNone, .int v_o_wrongSides, .int v_o_wrongMany, .int v_o_restMany, .int v_o_restFirst, .ref a_o_gains, .ref a_o_value])), (a_o_text, .inl (cI, 48, .inl f_o_text)), (a_o_worth, .inl (cI, 3, .inl f_o_worth)), (a_o_readHouse, .inl (cI, 6, .inl f_o_readHouse)), (a_o_readChild, .inl (cI, 18, .inl f_o_readChild)), (a_o_page, .inl (cI, 33, .inl (upd (upd f_o_page 25 v_o_readChildren) 21 (((1 : Int32) <<< (v_o_readChildren &&& 31)) - (1 : Int32))))), (a_o_isKept, .inl (cZ, 2, .inl (upd (upd f_o_isKept 0 (0 : Int32)) 1 (0 : Int32))))] H := hP
        have hD : va_D A [(a_o, .inr (6, [.int v_o_thrown, .ref a_o_text, .int v_o_textSize, .int v_o_place, .int v_o_houses, .ref a_o_worth, .int v_o_readHouses, .ref a_o_readHouse, .int v_o_readChildren, .ref a_o_readChild, .ref a_o_page, .ref a_o_trial, .ref a_o_book, .int (0 : Int32), .ref a_o_kept, .ref a_o_isKept, .int v_o_seen, .ref a_o_seenHouse, .ref a_o_seenChild, .ref a_o_seenLived, .long v_o_seed, .int v_o_rollMost, .int v_o_rollSet, .int v_o_sideMany, .int v_o_sideOne, .int v_o_sideNone, .int v_o_wrongSides, .int v_o_wrongMany, .int v_o_restMany, .int v_o_restFirst, .ref a_o_gains, .ref a_o_value])), (a_o_text, .inl (cI, 48, .inl f_o_text)), (a_o_worth, .inl (cI, 3, .inl f_o_worth)), (a_o_readHouse, .inl (cI, 6, .inl f_o_readHouse)), (a_o_readChild, .inl (cI, 18, .inl f_o_readChild)), (a_o_page, .inl (cI, 33, .inl (upd (upd f_o_page 25 v_o_readChildren) 21 (((1 : Int32) <<< (v_o_readChildren &&& 31)) - (1 : Int32))))), (a_o_isKept, .inl (cZ, 2, .inl (upd (upd f_o_isKept 0 (0 : Int32)) 1 (0 : Int32))))] := hD
        refine lv_bipush (v := (10 : Int32)) hx hb dX6_town_213 (by decide) ?_
        refine lv_aload_n hx hb dX6_town_215 rfl (lv_at hl 0 rfl) ?_
        refine va_get (D := (dC, dI)) (ci := 6) (v := .int v_o_houses) (C := RX6) (T := TX6) (N := 32) hx hb hts in_X6_town_X6 hown hK hP 0 rfl rfl 4 (by decide) hk57 (fun _ h9 => h9) rfl dX6_town_216 ?_
        refine lv_imul hx hb dX6_town_219 ?_
        refine lv_aload_n hx hb dX6_town_220 rfl (lv_at hl 0 rfl) ?_
        refine va_get (D := (dC, dI)) (ci := 6) (v := .ref a_o_page) (C := RX6) (T := TX6) (N := 32) hx hb hts in_X6_town_X6 hown hK hP 0 rfl rfl 10 (by decide) hk22 (fun _ h9 => h9) rfl dX6_town_221 ?_
        refine lv_bipush (v := (25 : Int32)) hx hb dX6_town_224 (by decide) ?_
        refine ka_ild (k := 25) hx hb hK hP 5 0 rfl rfl (kin_e (by decide)) rfl dX6_town_226 ?_
        refine lv_iadd hx hb dX6_town_227 ?_
        cases hf
        exact hend _ _ _ _ dX6_town_228 rfl hP hS
      · replace hf := kf c1 hf
        refine lv_aload_n hx hb dX6_town_108 rfl (lv_at hl 0 rfl) ?_
        refine va_get (D := (dC, dI)) (ci := 6) (v := .ref a_o_page) (C := RX6) (T := TX6) (N := 32) hx hb hts in_X6_town_X6 hown hK hP 0 rfl rfl 10 (by decide) hk22 (fun _ h9 => h9) rfl dX6_town_109 ?_
        refine lv_iconst (v := (0 : Int32)) hx hb dX6_town_112 (by decide) ?_
        refine lv_iload_n hx hb dX6_town_113 rfl (lv_at hl 1 rfl) ?_
        refine lv_iadd hx hb dX6_town_114 ?_
        refine lv_aload_n hx hb dX6_town_115 rfl (lv_at hl 0 rfl) ?_
        refine va_get (D := (dC, dI)) (ci := 6) (v := .ref a_o_readChild) (C := RX6) (T := TX6) (N := 32) hx hb hts in_X6_town_X6 hown hK hP 0 rfl rfl 9 (by decide) hk19 (fun _ h9 => h9) rfl dX6_town_116 ?_
        refine lv_iconst (v := (3 : Int32)) hx hb dX6_town_119 (by decide) ?_
        refine lv_iload_n hx hb dX6_town_120 rfl (lv_at hl 1 rfl) ?_
        refine lv_imul hx hb dX6_town_121 ?_
        obtain ⟨hg2, hf⟩ := kg_e hf
        refine ka_ild (k := (((3 : Int32) * x1)).toNatClampNeg) hx hb hK hP 4 0 rfl rfl (kin_e hg2) rfl dX6_town_122 ?_
        obtain ⟨hg3, hf⟩ := kg_e hf
        refine ka_ist (k := (((0 : Int32) + x1)).toNatClampNeg) hx hb hK hP hD hS 5 0 rfl rfl (kin_e hg3) rfl dX6_town_123 (fun H locs hP hD hS => ?_)
        have hP : va_P (dC, dI) vwCl [(a_o, .inr (6, [.int v_o_thrown, .ref a_o_text, .int v_o_textSize, .int v_o_place, .int v_o_houses, .ref a_o_worth, .int v_o_readHouses, .ref a_o_readHouse, .int v_o_readChildren, .ref a_o_readChild, .ref a_o_page, .ref a_o_trial, .ref a_o_book, .int v_o_acts, .ref a_o_kept, .ref a_o_isKept, .int v_o_seen, .ref a_o_seenHouse, .ref a_o_seenChild, .ref a_o_seenLived, .long v_o_seed, .int v_o_rollMost, .int v_o_rollSet, .int v_o_sideMany, .int v_o_sideOne, .int v_o_sideNone, .int v_o_wrongSides, .int v_o_wrongMany, .int v_o_restMany, .int v_o_restFirst, .ref a_o_gains, .ref a_o_value])), (a_o_text, .inl (cI, 48, .inl f_o_text)), (a_o_worth, .inl (cI, 3, .inl f_o_worth)), (a_o_readHouse, .inl (cI, 6, .inl f_o_readHouse)), (a_o_readChild, .inl (cI, 18, .inl f_o_readChild)), (a_o_page, .inl (cI, 33, .inl (upd f_o_page ((((0 : Int32) + x1)).toNatClampNeg) (f_o_readChild (((3 : Int32) * x1)).toNatClampNeg)))), (a_o_isKept, .inl (cZ, 2, .inl f_o_isKept))] H := hP
        have hD : va_D A [(a_o, .inr (6, [.int v_o_thrown, .ref a_o_text, .int v_o_textSize, .int v_o_place, .int v_o_houses, .ref a_o_worth, .int v_o_readHouses, .ref a_o_readHouse, .int v_o_readChildren, .ref a_o_readChild, .ref a_o_page, .ref a_o_trial, .ref a_o_book, .int v_o_acts, .ref a_o_kept, .ref a_o_isKept, .int v_o_seen, .ref a_o_seenHouse, .ref a_o_seenChild, .ref a_o_seenLived, .long v_o_seed, .int v_o_rollMost, .int v_o_rollSet, .int v_o_sideMany, .int v_o_sideOne, .int v_o_sideNone, .int v_o_wrongSides, .int v_o_wrongMany, .int v_o_restMany, .int v_o_restFirst, .ref a_o_gains, .ref a_o_value])), (a_o_text, .inl (cI, 48, .inl f_o_text)), (a_o_worth, .inl (cI, 3, .inl f_o_worth)), (a_o_readHouse, .inl (cI, 6, .inl f_o_readHouse)), (a_o_readChild, .inl (cI, 18, .inl f_o_readChild)), (a_o_page, .inl (cI, 33, .inl (upd f_o_page ((((0 : Int32) + x1)).toNatClampNeg) (f_o_readChild (((3 : Int32) * x1)).toNatClampNeg)))), (a_o_isKept, .inl (cZ, 2, .inl f_o_isKept))] := hD
        refine lv_aload_n hx hb dX6_town_124 rfl (lv_at hl 0 rfl) ?_
        refine va_get (D := (dC, dI)) (ci := 6) (v := .ref a_o_page) (C := RX6) (T := TX6) (N := 32) hx hb hts in_X6_town_X6 hown hK hP 0 rfl rfl 10 (by decide) hk22 (fun _ h9 => h9) rfl dX6_town_125 ?_
        refine lv_bipush (v := (7 : Int32)) hx hb dX6_town_128 (by decide) ?_
        refine lv_iload_n hx hb dX6_town_130 rfl (lv_at hl 1 rfl) ?_
        refine lv_iadd hx hb dX6_town_131 ?_
        refine lv_aload_n hx hb dX6_town_132 rfl (lv_at hl 0 rfl) ?_
        refine va_get (D := (dC, dI)) (ci := 6) (v := .ref a_o_readChild) (C := RX6) (T := TX6) (N := 32) hx hb hts in_X6_town_X6 hown hK hP 0 rfl rfl 9 (by decide) hk19 (fun _ h9 => h9) rfl dX6_town_133 ?_
        refine lv_iconst (v := (3 : Int32)) hx hb dX6_town_136 (by decide) ?_
        refine lv_iload_n hx hb dX6_town_137 rfl (lv_at hl 1 rfl) ?_
        refine lv_imul hx hb dX6_town_138 ?_
        refine lv_iconst (v := (1 : Int32)) hx hb dX6_town_139 (by decide) ?_
        refine lv_iadd hx hb dX6_town_140 ?_
        obtain ⟨hg4, hf⟩ := kg_e hf
        refine ka_ild (k := ((((3 : Int32) * x1) + (1 : Int32))).toNatClampNeg) hx hb hK hP 4 0 rfl rfl (kin_e hg4) rfl dX6_town_141 ?_
        obtain ⟨hg5, hf⟩ := kg_e hf
        refine ka_ist (k := (((7 : Int32) + x1)).toNatClampNeg) hx hb hK hP hD hS 5 0 rfl rfl (kin_e hg5) rfl dX6_town_142 (fun H locs hP hD hS => ?_)
        have hP : va_P (dC, dI) vwCl [(a_o, .inr (6, [.int v_o_thrown, .ref a_o_text, .int v_o_textSize, .int v_o_place, .int v_o_houses, .ref a_o_worth, .int v_o_readHouses, .ref a_o_readHouse, .int v_o_readChildren, .ref a_o_readChild, .ref a_o_page, .ref a_o_trial, .ref a_o_book, .int v_o_acts, .ref a_o_kept, .ref a_o_isKept, .int v_o_seen, .ref a_o_seenHouse, .ref a_o_seenChild, .ref a_o_seenLived, .long v_o_seed, .int v_o_rollMost, .int v_o_rollSet, .int v_o_sideMany, .int v_o_sideOne, .int v_o_sideNone, .int v_o_wrongSides, .int v_o_wrongMany, .int v_o_restMany, .int v_o_restFirst, .ref a_o_gains, .ref a_o_value])), (a_o_text, .inl (cI, 48, .inl f_o_text)), (a_o_worth, .inl (cI, 3, .inl f_o_worth)), (a_o_readHouse, .inl (cI, 6, .inl f_o_readHouse)), (a_o_readChild, .inl (cI, 18, .inl f_o_readChild)), (a_o_page, .inl (cI, 33, .inl (upd (upd f_o_page ((((0 : Int32) + x1)).toNatClampNeg) (f_o_readChild (((3 : Int32) * x1)).toNatClampNeg)) ((((7 : Int32) + x1)).toNatClampNeg) (f_o_readChild ((((3 : Int32) * x1) + (1 : Int32))).toNatClampNeg)))), (a_o_isKept, .inl (cZ, 2, .inl f_o_isKept))] H := hP
        have hD : va_D A [(a_o, .inr (6, [.int v_o_thrown, .ref a_o_text, .int v_o_textSize, .int v_o_place, .int v_o_houses, .ref a_o_worth, .int v_o_readHouses, .ref a_o_readHouse, .int v_o_readChildren, .ref a_o_readChild, .ref a_o_page, .ref a_o_trial, .ref a_o_book, .int v_o_acts, .ref a_o_kept, .ref a_o_isKept, .int v_o_seen, .ref a_o_seenHouse, .ref a_o_seenChild, .ref a_o_seenLived, .long v_o_seed, .int v_o_rollMost, .int v_o_rollSet, .int v_o_sideMany, .int v_o_sideOne, .int v_o_sideNone, .int v_o_wrongSides, .int v_o_wrongMany, .int v_o_restMany, .int v_o_restFirst, .ref a_o_gains, .ref a_o_value])), (a_o_text, .inl (cI, 48, .inl f_o_text)), (a_o_worth, .inl (cI, 3, .inl f_o_worth)), (a_o_readHouse, .inl (cI, 6, .inl f_o_readHouse)), (a_o_readChild, .inl (cI, 18, .inl f_o_readChild)), (a_o_page, .inl (cI, 33, .inl (upd (upd f_o_page ((((0 : Int32) + x1)).toNatClampNeg) (f_o_readChild (((3 : Int32) * x1)).toNatClampNeg)) ((((7 : Int32) + x1)).toNatClampNeg) (f_o_readChild ((((3 : Int32) * x1) + (1 : Int32))).toNatClampNeg)))), (a_o_isKept, .inl (cZ, 2, .inl f_o_isKept))] := hD
        refine lv_aload_n hx hb dX6_town_143 rfl (lv_at hl 0 rfl) ?_
        refine va_get (D := (dC, dI)) (ci := 6) (v := .ref a_o_page) (C := RX6) (T := TX6) (N := 32) hx hb hts in_X6_town_X6 hown hK hP 0 rfl rfl 10 (by decide) hk22 (fun _ h9 => h9) rfl dX6_town_144 ?_
        refine lv_bipush (v := (26 : Int32)) hx hb dX6_town_147 (by decide) ?_
        refine lv_iload_n hx hb dX6_town_149 rfl (lv_at hl 1 rfl) ?_
        refine lv_iadd hx hb dX6_town_150 ?_
        refine lv_aload_n hx hb dX6_town_151 rfl (lv_at hl 0 rfl) ?_
        refine va_get (D := (dC, dI)) (ci := 6) (v := .ref a_o_readChild) (C := RX6) (T := TX6) (N := 32) hx hb hts in_X6_town_X6 hown hK hP 0 rfl rfl 9 (by decide) hk19 (fun _ h9 => h9) rfl dX6_town_152 ?_
        refine lv_iconst (v := (3 : Int32)) hx hb dX6_town_155 (by decide) ?_
        refine lv_iload_n hx hb dX6_town_156 rfl (lv_at hl 1 rfl) ?_
        refine lv_imul hx hb dX6_town_157 ?_
        refine lv_iconst (v := (2 : Int32)) hx hb dX6_town_158 (by decide) ?_
        refine lv_iadd hx hb dX6_town_159 ?_
        obtain ⟨hg6, hf⟩ := kg_e hf
        refine ka_ild (k := ((((3 : Int32) * x1) + (2 : Int32))).toNatClampNeg) hx hb hK hP 4 0 rfl rfl (kin_e hg6) rfl dX6_town_160 ?_
        obtain ⟨hg7, hf⟩ := kg_e hf
        refine ka_ist (k := (((26 : Int32) + x1)).toNatClampNeg) hx hb hK hP hD hS 5 0 rfl rfl (kin_e hg7) rfl dX6_town_161 (fun H locs hP hD hS => ?_)
        have hP : va_P (dC, dI) vwCl [(a_o, .inr (6, [.int v_o_thrown, .ref a_o_text, .int v_o_textSize, .int v_o_place, .int v_o_houses, .ref a_o_worth, .int v_o_readHouses, .ref a_o_readHouse, .int v_o_readChildren, .ref a_o_readChild, .ref a_o_page, .ref a_o_trial, .ref a_o_book, .int v_o_acts, .ref a_o_kept, .ref a_o_isKept, .int v_o_seen, .ref a_o_seenHouse, .ref a_o_seenChild, .ref a_o_seenLived, .long v_o_seed, .int v_o_rollMost, .int v_o_rollSet, .int v_o_sideMany, .int v_o_sideOne, .int v_o_sideNone, .int v_o_wrongSides, .int v_o_wrongMany, .int v_o_restMany, .int v_o_restFirst, .ref a_o_gains, .ref a_o_value])), (a_o_text, .inl (cI, 48, .inl f_o_text)), (a_o_worth, .inl (cI, 3, .inl f_o_worth)), (a_o_readHouse, .inl (cI, 6, .inl f_o_readHouse)), (a_o_readChild, .inl (cI, 18, .inl f_o_readChild)), (a_o_page, .inl (cI, 33, .inl (upd (upd (upd f_o_page ((((0 : Int32) + x1)).toNatClampNeg) (f_o_readChild (((3 : Int32) * x1)).toNatClampNeg)) ((((7 : Int32) + x1)).toNatClampNeg) (f_o_readChild ((((3 : Int32) * x1) + (1 : Int32))).toNatClampNeg)) ((((26 : Int32) + x1)).toNatClampNeg) (f_o_readChild ((((3 : Int32) * x1) + (2 : Int32))).toNatClampNeg)))), (a_o_isKept, .inl (cZ, 2, .inl f_o_isKept))] H := hP
        have hD : va_D A [(a_o, .inr (6, [.int v_o_thrown, .ref a_o_text, .int v_o_textSize, .int v_o_place, .int v_o_houses, .ref a_o_worth, .int v_o_readHouses, .ref a_o_readHouse, .int v_o_readChildren, .ref a_o_readChild, .ref a_o_page, .ref a_o_trial, .ref a_o_book, .int v_o_acts, .ref a_o_kept, .ref a_o_isKept, .int v_o_seen, .ref a_o_seenHouse, .ref a_o_seenChild, .ref a_o_seenLived, .long v_o_seed, .int v_o_rollMost, .int v_o_rollSet, .int v_o_sideMany, .int v_o_sideOne, .int v_o_sideNone, .int v_o_wrongSides, .int v_o_wrongMany, .int v_o_restMany, .int v_o_restFirst, .ref a_o_gains, .ref a_o_value])), (a_o_text, .inl (cI, 48, .inl f_o_text)), (a_o_worth, .inl (cI, 3, .inl f_o_worth)), (a_o_readHouse, .inl (cI, 6, .inl f_o_readHouse)), (a_o_readChild, .inl (cI, 18, .inl f_o_readChild)), (a_o_page, .inl (cI, 33, .inl (upd (upd (upd f_o_page ((((0 : Int32) + x1)).toNatClampNeg) (f_o_readChild (((3 : Int32) * x1)).toNatClampNeg)) ((((7 : Int32) + x1)).toNatClampNeg) (f_o_readChild ((((3 : Int32) * x1) + (1 : Int32))).toNatClampNeg)) ((((26 : Int32) + x1)).toNatClampNeg) (f_o_readChild ((((3 : Int32) * x1) + (2 : Int32))).toNatClampNeg)))), (a_o_isKept, .inl (cZ, 2, .inl f_o_isKept))] := hD
        refine lv_iinc (v := (x1 + (1 : Int32))) (lv' := [(1, .int (x1 + (1 : Int32))), (0, .ref a_o)]) hx hb dX6_town_162 hl (k := 1) rfl rfl (by decide) rfl (fun ls hl => ?_)
        refine lv_goto (tgt := 100) hx hb dX6_town_165 (by decide) ?_
        exact ih_100 v_o_thrown v_o_place v_o_houses v_o_readHouses v_o_readChildren v_o_acts f_o_worth f_o_readHouse f_o_readChild (upd (upd (upd f_o_page ((((0 : Int32) + x1)).toNatClampNeg) (f_o_readChild (((3 : Int32) * x1)).toNatClampNeg)) ((((7 : Int32) + x1)).toNatClampNeg) (f_o_readChild ((((3 : Int32) * x1) + (1 : Int32))).toNatClampNeg)) ((((26 : Int32) + x1)).toNatClampNeg) (f_o_readChild ((((3 : Int32) * x1) + (2 : Int32))).toNatClampNeg)) f_o_isKept (x1 + (1 : Int32)) H locs ls hP hD hS (lv_sub hl [1, 0] rfl) hf
  have J_48 : ∀ (n_48 : Nat), ∀ (v_o_thrown : Int32) (v_o_place : Int32) (v_o_houses : Int32) (v_o_readHouses : Int32) (v_o_readChildren : Int32) (v_o_acts : Int32) (f_o_worth : Nat → Int32) (f_o_readHouse : Nat → Int32) (f_o_readChild : Nat → Int32) (f_o_page : Nat → Int32) (f_o_isKept : Nat → Int32) (x1 : Int32) (H : Heap) (locs : List Loc) (ls : Array Slot), va_P (dC, dI) vwCl [(a_o, .inr (6, [.int v_o_thrown, .ref a_o_text, .int v_o_textSize, .int v_o_place, .int v_o_houses, .ref a_o_worth, .int v_o_readHouses, .ref a_o_readHouse, .int v_o_readChildren, .ref a_o_readChild, .ref a_o_page, .ref a_o_trial, .ref a_o_book, .int v_o_acts, .ref a_o_kept, .ref a_o_isKept, .int v_o_seen, .ref a_o_seenHouse, .ref a_o_seenChild, .ref a_o_seenLived, .long v_o_seed, .int v_o_rollMost, .int v_o_rollSet, .int v_o_sideMany, .int v_o_sideOne, .int v_o_sideNone, .int v_o_wrongSides, .int v_o_wrongMany, .int v_o_restMany, .int v_o_restFirst, .ref a_o_gains, .ref a_o_value])), (a_o_text, .inl (cI, 48, .inl f_o_text)), (a_o_worth, .inl (cI, 3, .inl f_o_worth)), (a_o_readHouse, .inl (cI, 6, .inl f_o_readHouse)), (a_o_readChild, .inl (cI, 18, .inl f_o_readChild)), (a_o_page, .inl (cI, 33, .inl f_o_page)), (a_o_isKept, .inl (cZ, 2, .inl f_o_isKept))] H → va_D A [(a_o, .inr (6, [.int v_o_thrown, .ref a_o_text, .int v_o_textSize, .int v_o_place, .int v_o_houses, .ref a_o_worth, .int v_o_readHouses, .ref a_o_readHouse, .int v_o_readChildren, .ref a_o_readChild, .ref a_o_page, .ref a_o_trial, .ref a_o_book, .int v_o_acts, .ref a_o_kept, .ref a_o_isKept, .int v_o_seen, .ref a_o_seenHouse, .ref a_o_seenChild, .ref a_o_seenLived, .long v_o_seed, .int v_o_rollMost, .int v_o_rollSet, .int v_o_sideMany, .int v_o_sideOne, .int v_o_sideNone, .int v_o_wrongSides, .int v_o_wrongMany, .int v_o_restMany, .int v_o_restFirst, .ref a_o_gains, .ref a_o_value])), (a_o_text, .inl (cI, 48, .inl f_o_text)), (a_o_worth, .inl (cI, 3, .inl f_o_worth)), (a_o_readHouse, .inl (cI, 6, .inl f_o_readHouse)), (a_o_readChild, .inl (cI, 18, .inl f_o_readChild)), (a_o_page, .inl (cI, 33, .inl f_o_page)), (a_o_isKept, .inl (cZ, 2, .inl f_o_isKept))] → va_S A H0 H locs → lv_has ls 2 [(0, .ref a_o), (1, .int x1)] → f_X6_town_48 v_o_textSize f_o_text n_48 v_o_thrown v_o_place v_o_houses v_o_readHouses v_o_readChildren v_o_acts f_o_worth f_o_readHouse f_o_readChild f_o_page f_o_isKept x1 = some u → W p l e rm_X6_town s m args below meth c H locs 0 0 Q (F0 m 48 ls []) := by
    intro n_48
    induction n_48 with
    | zero => intro v_o_thrown v_o_place v_o_houses v_o_readHouses v_o_readChildren v_o_acts f_o_worth f_o_readHouse f_o_readChild f_o_page f_o_isKept x1 H locs ls hP hD hS hl hf; exact nomatch hf
    | succ n_48 ih_48 =>
      intro v_o_thrown v_o_place v_o_houses v_o_readHouses v_o_readChildren v_o_acts f_o_worth f_o_readHouse f_o_readChild f_o_page f_o_isKept x1 H locs ls hP hD hS hl hf
      have hf : f_X6_town_48_b v_o_textSize f_o_text (f_X6_town_48 v_o_textSize f_o_text n_48) v_o_thrown v_o_place v_o_houses v_o_readHouses v_o_readChildren v_o_acts f_o_worth f_o_readHouse f_o_readChild f_o_page f_o_isKept x1 = some u := hf
      unfold f_X6_town_48_b at hf
      refine lv_iload_n hx hb dX6_town_48 rfl (lv_at hl 1 rfl) ?_
      refine lv_aload_n hx hb dX6_town_49 rfl (lv_at hl 0 rfl) ?_
      refine va_get (D := (dC, dI)) (ci := 6) (v := .int v_o_houses) (C := RX6) (T := TX6) (N := 32) hx hb hts in_X6_town_X6 hown hK hP 0 rfl rfl 4 (by decide) hk57 (fun _ h9 => h9) rfl dX6_town_50 ?_
      refine lv_icmp_ge (tgt := 98) hx hb dX6_town_53 (by decide) (fun c8 => ?_) (fun c8 => ?_)
      · replace hf := kt c8 hf
        refine lv_iconst (v := (0 : Int32)) hx hb dX6_town_98 (by decide) ?_
        refine lv_istore_n (lv' := [(1, .int (0 : Int32)), (0, .ref a_o)]) hx hb dX6_town_99 rfl hl (by decide) rfl (fun ls hl => ?_)
        exact J_100 1000 v_o_thrown v_o_place v_o_houses v_o_readHouses v_o_readChildren v_o_acts f_o_worth f_o_readHouse f_o_readChild f_o_page f_o_isKept (0 : Int32) H locs ls hP hD hS (lv_sub hl [1, 0] rfl) hf
      · replace hf := kf c8 hf
        refine lv_aload_n hx hb dX6_town_56 rfl (lv_at hl 0 rfl) ?_
        refine va_get (D := (dC, dI)) (ci := 6) (v := .ref a_o_page) (C := RX6) (T := TX6) (N := 32) hx hb hts in_X6_town_X6 hown hK hP 0 rfl rfl 10 (by decide) hk22 (fun _ h9 => h9) rfl dX6_town_57 ?_
        refine lv_bipush (v := (22 : Int32)) hx hb dX6_town_60 (by decide) ?_
        refine lv_dup2_11 hx hb dX6_town_62 rfl rfl ?_
        refine ka_ild (k := 22) hx hb hK hP 5 0 rfl rfl (kin_e (by decide)) rfl dX6_town_63 ?_
        refine lv_aload_n hx hb dX6_town_64 rfl (lv_at hl 0 rfl) ?_
        refine va_get (D := (dC, dI)) (ci := 6) (v := .ref a_o_readHouse) (C := RX6) (T := TX6) (N := 32) hx hb hts in_X6_town_X6 hown hK hP 0 rfl rfl 7 (by decide) hk16 (fun _ h9 => h9) rfl dX6_town_65 ?_
        refine lv_iconst (v := (2 : Int32)) hx hb dX6_town_68 (by decide) ?_
        refine lv_iload_n hx hb dX6_town_69 rfl (lv_at hl 1 rfl) ?_
        refine lv_imul hx hb dX6_town_70 ?_
        obtain ⟨hg9, hf⟩ := kg_e hf
        refine ka_ild (k := (((2 : Int32) * x1)).toNatClampNeg) hx hb hK hP 3 0 rfl rfl (kin_e hg9) rfl dX6_town_71 ?_
        refine lv_iload_n hx hb dX6_town_72 rfl (lv_at hl 1 rfl) ?_
        refine lv_ishl hx hb dX6_town_73 ?_
        refine lv_ior hx hb dX6_town_74 ?_
        refine ka_ist (k := 22) hx hb hK hP hD hS 5 0 rfl rfl (kin_e (by decide)) rfl dX6_town_75 (fun H locs hP hD hS => ?_)
        have hP : va_P (dC, dI) vwCl [(a_o, .inr (6, [.int v_o_thrown, .ref a_o_text, .int v_o_textSize, .int v_o_place, .int v_o_houses, .ref a_o_worth, .int v_o_readHouses, .ref a_o_readHouse, .int v_o_readChildren, .ref a_o_readChild, .ref a_o_page, .ref a_o_trial, .ref a_o_book, .int v_o_acts, .ref a_o_kept, .ref a_o_isKept, .int v_o_seen, .ref a_o_seenHouse, .ref a_o_seenChild, .ref a_o_seenLived, .long v_o_seed, .int v_o_rollMost, .int v_o_rollSet, .int v_o_sideMany, .int v_o_sideOne, .int v_o_sideNone, .int v_o_wrongSides, .int v_o_wrongMany, .int v_o_restMany, .int v_o_restFirst, .ref a_o_gains, .ref a_o_value])), (a_o_text, .inl (cI, 48, .inl f_o_text)), (a_o_worth, .inl (cI, 3, .inl f_o_worth)), (a_o_readHouse, .inl (cI, 6, .inl f_o_readHouse)), (a_o_readChild, .inl (cI, 18, .inl f_o_readChild)), (a_o_page, .inl (cI, 33, .inl (upd f_o_page 22 ((f_o_page 22) ||| ((f_o_readHouse (((2 : Int32) * x1)).toNatClampNeg) <<< (x1 &&& 31)))))), (a_o_isKept, .inl (cZ, 2, .inl f_o_isKept))] H := hP
        have hD : va_D A [(a_o, .inr (6, [.int v_o_thrown, .ref a_o_text, .int v_o_textSize, .int v_o_place, .int v_o_houses, .ref a_o_worth, .int v_o_readHouses, .ref a_o_readHouse, .int v_o_readChildren, .ref a_o_readChild, .ref a_o_page, .ref a_o_trial, .ref a_o_book, .int v_o_acts, .ref a_o_kept, .ref a_o_isKept, .int v_o_seen, .ref a_o_seenHouse, .ref a_o_seenChild, .ref a_o_seenLived, .long v_o_seed, .int v_o_rollMost, .int v_o_rollSet, .int v_o_sideMany, .int v_o_sideOne, .int v_o_sideNone, .int v_o_wrongSides, .int v_o_wrongMany, .int v_o_restMany, .int v_o_restFirst, .ref a_o_gains, .ref a_o_value])), (a_o_text, .inl (cI, 48, .inl f_o_text)), (a_o_worth, .inl (cI, 3, .inl f_o_worth)), (a_o_readHouse, .inl (cI, 6, .inl f_o_readHouse)), (a_o_readChild, .inl (cI, 18, .inl f_o_readChild)), (a_o_page, .inl (cI, 33, .inl (upd f_o_page 22 ((f_o_page 22) ||| ((f_o_readHouse (((2 : Int32) * x1)).toNatClampNeg) <<< (x1 &&& 31)))))), (a_o_isKept, .inl (cZ, 2, .inl f_o_isKept))] := hD
        refine lv_aload_n hx hb dX6_town_76 rfl (lv_at hl 0 rfl) ?_
        refine va_get (D := (dC, dI)) (ci := 6) (v := .ref a_o_worth) (C := RX6) (T := TX6) (N := 32) hx hb hts in_X6_town_X6 hown hK hP 0 rfl rfl 5 (by decide) hk13 (fun _ h9 => h9) rfl dX6_town_77 ?_
        refine lv_iload_n hx hb dX6_town_80 rfl (lv_at hl 1 rfl) ?_
        refine lv_aload_n hx hb dX6_town_81 rfl (lv_at hl 0 rfl) ?_
        refine va_get (D := (dC, dI)) (ci := 6) (v := .ref a_o_readHouse) (C := RX6) (T := TX6) (N := 32) hx hb hts in_X6_town_X6 hown hK hP 0 rfl rfl 7 (by decide) hk16 (fun _ h9 => h9) rfl dX6_town_82 ?_
        refine lv_iconst (v := (2 : Int32)) hx hb dX6_town_85 (by decide) ?_
        refine lv_iload_n hx hb dX6_town_86 rfl (lv_at hl 1 rfl) ?_
        refine lv_imul hx hb dX6_town_87 ?_
        refine lv_iconst (v := (1 : Int32)) hx hb dX6_town_88 (by decide) ?_
        refine lv_iadd hx hb dX6_town_89 ?_
        obtain ⟨hg10, hf⟩ := kg_e hf
        refine ka_ild (k := ((((2 : Int32) * x1) + (1 : Int32))).toNatClampNeg) hx hb hK hP 3 0 rfl rfl (kin_e hg10) rfl dX6_town_90 ?_
        obtain ⟨hg11, hf⟩ := kg_e hf
        refine ka_ist (k := (x1).toNatClampNeg) hx hb hK hP hD hS 2 0 rfl rfl (kin_e hg11) rfl dX6_town_91 (fun H locs hP hD hS => ?_)
        have hP : va_P (dC, dI) vwCl [(a_o, .inr (6, [.int v_o_thrown, .ref a_o_text, .int v_o_textSize, .int v_o_place, .int v_o_houses, .ref a_o_worth, .int v_o_readHouses, .ref a_o_readHouse, .int v_o_readChildren, .ref a_o_readChild, .ref a_o_page, .ref a_o_trial, .ref a_o_book, .int v_o_acts, .ref a_o_kept, .ref a_o_isKept, .int v_o_seen, .ref a_o_seenHouse, .ref a_o_seenChild, .ref a_o_seenLived, .long v_o_seed, .int v_o_rollMost, .int v_o_rollSet, .int v_o_sideMany, .int v_o_sideOne, .int v_o_sideNone, .int v_o_wrongSides, .int v_o_wrongMany, .int v_o_restMany, .int v_o_restFirst, .ref a_o_gains, .ref a_o_value])), (a_o_text, .inl (cI, 48, .inl f_o_text)), (a_o_worth, .inl (cI, 3, .inl (upd f_o_worth ((x1).toNatClampNeg) (f_o_readHouse ((((2 : Int32) * x1) + (1 : Int32))).toNatClampNeg)))), (a_o_readHouse, .inl (cI, 6, .inl f_o_readHouse)), (a_o_readChild, .inl (cI, 18, .inl f_o_readChild)), (a_o_page, .inl (cI, 33, .inl (upd f_o_page 22 ((f_o_page 22) ||| ((f_o_readHouse (((2 : Int32) * x1)).toNatClampNeg) <<< (x1 &&& 31)))))), (a_o_isKept, .inl (cZ, 2, .inl f_o_isKept))] H := hP
        have hD : va_D A [(a_o, .inr (6, [.int v_o_thrown, .ref a_o_text, .int v_o_textSize, .int v_o_place, .int v_o_houses, .ref a_o_worth, .int v_o_readHouses, .ref a_o_readHouse, .int v_o_readChildren, .ref a_o_readChild, .ref a_o_page, .ref a_o_trial, .ref a_o_book, .int v_o_acts, .ref a_o_kept, .ref a_o_isKept, .int v_o_seen, .ref a_o_seenHouse, .ref a_o_seenChild, .ref a_o_seenLived, .long v_o_seed, .int v_o_rollMost, .int v_o_rollSet, .int v_o_sideMany, .int v_o_sideOne, .int v_o_sideNone, .int v_o_wrongSides, .int v_o_wrongMany, .int v_o_restMany, .int v_o_restFirst, .ref a_o_gains, .ref a_o_value])), (a_o_text, .inl (cI, 48, .inl f_o_text)), (a_o_worth, .inl (cI, 3, .inl (upd f_o_worth ((x1).toNatClampNeg) (f_o_readHouse ((((2 : Int32) * x1) + (1 : Int32))).toNatClampNeg)))), (a_o_readHouse, .inl (cI, 6, .inl f_o_readHouse)), (a_o_readChild, .inl (cI, 18, .inl f_o_readChild)), (a_o_page, .inl (cI, 33, .inl (upd f_o_page 22 ((f_o_page 22) ||| ((f_o_readHouse (((2 : Int32) * x1)).toNatClampNeg) <<< (x1 &&& 31)))))), (a_o_isKept, .inl (cZ, 2, .inl f_o_isKept))] := hD
        refine lv_iinc (v := (x1 + (1 : Int32))) (lv' := [(1, .int (x1 + (1 : Int32))), (0, .ref a_o)]) hx hb dX6_town_92 hl (k := 1) rfl rfl (by decide) rfl (fun ls hl => ?_)
        refine lv_goto (tgt := 48) hx hb dX6_town_95 (by decide) ?_
        exact ih_48 v_o_thrown v_o_place v_o_houses v_o_readHouses v_o_readChildren v_o_acts (upd f_o_worth ((x1).toNatClampNeg) (f_o_readHouse ((((2 : Int32) * x1) + (1 : Int32))).toNatClampNeg)) f_o_readHouse f_o_readChild (upd f_o_page 22 ((f_o_page 22) ||| ((f_o_readHouse (((2 : Int32) * x1)).toNatClampNeg) <<< (x1 &&& 31)))) f_o_isKept (x1 + (1 : Int32)) H locs ls hP hD hS (lv_sub hl [1, 0] rfl) hf
  have J_27 : ∀ (n_27 : Nat), ∀ (v_o_thrown : Int32) (v_o_place : Int32) (v_o_houses : Int32) (v_o_readHouses : Int32) (v_o_readChildren : Int32) (v_o_acts : Int32) (f_o_worth : Nat → Int32) (f_o_readHouse : Nat → Int32) (f_o_readChild : Nat → Int32) (f_o_page : Nat → Int32) (f_o_isKept : Nat → Int32) (x1 : Int32) (H : Heap) (locs : List Loc) (ls : Array Slot), va_P (dC, dI) vwCl [(a_o, .inr (6, [.int v_o_thrown, .ref a_o_text, .int v_o_textSize, .int v_o_place, .int v_o_houses, .ref a_o_worth, .int v_o_readHouses, .ref a_o_readHouse, .int v_o_readChildren, .ref a_o_readChild, .ref a_o_page, .ref a_o_trial, .ref a_o_book, .int v_o_acts, .ref a_o_kept, .ref a_o_isKept, .int v_o_seen, .ref a_o_seenHouse, .ref a_o_seenChild, .ref a_o_seenLived, .long v_o_seed, .int v_o_rollMost, .int v_o_rollSet, .int v_o_sideMany, .int v_o_sideOne, .int v_o_sideNone, .int v_o_wrongSides, .int v_o_wrongMany, .int v_o_restMany, .int v_o_restFirst, .ref a_o_gains, .ref a_o_value])), (a_o_text, .inl (cI, 48, .inl f_o_text)), (a_o_worth, .inl (cI, 3, .inl f_o_worth)), (a_o_readHouse, .inl (cI, 6, .inl f_o_readHouse)), (a_o_readChild, .inl (cI, 18, .inl f_o_readChild)), (a_o_page, .inl (cI, 33, .inl f_o_page)), (a_o_isKept, .inl (cZ, 2, .inl f_o_isKept))] H → va_D A [(a_o, .inr (6, [.int v_o_thrown, .ref a_o_text, .int v_o_textSize, .int v_o_place, .int v_o_houses, .ref a_o_worth, .int v_o_readHouses, .ref a_o_readHouse, .int v_o_readChildren, .ref a_o_readChild, .ref a_o_page, .ref a_o_trial, .ref a_o_book, .int v_o_acts, .ref a_o_kept, .ref a_o_isKept, .int v_o_seen, .ref a_o_seenHouse, .ref a_o_seenChild, .ref a_o_seenLived, .long v_o_seed, .int v_o_rollMost, .int v_o_rollSet, .int v_o_sideMany, .int v_o_sideOne, .int v_o_sideNone, .int v_o_wrongSides, .int v_o_wrongMany, .int v_o_restMany, .int v_o_restFirst, .ref a_o_gains, .ref a_o_value])), (a_o_text, .inl (cI, 48, .inl f_o_text)), (a_o_worth, .inl (cI, 3, .inl f_o_worth)), (a_o_readHouse, .inl (cI, 6, .inl f_o_readHouse)), (a_o_readChild, .inl (cI, 18, .inl f_o_readChild)), (a_o_page, .inl (cI, 33, .inl f_o_page)), (a_o_isKept, .inl (cZ, 2, .inl f_o_isKept))] → va_S A H0 H locs → lv_has ls 2 [(0, .ref a_o), (1, .int x1)] → f_X6_town_27 v_o_textSize f_o_text n_27 v_o_thrown v_o_place v_o_houses v_o_readHouses v_o_readChildren v_o_acts f_o_worth f_o_readHouse f_o_readChild f_o_page f_o_isKept x1 = some u → W p l e rm_X6_town s m args below meth c H locs 0 0 Q (F0 m 27 ls []) := by
    intro n_27
    induction n_27 with
    | zero => intro v_o_thrown v_o_place v_o_houses v_o_readHouses v_o_readChildren v_o_acts f_o_worth f_o_readHouse f_o_readChild f_o_page f_o_isKept x1 H locs ls hP hD hS hl hf; exact nomatch hf
    | succ n_27 ih_27 =>
      intro v_o_thrown v_o_place v_o_houses v_o_readHouses v_o_readChildren v_o_acts f_o_worth f_o_readHouse f_o_readChild f_o_page f_o_isKept x1 H locs ls hP hD hS hl hf
      have hf : f_X6_town_27_b v_o_textSize f_o_text (f_X6_town_27 v_o_textSize f_o_text n_27) v_o_thrown v_o_place v_o_houses v_o_readHouses v_o_readChildren v_o_acts f_o_worth f_o_readHouse f_o_readChild f_o_page f_o_isKept x1 = some u := hf
      unfold f_X6_town_27_b at hf
      refine lv_iload_n hx hb dX6_town_27 rfl (lv_at hl 1 rfl) ?_
      refine lv_bipush (v := (33 : Int32)) hx hb dX6_town_28 (by decide) ?_
      refine lv_icmp_ge (tgt := 46) hx hb dX6_town_30 (by decide) (fun c12 => ?_) (fun c12 => ?_)
      · replace hf := kt c12 hf
        refine lv_iconst (v := (0 : Int32)) hx hb dX6_town_46 (by decide) ?_
        refine lv_istore_n (lv' := [(1, .int (0 : Int32)), (0, .ref a_o)]) hx hb dX6_town_47 rfl hl (by decide) rfl (fun ls hl => ?_)
        exact J_48 1000 v_o_thrown v_o_place v_o_houses v_o_readHouses v_o_readChildren v_o_acts f_o_worth f_o_readHouse f_o_readChild f_o_page f_o_isKept (0 : Int32) H locs ls hP hD hS (lv_sub hl [1, 0] rfl) hf
      · replace hf := kf c12 hf
        refine lv_aload_n hx hb dX6_town_33 rfl (lv_at hl 0 rfl) ?_
        refine va_get (D := (dC, dI)) (ci := 6) (v := .ref a_o_page) (C := RX6) (T := TX6) (N := 32) hx hb hts in_X6_town_X6 hown hK hP 0 rfl rfl 10 (by decide) hk22 (fun _ h9 => h9) rfl dX6_town_34 ?_
        refine lv_iload_n hx hb dX6_town_37 rfl (lv_at hl 1 rfl) ?_
        refine lv_iconst (v := (0 : Int32)) hx hb dX6_town_38 (by decide) ?_
        obtain ⟨hg13, hf⟩ := kg_e hf
        refine ka_ist (k := (x1).toNatClampNeg) hx hb hK hP hD hS 5 0 rfl rfl (kin_e hg13) rfl dX6_town_39 (fun H locs hP hD hS => ?_)
        have hP : va_P (dC, dI) vwCl [(a_o, .inr (6, [.int v_o_thrown, .ref a_o_text, .int v_o_textSize, .int v_o_place, .int v_o_houses, .ref a_o_worth, .int v_o_readHouses, .ref a_o_readHouse, .int v_o_readChildren, .ref a_o_readChild, .ref a_o_page, .ref a_o_trial, .ref a_o_book, .int v_o_acts, .ref a_o_kept, .ref a_o_isKept, .int v_o_seen, .ref a_o_seenHouse, .ref a_o_seenChild, .ref a_o_seenLived, .long v_o_seed, .int v_o_rollMost, .int v_o_rollSet, .int v_o_sideMany, .int v_o_sideOne, .int v_o_sideNone, .int v_o_wrongSides, .int v_o_wrongMany, .int v_o_restMany, .int v_o_restFirst, .ref a_o_gains, .ref a_o_value])), (a_o_text, .inl (cI, 48, .inl f_o_text)), (a_o_worth, .inl (cI, 3, .inl f_o_worth)), (a_o_readHouse, .inl (cI, 6, .inl f_o_readHouse)), (a_o_readChild, .inl (cI, 18, .inl f_o_readChild)), (a_o_page, .inl (cI, 33, .inl (upd f_o_page ((x1).toNatClampNeg) (0 : Int32)))), (a_o_isKept, .inl (cZ, 2, .inl f_o_isKept))] H := hP
        have hD : va_D A [(a_o, .inr (6, [.int v_o_thrown, .ref a_o_text, .int v_o_textSize, .int v_o_place, .int v_o_houses, .ref a_o_worth, .int v_o_readHouses, .ref a_o_readHouse, .int v_o_readChildren, .ref a_o_readChild, .ref a_o_page, .ref a_o_trial, .ref a_o_book, .int v_o_acts, .ref a_o_kept, .ref a_o_isKept, .int v_o_seen, .ref a_o_seenHouse, .ref a_o_seenChild, .ref a_o_seenLived, .long v_o_seed, .int v_o_rollMost, .int v_o_rollSet, .int v_o_sideMany, .int v_o_sideOne, .int v_o_sideNone, .int v_o_wrongSides, .int v_o_wrongMany, .int v_o_restMany, .int v_o_restFirst, .ref a_o_gains, .ref a_o_value])), (a_o_text, .inl (cI, 48, .inl f_o_text)), (a_o_worth, .inl (cI, 3, .inl f_o_worth)), (a_o_readHouse, .inl (cI, 6, .inl f_o_readHouse)), (a_o_readChild, .inl (cI, 18, .inl f_o_readChild)), (a_o_page, .inl (cI, 33, .inl (upd f_o_page ((x1).toNatClampNeg) (0 : Int32)))), (a_o_isKept, .inl (cZ, 2, .inl f_o_isKept))] := hD
        refine lv_iinc (v := (x1 + (1 : Int32))) (lv' := [(1, .int (x1 + (1 : Int32))), (0, .ref a_o)]) hx hb dX6_town_40 hl (k := 1) rfl rfl (by decide) rfl (fun ls hl => ?_)
        refine lv_goto (tgt := 27) hx hb dX6_town_43 (by decide) ?_
        exact ih_27 v_o_thrown v_o_place v_o_houses v_o_readHouses v_o_readChildren v_o_acts f_o_worth f_o_readHouse f_o_readChild (upd f_o_page ((x1).toNatClampNeg) (0 : Int32)) f_o_isKept (x1 + (1 : Int32)) H locs ls hP hD hS (lv_sub hl [1, 0] rfl) hf
  unfold f_X6_town at hf
  refine lv_aload_n hx hb dX6_town_0 rfl (lv_at hl 0 rfl) ?_
  refine lv_iconst (v := (0 : Int32)) hx hb dX6_town_1 (by decide) ?_
  refine va_put (D := (dC, dI)) (ci := 6) (v := .int (0 : Int32)) (ty := .int) (C := RX6) (T := TX6) (N := 32) hx hb hts in_X6_town_X6 tyX6 tyX6_ok nmX6 hown hK hP hD hS 0 rfl rfl 0 (by decide) hk53 (fun _ h9 => h9) rfl (by decide +kernel) rfl rfl (Nat.le_of_ble_eq_true rfl) dX6_town_2 (fun H locs hP hD hS => ?_)
  have hP : va_P (dC, dI) vwCl [(a_o, .inr (6, [.int (0 : Int32), .ref a_o_text, .int v_o_textSize, .int v_o_place, .int v_o_houses, .ref a_o_worth, .int v_o_readHouses, .ref a_o_readHouse, .int v_o_readChildren, .ref a_o_readChild, .ref a_o_page, .ref a_o_trial, .ref a_o_book, .int v_o_acts, .ref a_o_kept, .ref a_o_isKept, .int v_o_seen, .ref a_o_seenHouse, .ref a_o_seenChild, .ref a_o_seenLived, .long v_o_seed, .int v_o_rollMost, .int v_o_rollSet, .int v_o_sideMany, .int v_o_sideOne, .int v_o_sideNone, .int v_o_wrongSides, .int v_o_wrongMany, .int v_o_restMany, .int v_o_restFirst, .ref a_o_gains, .ref a_o_value])), (a_o_text, .inl (cI, 48, .inl f_o_text)), (a_o_worth, .inl (cI, 3, .inl f_o_worth)), (a_o_readHouse, .inl (cI, 6, .inl f_o_readHouse)), (a_o_readChild, .inl (cI, 18, .inl f_o_readChild)), (a_o_page, .inl (cI, 33, .inl f_o_page)), (a_o_isKept, .inl (cZ, 2, .inl f_o_isKept))] H := hP
  have hD : va_D A [(a_o, .inr (6, [.int (0 : Int32), .ref a_o_text, .int v_o_textSize, .int v_o_place, .int v_o_houses, .ref a_o_worth, .int v_o_readHouses, .ref a_o_readHouse, .int v_o_readChildren, .ref a_o_readChild, .ref a_o_page, .ref a_o_trial, .ref a_o_book, .int v_o_acts, .ref a_o_kept, .ref a_o_isKept, .int v_o_seen, .ref a_o_seenHouse, .ref a_o_seenChild, .ref a_o_seenLived, .long v_o_seed, .int v_o_rollMost, .int v_o_rollSet, .int v_o_sideMany, .int v_o_sideOne, .int v_o_sideNone, .int v_o_wrongSides, .int v_o_wrongMany, .int v_o_restMany, .int v_o_restFirst, .ref a_o_gains, .ref a_o_value])), (a_o_text, .inl (cI, 48, .inl f_o_text)), (a_o_worth, .inl (cI, 3, .inl f_o_worth)), (a_o_readHouse, .inl (cI, 6, .inl f_o_readHouse)), (a_o_readChild, .inl (cI, 18, .inl f_o_readChild)), (a_o_page, .inl (cI, 33, .inl f_o_page)), (a_o_isKept, .inl (cZ, 2, .inl f_o_isKept))] := hD
  refine lv_aload_n hx hb dX6_town_5 rfl (lv_at hl 0 rfl) ?_
  obtain ⟨u14, hu14, hf⟩ := kb1_e hf
  refine kc_i (wn := [(a_o, .inr (6, [.int (0 : Int32), .ref a_o_text, .int v_o_textSize, .int u14.2.1, .int v_o_houses, .ref a_o_worth, .int u14.2.2.1, .ref a_o_readHouse, .int u14.2.2.2.1, .ref a_o_readChild, .ref a_o_page, .ref a_o_trial, .ref a_o_book, .int v_o_acts, .ref a_o_kept, .ref a_o_isKept, .int v_o_seen, .ref a_o_seenHouse, .ref a_o_seenChild, .ref a_o_seenLived, .long v_o_seed, .int v_o_rollMost, .int v_o_rollSet, .int v_o_sideMany, .int v_o_sideOne, .int v_o_sideNone, .int v_o_wrongSides, .int v_o_wrongMany, .int v_o_restMany, .int v_o_restFirst, .ref a_o_gains, .ref a_o_value])), (a_o_text, .inl (cI, 48, .inl f_o_text)), (a_o_worth, .inl (cI, 3, .inl f_o_worth)), (a_o_readHouse, .inl (cI, 6, .inl u14.2.2.2.2.1)), (a_o_readChild, .inl (cI, 18, .inl u14.2.2.2.2.2)), (a_o_page, .inl (cI, 33, .inl f_o_page)), (a_o_isKept, .inl (cZ, 2, .inl f_o_isKept))]) (wr := [(a_o_worth, .inl (cI, 3, .inl f_o_worth)), (a_o_page, .inl (cI, 33, .inl f_o_page)), (a_o_isKept, .inl (cZ, 2, .inl f_o_isKept))]) (kr_V (As := []) (rest := []) ⟨hx, hb, hml, hown, hts⟩ hK hN hP hD hl.1 (c_X6_readTown l dC dI cI cZ a_o a_o_text a_o_worth a_o_readHouse a_o_readChild a_o_page a_o_trial a_o_book a_o_kept a_o_isKept a_o_seenHouse a_o_seenChild a_o_seenLived a_o_gains a_o_value (0 : Int32) v_o_textSize v_o_place v_o_houses v_o_readHouses v_o_readChildren v_o_acts v_o_seen v_o_seed v_o_rollMost v_o_rollSet v_o_sideMany v_o_sideOne v_o_sideNone v_o_wrongSides v_o_wrongMany v_o_restMany v_o_restFirst f_o_text f_o_readHouse f_o_readChild u14 hu14 H.size) sg_X6_readTown ⟨rfl, rfl⟩ ⟨Nat.le_of_ble_eq_true rfl, Nat.le_of_ble_eq_true rfl⟩ gX6_town_X6_readTown 0 rfl rfl rfl [0, 1, 3, 4] (by decide +kernel) rfl rfl rfl (Nat.le_of_ble_eq_true rfl) dX6_town_6 ⟨Nat.zero_le _, Nat.zero_le _⟩) hA hP hD hS [0, 1, 3, 4] [2, 5, 6] 7 rfl rfl rfl rfl rfl (by decide +kernel) (by decide +kernel) rfl (fun H locs hP hD hS => ?_)
  refine lv_bipush (v := (-9 : Int32)) hx hb dX6_town_9 (by decide) ?_
  refine lv_icmp_eq (tgt := 17) hx hb dX6_town_11 (by decide) (fun c15 => ?_) (fun c15 => ?_)
  · replace hf := kt c15 hf
    refine lv_aload_n hx hb dX6_town_17 rfl (lv_at hl 0 rfl) ?_
    refine lv_aload_n hx hb dX6_town_18 rfl (lv_at hl 0 rfl) ?_
    refine va_get (D := (dC, dI)) (ci := 6) (v := .int u14.2.2.1) (C := RX6) (T := TX6) (N := 32) hx hb hts in_X6_town_X6 hown hK hP 0 rfl rfl 6 (by decide) hk76 (fun _ h9 => h9) rfl dX6_town_19 ?_
    refine va_put (D := (dC, dI)) (ci := 6) (v := .int u14.2.2.1) (ty := .int) (C := RX6) (T := TX6) (N := 32) hx hb hts in_X6_town_X6 tyX6 tyX6_ok nmX6 hown hK hP hD hS 0 rfl rfl 4 (by decide) hk57 (fun _ h9 => h9) rfl (by decide +kernel) rfl rfl (Nat.le_of_ble_eq_true rfl) dX6_town_22 (fun H locs hP hD hS => ?_)
    have hP : va_P (dC, dI) vwCl [(a_o, .inr (6, [.int (0 : Int32), .ref a_o_text, .int v_o_textSize, .int u14.2.1, .int u14.2.2.1, .ref a_o_worth, .int u14.2.2.1, .ref a_o_readHouse, .int u14.2.2.2.1, .ref a_o_readChild, .ref a_o_page, .ref a_o_trial, .ref a_o_book, .int v_o_acts, .ref a_o_kept, .ref a_o_isKept, .int v_o_seen, .ref a_o_seenHouse, .ref a_o_seenChild, .ref a_o_seenLived, .long v_o_seed, .int v_o_rollMost, .int v_o_rollSet, .int v_o_sideMany, .int v_o_sideOne, .int v_o_sideNone, .int v_o_wrongSides, .int v_o_wrongMany, .int v_o_restMany, .int v_o_restFirst, .ref a_o_gains, .ref a_o_value])), (a_o_text, .inl (cI, 48, .inl f_o_text)), (a_o_worth, .inl (cI, 3, .inl f_o_worth)), (a_o_readHouse, .inl (cI, 6, .inl u14.2.2.2.2.1)), (a_o_readChild, .inl (cI, 18, .inl u14.2.2.2.2.2)), (a_o_page, .inl (cI, 33, .inl f_o_page)), (a_o_isKept, .inl (cZ, 2, .inl f_o_isKept))] H := hP
    have hD : va_D A [(a_o, .inr (6, [.int (0 : Int32), .ref a_o_text, .int v_o_textSize, .int u14.2.1, .int u14.2.2.1, .ref a_o_worth, .int u14.2.2.1, .ref a_o_readHouse, .int u14.2.2.2.1, .ref a_o_readChild, .ref a_o_page, .ref a_o_trial, .ref a_o_book, .int v_o_acts, .ref a_o_kept, .ref a_o_isKept, .int v_o_seen, .ref a_o_seenHouse, .ref a_o_seenChild, .ref a_o_seenLived, .long v_o_seed, .int v_o_rollMost, .int v_o_rollSet, .int v_o_sideMany, .int v_o_sideOne, .int v_o_sideNone, .int v_o_wrongSides, .int v_o_wrongMany, .int v_o_restMany, .int v_o_restFirst, .ref a_o_gains, .ref a_o_value])), (a_o_text, .inl (cI, 48, .inl f_o_text)), (a_o_worth, .inl (cI, 3, .inl f_o_worth)), (a_o_readHouse, .inl (cI, 6, .inl u14.2.2.2.2.1)), (a_o_readChild, .inl (cI, 18, .inl u14.2.2.2.2.2)), (a_o_page, .inl (cI, 33, .inl f_o_page)), (a_o_isKept, .inl (cZ, 2, .inl f_o_isKept))] := hD
    refine lv_iconst (v := (0 : Int32)) hx hb dX6_town_25 (by decide) ?_
    refine lv_istore_n (lv' := [(1, .int (0 : Int32)), (0, .ref a_o)]) hx hb dX6_town_26 rfl hl (by decide) rfl (fun ls hl => ?_)
    exact J_27 1000 (0 : Int32) u14.2.1 u14.2.2.1 u14.2.2.1 u14.2.2.2.1 v_o_acts f_o_worth u14.2.2.2.2.1 u14.2.2.2.2.2 f_o_page f_o_isKept (0 : Int32) H locs ls hP hD hS (lv_sub hl [1, 0] rfl) hf
  · replace hf := kf c15 hf
    refine lv_bipush (v := (-3 : Int32)) hx hb dX6_town_14 (by decide) ?_
    cases hf
    exact hend _ _ _ _ dX6_town_16 rfl hP hS
theorem sg_X6_isOlder : kSig yX6_isOlder wsX6_isOlder cX6_isOlder 5 (some .boolean) RX6 3 := ⟨⟨_, rfl⟩, rfl, by decide, by decide +kernel, by decide +kernel, by decide +kernel⟩
abbrev rm_X6_isOlder : Room := { frames := 0, cells := 0, slots := 0, locals := 0 }
set_option maxHeartbeats 4000000 in
set_option maxRecDepth 100000 in
theorem c_X6_isOlder (l : Launch) (dC : Nat → ClassId) (dI : Nat → Nat → Nat) (cI cZ : ClassId) (a_p0 : Nat) (f_p0 : Nat → Int32) (x1 : Int32) (x2 : Int32) (u : Int32) (hf : f_X6_isOlder f_p0 x1 x2 = some u) : kMi l yX6_isOlder wsX6_isOlder rm_X6_isOlder (dC, dI) (kTy cI cZ) [.ref a_p0, .int x1, .int x2] [(a_p0, .inl (cI, 33, .inl f_p0))] [(a_p0, .inl (cI, 33, .inl f_p0))] u := by
  refine kMi_of sg_X6_isOlder ⟨rfl, rfl⟩ (Nat.le_of_ble_eq_true rfl) ?_
  intro p e s m args below meth c A H0 Q hx hb hml hown hts hK hN hA hend H locs ls hP hD hS hl
  have hl : lv_has ls 5 [(0, .ref a_p0), (1, .int x1), (2, .int x2)] := hl
  have J_63 : ∀ (x3 : Int32) (t0 : Int32) (H : Heap) (locs : List Loc) (ls : Array Slot), va_P (dC, dI) vwCl [(a_p0, .inl (cI, 33, .inl f_p0))] H → va_D A [(a_p0, .inl (cI, 33, .inl f_p0))] → va_S A H0 H locs → lv_has ls 5 [(0, .ref a_p0), (1, .int x1), (2, .int x2), (3, .int x3)] → f_X6_isOlder_63 f_p0 x1 x2 x3 t0 = some u → W p l e rm_X6_isOlder s m args below meth c H locs 0 0 Q (F0 m 63 ls [.int t0]) := by
    intro x3 t0 H locs ls hP hD hS hl hf
    unfold f_X6_isOlder_63 at hf
    refine lv_istore (lv' := [(4, .int t0), (0, .ref a_p0), (1, .int x1), (2, .int x2), (3, .int x3)]) hx hb dX6_isOlder_63 hl (by decide) rfl (fun ls hl => ?_)
    refine lv_iload_n hx hb dX6_isOlder_65 rfl (lv_at hl 4 rfl) ?_
    refine lv_iload hx hb dX6_isOlder_66 (lv_at hl 0 rfl) ?_
    refine lv_icmp_ne (tgt := 84) hx hb dX6_isOlder_68 (by decide) (fun c1 => ?_) (fun c1 => ?_)
    · replace hf := kf c1 hf
      refine lv_iload_n hx hb dX6_isOlder_84 rfl (lv_at hl 4 rfl) ?_
      obtain ⟨hg2, hf⟩ := kg_e hf
      cases hf
      exact hend _ _ _ _ dX6_isOlder_85 (kbo_e hg2) hP hS
    · replace hf := kt c1 hf
      refine lv_iload_n hx hb dX6_isOlder_71 rfl (lv_at hl 2 rfl) ?_
      refine lv_iload_n hx hb dX6_isOlder_72 rfl (lv_at hl 3 rfl) ?_
      refine lv_icmp_ge (tgt := 80) hx hb dX6_isOlder_73 (by decide) (fun c3 => ?_) (fun c3 => ?_)
      · replace hf := kt c3 hf
        refine lv_iconst (v := (0 : Int32)) hx hb dX6_isOlder_80 (by decide) ?_
        refine lv_goto (tgt := 85) hx hb dX6_isOlder_81 (by decide) ?_
        cases hf
        exact hend _ _ _ _ dX6_isOlder_85 rfl hP hS
      · replace hf := kf c3 hf
        refine lv_iconst (v := (1 : Int32)) hx hb dX6_isOlder_76 (by decide) ?_
        refine lv_goto (tgt := 85) hx hb dX6_isOlder_77 (by decide) ?_
        cases hf
        exact hend _ _ _ _ dX6_isOlder_85 rfl hP hS
  have J_47 : ∀ (t0 : Int32) (H : Heap) (locs : List Loc) (ls : Array Slot), va_P (dC, dI) vwCl [(a_p0, .inl (cI, 33, .inl f_p0))] H → va_D A [(a_p0, .inl (cI, 33, .inl f_p0))] → va_S A H0 H locs → lv_has ls 5 [(0, .ref a_p0), (1, .int x1), (2, .int x2)] → f_X6_isOlder_47 f_p0 x1 x2 t0 = some u → W p l e rm_X6_isOlder s m args below meth c H locs 0 0 Q (F0 m 47 ls [.int t0]) := by
    intro t0 H locs ls hP hD hS hl hf
    unfold f_X6_isOlder_47 at hf
    refine lv_istore_n (lv' := [(3, .int t0), (0, .ref a_p0), (1, .int x1), (2, .int x2)]) hx hb dX6_isOlder_47 rfl hl (by decide) rfl (fun ls hl => ?_)
    refine lv_aload_n hx hb dX6_isOlder_48 rfl (lv_at hl 1 rfl) ?_
    refine lv_bipush (v := (26 : Int32)) hx hb dX6_isOlder_49 (by decide) ?_
    refine lv_iload_n hx hb dX6_isOlder_51 rfl (lv_at hl 3 rfl) ?_
    refine lv_iadd hx hb dX6_isOlder_52 ?_
    obtain ⟨hg4, hf⟩ := kg_e hf
    refine ka_ild (k := (((26 : Int32) + x2)).toNatClampNeg) hx hb hK hP 0 0 rfl rfl (kin_e hg4) rfl dX6_isOlder_53 ?_
    refine lv_iconst (v := (1 : Int32)) hx hb dX6_isOlder_54 (by decide) ?_
    refine lv_icmp_ne (tgt := 62) hx hb dX6_isOlder_55 (by decide) (fun c5 => ?_) (fun c5 => ?_)
    · replace hf := kf c5 hf
      refine lv_iconst (v := (0 : Int32)) hx hb dX6_isOlder_62 (by decide) ?_
      exact J_63 t0 (0 : Int32) H locs ls hP hD hS (lv_sub hl [1, 2, 3, 0] rfl) hf
    · replace hf := kt c5 hf
      refine lv_iconst (v := (1 : Int32)) hx hb dX6_isOlder_58 (by decide) ?_
      refine lv_goto (tgt := 63) hx hb dX6_isOlder_59 (by decide) ?_
      exact J_63 t0 (1 : Int32) H locs ls hP hD hS (lv_sub hl [1, 2, 3, 0] rfl) hf
  unfold f_X6_isOlder at hf
  refine lv_aload_n hx hb dX6_isOlder_0 rfl (lv_at hl 0 rfl) ?_
  refine lv_iconst (v := (0 : Int32)) hx hb dX6_isOlder_1 (by decide) ?_
  refine lv_iload_n hx hb dX6_isOlder_2 rfl (lv_at hl 1 rfl) ?_
  refine lv_iadd hx hb dX6_isOlder_3 ?_
  obtain ⟨hg6, hf⟩ := kg_e hf
  refine ka_ild (k := (((0 : Int32) + x1)).toNatClampNeg) hx hb hK hP 0 0 rfl rfl (kin_e hg6) rfl dX6_isOlder_4 ?_
  refine lv_aload_n hx hb dX6_isOlder_5 rfl (lv_at hl 0 rfl) ?_
  refine lv_iconst (v := (0 : Int32)) hx hb dX6_isOlder_6 (by decide) ?_
  refine lv_iload_n hx hb dX6_isOlder_7 rfl (lv_at hl 2 rfl) ?_
  refine lv_iadd hx hb dX6_isOlder_8 ?_
  obtain ⟨hg7, hf⟩ := kg_e hf
  refine ka_ild (k := (((0 : Int32) + x2)).toNatClampNeg) hx hb hK hP 0 0 rfl rfl (kin_e hg7) rfl dX6_isOlder_9 ?_
  refine lv_icmp_eq (tgt := 32) hx hb dX6_isOlder_10 (by decide) (fun c8 => ?_) (fun c8 => ?_)
  · replace hf := kt c8 hf
    refine lv_aload_n hx hb dX6_isOlder_32 rfl (lv_at hl 0 rfl) ?_
    refine lv_bipush (v := (26 : Int32)) hx hb dX6_isOlder_33 (by decide) ?_
    refine lv_iload_n hx hb dX6_isOlder_35 rfl (lv_at hl 1 rfl) ?_
    refine lv_iadd hx hb dX6_isOlder_36 ?_
    obtain ⟨hg9, hf⟩ := kg_e hf
    refine ka_ild (k := (((26 : Int32) + x1)).toNatClampNeg) hx hb hK hP 0 0 rfl rfl (kin_e hg9) rfl dX6_isOlder_37 ?_
    refine lv_iconst (v := (1 : Int32)) hx hb dX6_isOlder_38 (by decide) ?_
    refine lv_icmp_ne (tgt := 46) hx hb dX6_isOlder_39 (by decide) (fun c10 => ?_) (fun c10 => ?_)
    · replace hf := kf c10 hf
      refine lv_iconst (v := (0 : Int32)) hx hb dX6_isOlder_46 (by decide) ?_
      exact J_47 (0 : Int32) H locs ls hP hD hS (lv_sub hl [0, 1, 2] rfl) hf
    · replace hf := kt c10 hf
      refine lv_iconst (v := (1 : Int32)) hx hb dX6_isOlder_42 (by decide) ?_
      refine lv_goto (tgt := 47) hx hb dX6_isOlder_43 (by decide) ?_
      exact J_47 (1 : Int32) H locs ls hP hD hS (lv_sub hl [0, 1, 2] rfl) hf
  · replace hf := kf c8 hf
    refine lv_aload_n hx hb dX6_isOlder_13 rfl (lv_at hl 0 rfl) ?_
    refine lv_iconst (v := (0 : Int32)) hx hb dX6_isOlder_14 (by decide) ?_
    refine lv_iload_n hx hb dX6_isOlder_15 rfl (lv_at hl 1 rfl) ?_
    refine lv_iadd hx hb dX6_isOlder_16 ?_
    obtain ⟨hg11, hf⟩ := kg_e hf
    refine ka_ild (k := (((0 : Int32) + x1)).toNatClampNeg) hx hb hK hP 0 0 rfl rfl (kin_e hg11) rfl dX6_isOlder_17 ?_
    refine lv_aload_n hx hb dX6_isOlder_18 rfl (lv_at hl 0 rfl) ?_
    refine lv_iconst (v := (0 : Int32)) hx hb dX6_isOlder_19 (by decide) ?_
    refine lv_iload_n hx hb dX6_isOlder_20 rfl (lv_at hl 2 rfl) ?_
    refine lv_iadd hx hb dX6_isOlder_21 ?_
    obtain ⟨hg12, hf⟩ := kg_e hf
    refine ka_ild (k := (((0 : Int32) + x2)).toNatClampNeg) hx hb hK hP 0 0 rfl rfl (kin_e hg12) rfl dX6_isOlder_22 ?_
    refine lv_icmp_le (tgt := 30) hx hb dX6_isOlder_23 (by decide) (fun c13 => ?_) (fun c13 => ?_)
    · replace hf := kt c13 hf
      refine lv_iconst (v := (0 : Int32)) hx hb dX6_isOlder_30 (by decide) ?_
      cases hf
      exact hend _ _ _ _ dX6_isOlder_31 rfl hP hS
    · replace hf := kf c13 hf
      refine lv_iconst (v := (1 : Int32)) hx hb dX6_isOlder_26 (by decide) ?_
      refine lv_goto (tgt := 31) hx hb dX6_isOlder_27 (by decide) ?_
      cases hf
      exact hend _ _ _ _ dX6_isOlder_31 rfl hP hS
theorem sg_X6_firstOf : kSig yX6_firstOf wsX6_firstOf cX6_firstOf 5 (some .int) RX6 3 := ⟨⟨_, rfl⟩, rfl, by decide, by decide +kernel, by decide +kernel, by decide +kernel⟩
abbrev rm_X6_firstOf : Room := { frames := 1, cells := 0, slots := 0, locals := 24 }
set_option maxHeartbeats 4000000 in
set_option maxRecDepth 100000 in
theorem c_X6_firstOf (l : Launch) (dC : Nat → ClassId) (dI : Nat → Nat → Nat) (cI cZ : ClassId) (a_p0 : Nat) (f_p0 : Nat → Int32) (x1 : Int32) (x2 : Int32) (u : Int32) (hf : f_X6_firstOf f_p0 x1 x2 = some u) : kMi l yX6_firstOf wsX6_firstOf rm_X6_firstOf (dC, dI) (kTy cI cZ) [.ref a_p0, .int x1, .int x2] [(a_p0, .inl (cI, 33, .inl f_p0))] [(a_p0, .inl (cI, 33, .inl f_p0))] u := by
  refine kMi_of sg_X6_firstOf ⟨rfl, rfl⟩ (Nat.le_of_ble_eq_true rfl) ?_
  intro p e s m args below meth c A H0 Q hx hb hml hown hts hK hN hA hend H locs ls hP hD hS hl
  have hl : lv_has ls 5 [(0, .ref a_p0), (1, .int x1), (2, .int x2)] := hl
  have J_6 : ∀ (n_6 : Nat), ∀ (x3 : Int32) (x4 : Int32) (H : Heap) (locs : List Loc) (ls : Array Slot), va_P (dC, dI) vwCl [(a_p0, .inl (cI, 33, .inl f_p0))] H → va_D A [(a_p0, .inl (cI, 33, .inl f_p0))] → va_S A H0 H locs → lv_has ls 5 [(0, .ref a_p0), (1, .int x1), (2, .int x2), (3, .int x3), (4, .int x4)] → f_X6_firstOf_6 f_p0 x1 x2 n_6 x3 x4 = some u → W p l e rm_X6_firstOf s m args below meth c H locs 0 0 Q (F0 m 6 ls []) := by
    intro n_6
    induction n_6 with
    | zero => intro x3 x4 H locs ls hP hD hS hl hf; exact nomatch hf
    | succ n_6 ih_6 =>
      intro x3 x4 H locs ls hP hD hS hl hf
      have hf : f_X6_firstOf_6_b f_p0 x1 x2 (f_X6_firstOf_6 f_p0 x1 x2 n_6) x3 x4 = some u := hf
      unfold f_X6_firstOf_6_b at hf
      refine lv_iload hx hb dX6_firstOf_6 (lv_at hl 4 rfl) ?_
      refine lv_bipush (v := (7 : Int32)) hx hb dX6_firstOf_8 (by decide) ?_
      refine lv_icmp_ge (tgt := 52) hx hb dX6_firstOf_10 (by decide) (fun c1 => ?_) (fun c1 => ?_)
      · replace hf := kt c1 hf
        refine lv_iload_n hx hb dX6_firstOf_52 rfl (lv_at hl 3 rfl) ?_
        refine lv_bipush (v := (-9 : Int32)) hx hb dX6_firstOf_53 (by decide) ?_
        refine lv_icmp_ne (tgt := 62) hx hb dX6_firstOf_55 (by decide) (fun c2 => ?_) (fun c2 => ?_)
        · replace hf := kf c2 hf
          refine lv_iconst (v := (1 : Int32)) hx hb dX6_firstOf_62 (by decide) ?_
          refine lv_iload_n hx hb dX6_firstOf_63 rfl (lv_at hl 3 rfl) ?_
          refine lv_ishl hx hb dX6_firstOf_64 ?_
          cases hf
          exact hend _ _ _ _ dX6_firstOf_65 rfl hP hS
        · replace hf := kt c2 hf
          refine lv_iconst (v := (0 : Int32)) hx hb dX6_firstOf_58 (by decide) ?_
          refine lv_goto (tgt := 65) hx hb dX6_firstOf_59 (by decide) ?_
          cases hf
          exact hend _ _ _ _ dX6_firstOf_65 rfl hP hS
      · replace hf := kf c1 hf
        refine lv_iload_n hx hb dX6_firstOf_13 rfl (lv_at hl 1 rfl) ?_
        refine lv_iload hx hb dX6_firstOf_14 (lv_at hl 4 rfl) ?_
        obtain ⟨u3, hu3, hf⟩ := kb1_e hf
        refine kc_i (wn := [(a_p0, .inl (cI, 33, .inl f_p0))]) (wr := [(a_p0, .inl (cI, 33, .inl f_p0))]) (kr_T (As := [.int x1, .int x4]) (rest := []) ⟨hx, hb, hml, hown, hts⟩ hK hN hP hD hl.1 (c_X6_has l dC dI cI cZ x1 x4 u3 hu3 H.size) sg_X6_has ⟨rfl, rfl⟩ ⟨Nat.le_of_ble_eq_true rfl, Nat.le_of_ble_eq_true rfl⟩ gX6_firstOf_X6_has [] (by decide +kernel) rfl rfl rfl (Nat.le_of_ble_eq_true rfl) dX6_firstOf_16 ⟨Nat.zero_le _, Nat.zero_le _⟩) hA hP hD hS [] [0] 1 rfl rfl rfl rfl rfl (by decide +kernel) (by decide +kernel) rfl (fun H locs hP hD hS => ?_)
        refine lv_if_eq (tgt := 46) hx hb dX6_firstOf_19 (by decide) (fun c4 => ?_) (fun c4 => ?_)
        · replace hf := kt c4 hf
          refine lv_iinc (v := (x4 + (1 : Int32))) (lv' := [(4, .int (x4 + (1 : Int32))), (0, .ref a_p0), (1, .int x1), (2, .int x2), (3, .int x3)]) hx hb dX6_firstOf_46 hl (k := 4) rfl rfl (by decide) rfl (fun ls hl => ?_)
          refine lv_goto (tgt := 6) hx hb dX6_firstOf_49 (by decide) ?_
          exact ih_6 x3 (x4 + (1 : Int32)) H locs ls hP hD hS (lv_sub hl [1, 2, 3, 4, 0] rfl) hf
        · replace hf := kf c4 hf
          refine lv_iload_n hx hb dX6_firstOf_22 rfl (lv_at hl 3 rfl) ?_
          refine lv_bipush (v := (-9 : Int32)) hx hb dX6_firstOf_23 (by decide) ?_
          refine lv_icmp_eq (tgt := 39) hx hb dX6_firstOf_25 (by decide) (fun c5 => ?_) (fun c5 => ?_)
          · replace hf := kt c5 hf
            refine lv_iload hx hb dX6_firstOf_39 (lv_at hl 4 rfl) ?_
            refine lv_goto (tgt := 45) hx hb dX6_firstOf_41 (by decide) ?_
            refine lv_istore_n (lv' := [(3, .int x4), (0, .ref a_p0), (1, .int x1), (2, .int x2), (4, .int x4)]) hx hb dX6_firstOf_45 rfl hl (by decide) rfl (fun ls hl => ?_)
            refine lv_iinc (v := (x4 + (1 : Int32))) (lv' := [(4, .int (x4 + (1 : Int32))), (3, .int x4), (0, .ref a_p0), (1, .int x1), (2, .int x2)]) hx hb dX6_firstOf_46 hl (k := 4) rfl rfl (by decide) rfl (fun ls hl => ?_)
            refine lv_goto (tgt := 6) hx hb dX6_firstOf_49 (by decide) ?_
            exact ih_6 x4 (x4 + (1 : Int32)) H locs ls hP hD hS (lv_sub hl [2, 3, 4, 1, 0] rfl) hf
          · replace hf := kf c5 hf
            refine lv_aload_n hx hb dX6_firstOf_28 rfl (lv_at hl 0 rfl) ?_
            refine lv_iload hx hb dX6_firstOf_29 (lv_at hl 4 rfl) ?_
            refine lv_iload_n hx hb dX6_firstOf_31 rfl (lv_at hl 3 rfl) ?_
            obtain ⟨u6, hu6, hf⟩ := kb1_e hf
            refine kc_i (wn := [(a_p0, .inl (cI, 33, .inl f_p0))]) (wr := []) (kr_T (As := [.ref a_p0, .int x4, .int x3]) (rest := []) ⟨hx, hb, hml, hown, hts⟩ hK hN hP hD hl.1 (c_X6_isOlder l dC dI cI cZ a_p0 f_p0 x4 x3 u6 hu6 H.size) sg_X6_isOlder ⟨rfl, rfl⟩ ⟨Nat.le_of_ble_eq_true rfl, Nat.le_of_ble_eq_true rfl⟩ gX6_firstOf_X6_isOlder [0] (by decide +kernel) rfl rfl rfl (Nat.le_of_ble_eq_true rfl) dX6_firstOf_32 ⟨Nat.zero_le _, Nat.zero_le _⟩) hA hP hD hS [0] [] 1 rfl rfl rfl rfl rfl (by decide +kernel) (by decide +kernel) rfl (fun H locs hP hD hS => ?_)
            refine lv_iload_n hx hb dX6_firstOf_35 rfl (lv_at hl 2 rfl) ?_
            refine lv_icmp_eq (tgt := 44) hx hb dX6_firstOf_36 (by decide) (fun c7 => ?_) (fun c7 => ?_)
            · replace hf := kt c7 hf
              refine lv_iload_n hx hb dX6_firstOf_44 rfl (lv_at hl 3 rfl) ?_
              refine lv_istore_n (lv' := [(3, .int x3), (0, .ref a_p0), (1, .int x1), (2, .int x2), (4, .int x4)]) hx hb dX6_firstOf_45 rfl hl (by decide) rfl (fun ls hl => ?_)
              refine lv_iinc (v := (x4 + (1 : Int32))) (lv' := [(4, .int (x4 + (1 : Int32))), (3, .int x3), (0, .ref a_p0), (1, .int x1), (2, .int x2)]) hx hb dX6_firstOf_46 hl (k := 4) rfl rfl (by decide) rfl (fun ls hl => ?_)
              refine lv_goto (tgt := 6) hx hb dX6_firstOf_49 (by decide) ?_
              exact ih_6 x3 (x4 + (1 : Int32)) H locs ls hP hD hS (lv_sub hl [2, 3, 4, 1, 0] rfl) hf
            · replace hf := kf c7 hf
              refine lv_iload hx hb dX6_firstOf_39 (lv_at hl 4 rfl) ?_
              refine lv_goto (tgt := 45) hx hb dX6_firstOf_41 (by decide) ?_
              refine lv_istore_n (lv' := [(3, .int x4), (0, .ref a_p0), (1, .int x1), (2, .int x2), (4, .int x4)]) hx hb dX6_firstOf_45 rfl hl (by decide) rfl (fun ls hl => ?_)
              refine lv_iinc (v := (x4 + (1 : Int32))) (lv' := [(4, .int (x4 + (1 : Int32))), (3, .int x4), (0, .ref a_p0), (1, .int x1), (2, .int x2)]) hx hb dX6_firstOf_46 hl (k := 4) rfl rfl (by decide) rfl (fun ls hl => ?_)
              refine lv_goto (tgt := 6) hx hb dX6_firstOf_49 (by decide) ?_
              exact ih_6 x4 (x4 + (1 : Int32)) H locs ls hP hD hS (lv_sub hl [2, 3, 4, 1, 0] rfl) hf
  unfold f_X6_firstOf at hf
  refine lv_bipush (v := (-9 : Int32)) hx hb dX6_firstOf_0 (by decide) ?_
  refine lv_istore_n (lv' := [(3, .int (-9 : Int32)), (0, .ref a_p0), (1, .int x1), (2, .int x2)]) hx hb dX6_firstOf_2 rfl hl (by decide) rfl (fun ls hl => ?_)
  refine lv_iconst (v := (0 : Int32)) hx hb dX6_firstOf_3 (by decide) ?_
  refine lv_istore (lv' := [(4, .int (0 : Int32)), (3, .int (-9 : Int32)), (0, .ref a_p0), (1, .int x1), (2, .int x2)]) hx hb dX6_firstOf_4 hl (by decide) rfl (fun ls hl => ?_)
  exact J_6 1000 (-9 : Int32) (0 : Int32) H locs ls hP hD hS (lv_sub hl [2, 3, 4, 1, 0] rfl) hf
theorem sg_X6_heirsOf : kSig yX6_heirsOf wsX6_heirsOf cX6_heirsOf 9 (some .int) RX6 4 := ⟨⟨_, rfl⟩, rfl, by decide, by decide +kernel, by decide +kernel, by decide +kernel⟩
abbrev rm_X6_heirsOf : Room := { frames := 2, cells := 0, slots := 0, locals := 48 }
set_option maxHeartbeats 4000000 in
set_option maxRecDepth 100000 in
theorem c_X6_heirsOf (l : Launch) (dC : Nat → ClassId) (dI : Nat → Nat → Nat) (cI cZ : ClassId) (a_p0 : Nat) (f_p0 : Nat → Int32) (x1 : Int32) (x2 : Int32) (x3 : Int32) (u : Int32) (hf : f_X6_heirsOf f_p0 x1 x2 x3 = some u) : kMi l yX6_heirsOf wsX6_heirsOf rm_X6_heirsOf (dC, dI) (kTy cI cZ) [.ref a_p0, .int x1, .int x2, .int x3] [(a_p0, .inl (cI, 33, .inl f_p0))] [(a_p0, .inl (cI, 33, .inl f_p0))] u := by
  refine kMi_of sg_X6_heirsOf ⟨rfl, rfl⟩ (Nat.le_of_ble_eq_true rfl) ?_
  intro p e s m args below meth c A H0 Q hx hb hml hown hts hK hN hA hend H locs ls hP hD hS hl
  have hl : lv_has ls 9 [(0, .ref a_p0), (1, .int x1), (2, .int x2), (3, .int x3)] := hl
  have J_141 : ∀ (t1 : Int32) (t2 : Int32) (H : Heap) (locs : List Loc) (ls : Array Slot), va_P (dC, dI) vwCl [(a_p0, .inl (cI, 33, .inl f_p0))] H → va_D A [(a_p0, .inl (cI, 33, .inl f_p0))] → va_S A H0 H locs → lv_has ls 9 [(0, .ref a_p0)] → f_X6_heirsOf_141 f_p0 x1 x2 x3 t1 t2 = some u → W p l e rm_X6_heirsOf s m args below meth c H locs 0 0 Q (F0 m 141 ls [.int t2, .int t1, .ref a_p0]) := by
    intro t1 t2 H locs ls hP hD hS hl hf
    unfold f_X6_heirsOf_141 at hf
    obtain ⟨u1, hu1, hf⟩ := kb1_e hf
    refine kc_i (wn := [(a_p0, .inl (cI, 33, .inl f_p0))]) (wr := []) (kr_T (As := [.ref a_p0, .int t1, .int t2]) (rest := []) ⟨hx, hb, hml, hown, hts⟩ hK hN hP hD hl.1 (c_X6_firstOf l dC dI cI cZ a_p0 f_p0 t1 t2 u1 hu1 H.size) sg_X6_firstOf ⟨rfl, rfl⟩ ⟨Nat.le_of_ble_eq_true rfl, Nat.le_of_ble_eq_true rfl⟩ gX6_heirsOf_X6_firstOf [0] (by decide +kernel) rfl rfl rfl (Nat.le_of_ble_eq_true rfl) dX6_heirsOf_141 ⟨Nat.zero_le _, Nat.zero_le _⟩) hA hP hD hS [0] [] 1 rfl rfl rfl rfl rfl (by decide +kernel) (by decide +kernel) rfl (fun H locs hP hD hS => ?_)
    cases hf
    exact hend _ _ _ _ dX6_heirsOf_144 rfl hP hS
  have J_12 : ∀ (n_12 : Nat), ∀ (x4 : Int32) (x5 : Int32) (x6 : Int32) (x7 : Int32) (H : Heap) (locs : List Loc) (ls : Array Slot), va_P (dC, dI) vwCl [(a_p0, .inl (cI, 33, .inl f_p0))] H → va_D A [(a_p0, .inl (cI, 33, .inl f_p0))] → va_S A H0 H locs → lv_has ls 9 [(0, .ref a_p0), (1, .int x1), (2, .int x2), (3, .int x3), (4, .int x4), (5, .int x5), (6, .int x6), (7, .int x7)] → f_X6_heirsOf_12 f_p0 x1 x2 x3 n_12 x4 x5 x6 x7 = some u → W p l e rm_X6_heirsOf s m args below meth c H locs 0 0 Q (F0 m 12 ls []) := by
    intro n_12
    induction n_12 with
    | zero => intro x4 x5 x6 x7 H locs ls hP hD hS hl hf; exact nomatch hf
    | succ n_12 ih_12 =>
      have J_114 : ∀ (x4 : Int32) (x5 : Int32) (x7 : Int32) (t0 : Int32) (t1 : Int32) (H : Heap) (locs : List Loc) (ls : Array Slot), va_P (dC, dI) vwCl [(a_p0, .inl (cI, 33, .inl f_p0))] H → va_D A [(a_p0, .inl (cI, 33, .inl f_p0))] → va_S A H0 H locs → lv_has ls 9 [(0, .ref a_p0), (1, .int x1), (2, .int x2), (3, .int x3), (4, .int x4), (5, .int x5), (7, .int x7)] → f_X6_heirsOf_114 f_p0 x1 x2 x3 (f_X6_heirsOf_12 f_p0 x1 x2 x3 n_12) x4 x5 x7 t0 t1 = some u → W p l e rm_X6_heirsOf s m args below meth c H locs 0 0 Q (F0 m 114 ls [.int t1, .int t0]) := by
        intro x4 x5 x7 t0 t1 H locs ls hP hD hS hl hf
        unfold f_X6_heirsOf_114 at hf
        refine lv_ior hx hb dX6_heirsOf_114 ?_
        refine lv_istore (lv' := [(6, .int (t0 ||| t1)), (0, .ref a_p0), (1, .int x1), (2, .int x2), (3, .int x3), (4, .int x4), (5, .int x5), (7, .int x7)]) hx hb dX6_heirsOf_115 hl (by decide) rfl (fun ls hl => ?_)
        refine lv_iinc (v := (x7 + (1 : Int32))) (lv' := [(7, .int (x7 + (1 : Int32))), (6, .int (t0 ||| t1)), (0, .ref a_p0), (1, .int x1), (2, .int x2), (3, .int x3), (4, .int x4), (5, .int x5)]) hx hb dX6_heirsOf_117 hl (k := 7) rfl rfl (by decide) rfl (fun ls hl => ?_)
        refine lv_goto (tgt := 12) hx hb dX6_heirsOf_120 (by decide) ?_
        exact ih_12 x4 x5 (t0 ||| t1) (x7 + (1 : Int32)) H locs ls hP hD hS (lv_sub hl [2, 3, 4, 5, 6, 7, 1, 0] rfl) hf
      have J_92 : ∀ (x4 : Int32) (x6 : Int32) (x7 : Int32) (x8 : Int32) (t0 : Int32) (t1 : Int32) (H : Heap) (locs : List Loc) (ls : Array Slot), va_P (dC, dI) vwCl [(a_p0, .inl (cI, 33, .inl f_p0))] H → va_D A [(a_p0, .inl (cI, 33, .inl f_p0))] → va_S A H0 H locs → lv_has ls 9 [(0, .ref a_p0), (1, .int x1), (2, .int x2), (3, .int x3), (4, .int x4), (6, .int x6), (7, .int x7), (8, .int x8)] → f_X6_heirsOf_92 f_p0 x1 x2 x3 (f_X6_heirsOf_12 f_p0 x1 x2 x3 n_12) x4 x6 x7 x8 t0 t1 = some u → W p l e rm_X6_heirsOf s m args below meth c H locs 0 0 Q (F0 m 92 ls [.int t1, .int t0]) := by
        intro x4 x6 x7 x8 t0 t1 H locs ls hP hD hS hl hf
        unfold f_X6_heirsOf_92 at hf
        refine lv_ior hx hb dX6_heirsOf_92 ?_
        refine lv_istore (lv' := [(5, .int (t0 ||| t1)), (0, .ref a_p0), (1, .int x1), (2, .int x2), (3, .int x3), (4, .int x4), (6, .int x6), (7, .int x7), (8, .int x8)]) hx hb dX6_heirsOf_93 hl (by decide) rfl (fun ls hl => ?_)
        refine lv_iload hx hb dX6_heirsOf_95 (lv_at hl 6 rfl) ?_
        refine lv_aload_n hx hb dX6_heirsOf_97 rfl (lv_at hl 1 rfl) ?_
        refine lv_bipush (v := (26 : Int32)) hx hb dX6_heirsOf_98 (by decide) ?_
        refine lv_iload hx hb dX6_heirsOf_100 (lv_at hl 7 rfl) ?_
        refine lv_iadd hx hb dX6_heirsOf_102 ?_
        obtain ⟨hg2, hf⟩ := kg_e hf
        refine ka_ild (k := (((26 : Int32) + x7)).toNatClampNeg) hx hb hK hP 0 0 rfl rfl (kin_e hg2) rfl dX6_heirsOf_103 ?_
        refine lv_iconst (v := (3 : Int32)) hx hb dX6_heirsOf_104 (by decide) ?_
        refine lv_icmp_ne (tgt := 113) hx hb dX6_heirsOf_105 (by decide) (fun c3 => ?_) (fun c3 => ?_)
        · replace hf := kf c3 hf
          refine lv_iconst (v := (0 : Int32)) hx hb dX6_heirsOf_113 (by decide) ?_
          exact J_114 x4 (t0 ||| t1) x7 x6 (0 : Int32) H locs ls hP hD hS (lv_sub hl [1, 2, 3, 4, 5, 0, 7] rfl) hf
        · replace hf := kt c3 hf
          refine lv_iload hx hb dX6_heirsOf_108 (lv_at hl 8 rfl) ?_
          refine lv_goto (tgt := 114) hx hb dX6_heirsOf_110 (by decide) ?_
          exact J_114 x4 (t0 ||| t1) x7 x6 x8 H locs ls hP hD hS (lv_sub hl [1, 2, 3, 4, 5, 0, 7] rfl) hf
      have J_70 : ∀ (x5 : Int32) (x6 : Int32) (x7 : Int32) (x8 : Int32) (t0 : Int32) (t1 : Int32) (H : Heap) (locs : List Loc) (ls : Array Slot), va_P (dC, dI) vwCl [(a_p0, .inl (cI, 33, .inl f_p0))] H → va_D A [(a_p0, .inl (cI, 33, .inl f_p0))] → va_S A H0 H locs → lv_has ls 9 [(0, .ref a_p0), (1, .int x1), (2, .int x2), (3, .int x3), (5, .int x5), (6, .int x6), (7, .int x7), (8, .int x8)] → f_X6_heirsOf_70 f_p0 x1 x2 x3 (f_X6_heirsOf_12 f_p0 x1 x2 x3 n_12) x5 x6 x7 x8 t0 t1 = some u → W p l e rm_X6_heirsOf s m args below meth c H locs 0 0 Q (F0 m 70 ls [.int t1, .int t0]) := by
        intro x5 x6 x7 x8 t0 t1 H locs ls hP hD hS hl hf
        unfold f_X6_heirsOf_70 at hf
        refine lv_ior hx hb dX6_heirsOf_70 ?_
        refine lv_istore (lv' := [(4, .int (t0 ||| t1)), (0, .ref a_p0), (1, .int x1), (2, .int x2), (3, .int x3), (5, .int x5), (6, .int x6), (7, .int x7), (8, .int x8)]) hx hb dX6_heirsOf_71 hl (by decide) rfl (fun ls hl => ?_)
        refine lv_iload hx hb dX6_heirsOf_73 (lv_at hl 5 rfl) ?_
        refine lv_aload_n hx hb dX6_heirsOf_75 rfl (lv_at hl 1 rfl) ?_
        refine lv_bipush (v := (26 : Int32)) hx hb dX6_heirsOf_76 (by decide) ?_
        refine lv_iload hx hb dX6_heirsOf_78 (lv_at hl 7 rfl) ?_
        refine lv_iadd hx hb dX6_heirsOf_80 ?_
        obtain ⟨hg4, hf⟩ := kg_e hf
        refine ka_ild (k := (((26 : Int32) + x7)).toNatClampNeg) hx hb hK hP 0 0 rfl rfl (kin_e hg4) rfl dX6_heirsOf_81 ?_
        refine lv_iconst (v := (2 : Int32)) hx hb dX6_heirsOf_82 (by decide) ?_
        refine lv_icmp_ne (tgt := 91) hx hb dX6_heirsOf_83 (by decide) (fun c5 => ?_) (fun c5 => ?_)
        · replace hf := kf c5 hf
          refine lv_iconst (v := (0 : Int32)) hx hb dX6_heirsOf_91 (by decide) ?_
          exact J_92 (t0 ||| t1) x6 x7 x8 x5 (0 : Int32) H locs ls hP hD hS (lv_sub hl [1, 2, 3, 4, 0, 6, 7, 8] rfl) hf
        · replace hf := kt c5 hf
          refine lv_iload hx hb dX6_heirsOf_86 (lv_at hl 8 rfl) ?_
          refine lv_goto (tgt := 92) hx hb dX6_heirsOf_88 (by decide) ?_
          exact J_92 (t0 ||| t1) x6 x7 x8 x5 x8 H locs ls hP hD hS (lv_sub hl [1, 2, 3, 4, 0, 6, 7, 8] rfl) hf
      have J_49 : ∀ (x4 : Int32) (x5 : Int32) (x6 : Int32) (x7 : Int32) (t0 : Int32) (H : Heap) (locs : List Loc) (ls : Array Slot), va_P (dC, dI) vwCl [(a_p0, .inl (cI, 33, .inl f_p0))] H → va_D A [(a_p0, .inl (cI, 33, .inl f_p0))] → va_S A H0 H locs → lv_has ls 9 [(0, .ref a_p0), (1, .int x1), (2, .int x2), (3, .int x3), (4, .int x4), (5, .int x5), (6, .int x6), (7, .int x7)] → f_X6_heirsOf_49 f_p0 x1 x2 x3 (f_X6_heirsOf_12 f_p0 x1 x2 x3 n_12) x4 x5 x6 x7 t0 = some u → W p l e rm_X6_heirsOf s m args below meth c H locs 0 0 Q (F0 m 49 ls [.int t0]) := by
        intro x4 x5 x6 x7 t0 H locs ls hP hD hS hl hf
        unfold f_X6_heirsOf_49 at hf
        refine lv_istore (lv' := [(8, .int t0), (0, .ref a_p0), (1, .int x1), (2, .int x2), (3, .int x3), (4, .int x4), (5, .int x5), (6, .int x6), (7, .int x7)]) hx hb dX6_heirsOf_49 hl (by decide) rfl (fun ls hl => ?_)
        refine lv_iload hx hb dX6_heirsOf_51 (lv_at hl 5 rfl) ?_
        refine lv_aload_n hx hb dX6_heirsOf_53 rfl (lv_at hl 1 rfl) ?_
        refine lv_bipush (v := (26 : Int32)) hx hb dX6_heirsOf_54 (by decide) ?_
        refine lv_iload hx hb dX6_heirsOf_56 (lv_at hl 8 rfl) ?_
        refine lv_iadd hx hb dX6_heirsOf_58 ?_
        obtain ⟨hg6, hf⟩ := kg_e hf
        refine ka_ild (k := (((26 : Int32) + x7)).toNatClampNeg) hx hb hK hP 0 0 rfl rfl (kin_e hg6) rfl dX6_heirsOf_59 ?_
        refine lv_iconst (v := (2 : Int32)) hx hb dX6_heirsOf_60 (by decide) ?_
        refine lv_icmp_ge (tgt := 69) hx hb dX6_heirsOf_61 (by decide) (fun c7 => ?_) (fun c7 => ?_)
        · replace hf := kt c7 hf
          refine lv_iconst (v := (0 : Int32)) hx hb dX6_heirsOf_69 (by decide) ?_
          exact J_70 x5 x6 x7 t0 x4 (0 : Int32) H locs ls hP hD hS (lv_sub hl [1, 2, 3, 4, 6, 7, 8, 0] rfl) hf
        · replace hf := kf c7 hf
          refine lv_iload hx hb dX6_heirsOf_64 (lv_at hl 0 rfl) ?_
          refine lv_goto (tgt := 70) hx hb dX6_heirsOf_66 (by decide) ?_
          exact J_70 x5 x6 x7 t0 x4 t0 H locs ls hP hD hS (lv_sub hl [1, 2, 3, 4, 6, 7, 8, 0] rfl) hf
      intro x4 x5 x6 x7 H locs ls hP hD hS hl hf
      have hf : f_X6_heirsOf_12_b f_p0 x1 x2 x3 (f_X6_heirsOf_12 f_p0 x1 x2 x3 n_12) x4 x5 x6 x7 = some u := hf
      unfold f_X6_heirsOf_12_b at hf
      refine lv_iload hx hb dX6_heirsOf_12 (lv_at hl 7 rfl) ?_
      refine lv_aload_n hx hb dX6_heirsOf_14 rfl (lv_at hl 0 rfl) ?_
      refine lv_bipush (v := (25 : Int32)) hx hb dX6_heirsOf_15 (by decide) ?_
      refine ka_ild (k := 25) hx hb hK hP 0 0 rfl rfl (kin_e (by decide)) rfl dX6_heirsOf_17 ?_
      refine lv_icmp_ge (tgt := 123) hx hb dX6_heirsOf_18 (by decide) (fun c8 => ?_) (fun c8 => ?_)
      · replace hf := kt c8 hf
        refine lv_iload hx hb dX6_heirsOf_123 (lv_at hl 4 rfl) ?_
        refine lv_if_eq (tgt := 145) hx hb dX6_heirsOf_125 (by decide) (fun c9 => ?_) (fun c9 => ?_)
        · replace hf := kt c9 hf
          refine lv_iload hx hb dX6_heirsOf_145 (lv_at hl 5 rfl) ?_
          refine lv_if_eq (tgt := 155) hx hb dX6_heirsOf_147 (by decide) (fun c10 => ?_) (fun c10 => ?_)
          · replace hf := kt c10 hf
            refine lv_aload_n hx hb dX6_heirsOf_155 rfl (lv_at hl 0 rfl) ?_
            refine lv_iload hx hb dX6_heirsOf_156 (lv_at hl 6 rfl) ?_
            refine lv_iconst (v := (0 : Int32)) hx hb dX6_heirsOf_158 (by decide) ?_
            obtain ⟨u11, hu11, hf⟩ := kb1_e hf
            refine kc_i (wn := [(a_p0, .inl (cI, 33, .inl f_p0))]) (wr := []) (kr_T (As := [.ref a_p0, .int x6, .int (0 : Int32)]) (rest := []) ⟨hx, hb, hml, hown, hts⟩ hK hN hP hD hl.1 (c_X6_firstOf l dC dI cI cZ a_p0 f_p0 x6 (0 : Int32) u11 hu11 H.size) sg_X6_firstOf ⟨rfl, rfl⟩ ⟨Nat.le_of_ble_eq_true rfl, Nat.le_of_ble_eq_true rfl⟩ gX6_heirsOf_X6_firstOf [0] (by decide +kernel) rfl rfl rfl (Nat.le_of_ble_eq_true rfl) dX6_heirsOf_159 ⟨Nat.zero_le _, Nat.zero_le _⟩) hA hP hD hS [0] [] 1 rfl rfl rfl rfl rfl (by decide +kernel) (by decide +kernel) rfl (fun H locs hP hD hS => ?_)
            cases hf
            exact hend _ _ _ _ dX6_heirsOf_162 rfl hP hS
          · replace hf := kf c10 hf
            refine lv_iload hx hb dX6_heirsOf_150 (lv_at hl 5 rfl) ?_
            refine lv_goto (tgt := 162) hx hb dX6_heirsOf_152 (by decide) ?_
            cases hf
            exact hend _ _ _ _ dX6_heirsOf_162 rfl hP hS
        · replace hf := kf c9 hf
          refine lv_aload_n hx hb dX6_heirsOf_128 rfl (lv_at hl 0 rfl) ?_
          refine lv_iload hx hb dX6_heirsOf_129 (lv_at hl 4 rfl) ?_
          refine lv_iload_n hx hb dX6_heirsOf_131 rfl (lv_at hl 2 rfl) ?_
          refine lv_iconst (v := (1 : Int32)) hx hb dX6_heirsOf_132 (by decide) ?_
          refine lv_icmp_ne (tgt := 140) hx hb dX6_heirsOf_133 (by decide) (fun c12 => ?_) (fun c12 => ?_)
          · replace hf := kf c12 hf
            refine lv_iconst (v := (0 : Int32)) hx hb dX6_heirsOf_140 (by decide) ?_
            exact J_141 x4 (0 : Int32) H locs ls hP hD hS (lv_sub hl [0] rfl) hf
          · replace hf := kt c12 hf
            refine lv_iconst (v := (1 : Int32)) hx hb dX6_heirsOf_136 (by decide) ?_
            refine lv_goto (tgt := 141) hx hb dX6_heirsOf_137 (by decide) ?_
            exact J_141 x4 (1 : Int32) H locs ls hP hD hS (lv_sub hl [0] rfl) hf
      · replace hf := kf c8 hf
        refine lv_iload_n hx hb dX6_heirsOf_21 rfl (lv_at hl 3 rfl) ?_
        refine lv_iload hx hb dX6_heirsOf_22 (lv_at hl 7 rfl) ?_
        obtain ⟨u13, hu13, hf⟩ := kb1_e hf
        refine kc_i (wn := [(a_p0, .inl (cI, 33, .inl f_p0))]) (wr := [(a_p0, .inl (cI, 33, .inl f_p0))]) (kr_T (As := [.int x3, .int x7]) (rest := []) ⟨hx, hb, hml, hown, hts⟩ hK hN hP hD hl.1 (c_X6_has l dC dI cI cZ x3 x7 u13 hu13 H.size) sg_X6_has ⟨rfl, rfl⟩ ⟨Nat.le_of_ble_eq_true rfl, Nat.le_of_ble_eq_true rfl⟩ gX6_heirsOf_X6_has [] (by decide +kernel) rfl rfl rfl (Nat.le_of_ble_eq_true rfl) dX6_heirsOf_24 ⟨Nat.zero_le _, Nat.zero_le _⟩) hA hP hD hS [] [0] 1 rfl rfl rfl rfl rfl (by decide +kernel) (by decide +kernel) rfl (fun H locs hP hD hS => ?_)
        refine lv_if_eq (tgt := 48) hx hb dX6_heirsOf_27 (by decide) (fun c14 => ?_) (fun c14 => ?_)
        · replace hf := kt c14 hf
          refine lv_iconst (v := (0 : Int32)) hx hb dX6_heirsOf_48 (by decide) ?_
          exact J_49 x4 x5 x6 x7 (0 : Int32) H locs ls hP hD hS (lv_sub hl [0, 1, 2, 3, 4, 5, 6, 7] rfl) hf
        · replace hf := kf c14 hf
          refine lv_aload_n hx hb dX6_heirsOf_30 rfl (lv_at hl 0 rfl) ?_
          refine lv_bipush (v := (7 : Int32)) hx hb dX6_heirsOf_31 (by decide) ?_
          refine lv_iload hx hb dX6_heirsOf_33 (lv_at hl 7 rfl) ?_
          refine lv_iadd hx hb dX6_heirsOf_35 ?_
          obtain ⟨hg15, hf⟩ := kg_e hf
          refine ka_ild (k := (((7 : Int32) + x7)).toNatClampNeg) hx hb hK hP 0 0 rfl rfl (kin_e hg15) rfl dX6_heirsOf_36 ?_
          refine lv_iload_n hx hb dX6_heirsOf_37 rfl (lv_at hl 1 rfl) ?_
          refine lv_icmp_ne (tgt := 48) hx hb dX6_heirsOf_38 (by decide) (fun c16 => ?_) (fun c16 => ?_)
          · replace hf := kf c16 hf
            refine lv_iconst (v := (0 : Int32)) hx hb dX6_heirsOf_48 (by decide) ?_
            exact J_49 x4 x5 x6 x7 (0 : Int32) H locs ls hP hD hS (lv_sub hl [0, 1, 2, 3, 4, 5, 6, 7] rfl) hf
          · replace hf := kt c16 hf
            refine lv_iconst (v := (1 : Int32)) hx hb dX6_heirsOf_41 (by decide) ?_
            refine lv_iload hx hb dX6_heirsOf_42 (lv_at hl 7 rfl) ?_
            refine lv_ishl hx hb dX6_heirsOf_44 ?_
            refine lv_goto (tgt := 49) hx hb dX6_heirsOf_45 (by decide) ?_
            exact J_49 x4 x5 x6 x7 ((1 : Int32) <<< (x7 &&& 31)) H locs ls hP hD hS (lv_sub hl [0, 1, 2, 3, 4, 5, 6, 7] rfl) hf
  unfold f_X6_heirsOf at hf
  refine lv_iconst (v := (0 : Int32)) hx hb dX6_heirsOf_0 (by decide) ?_
  refine lv_istore (lv' := [(4, .int (0 : Int32)), (0, .ref a_p0), (1, .int x1), (2, .int x2), (3, .int x3)]) hx hb dX6_heirsOf_1 hl (by decide) rfl (fun ls hl => ?_)
  refine lv_iconst (v := (0 : Int32)) hx hb dX6_heirsOf_3 (by decide) ?_
  refine lv_istore (lv' := [(5, .int (0 : Int32)), (4, .int (0 : Int32)), (0, .ref a_p0), (1, .int x1), (2, .int x2), (3, .int x3)]) hx hb dX6_heirsOf_4 hl (by decide) rfl (fun ls hl => ?_)
  refine lv_iconst (v := (0 : Int32)) hx hb dX6_heirsOf_6 (by decide) ?_
  refine lv_istore (lv' := [(6, .int (0 : Int32)), (5, .int (0 : Int32)), (4, .int (0 : Int32)), (0, .ref a_p0), (1, .int x1), (2, .int x2), (3, .int x3)]) hx hb dX6_heirsOf_7 hl (by decide) rfl (fun ls hl => ?_)
  refine lv_iconst (v := (0 : Int32)) hx hb dX6_heirsOf_9 (by decide) ?_
  refine lv_istore (lv' := [(7, .int (0 : Int32)), (6, .int (0 : Int32)), (5, .int (0 : Int32)), (4, .int (0 : Int32)), (0, .ref a_p0), (1, .int x1), (2, .int x2), (3, .int x3)]) hx hb dX6_heirsOf_10 hl (by decide) rfl (fun ls hl => ?_)
  exact J_12 1000 (0 : Int32) (0 : Int32) (0 : Int32) (0 : Int32) H locs ls hP hD hS (lv_sub hl [4, 5, 6, 7, 3, 2, 1, 0] rfl) hf
theorem sg_X6_heirsNow : kSig yX6_heirsNow wsX6_heirsNow cX6_heirsNow 2 (some .int) RX6 2 := ⟨⟨_, rfl⟩, rfl, by decide, by decide +kernel, by decide +kernel, by decide +kernel⟩
abbrev rm_X6_heirsNow : Room := { frames := 3, cells := 0, slots := 0, locals := 76 }
set_option maxHeartbeats 4000000 in
set_option maxRecDepth 100000 in
theorem c_X6_heirsNow (l : Launch) (dC : Nat → ClassId) (dI : Nat → Nat → Nat) (cI cZ : ClassId) (a_p0 : Nat) (f_p0 : Nat → Int32) (x1 : Int32) (u : Int32) (hf : f_X6_heirsNow f_p0 x1 = some u) : kMi l yX6_heirsNow wsX6_heirsNow rm_X6_heirsNow (dC, dI) (kTy cI cZ) [.ref a_p0, .int x1] [(a_p0, .inl (cI, 33, .inl f_p0))] [(a_p0, .inl (cI, 33, .inl f_p0))] u := by
  refine kMi_of sg_X6_heirsNow ⟨rfl, rfl⟩ (Nat.le_of_ble_eq_true rfl) ?_
  intro p e s m args below meth c A H0 Q hx hb hml hown hts hK hN hA hend H locs ls hP hD hS hl
  have hl : lv_has ls 2 [(0, .ref a_p0), (1, .int x1)] := hl
  unfold f_X6_heirsNow at hf
  refine lv_aload_n hx hb dX6_heirsNow_0 rfl (lv_at hl 0 rfl) ?_
  refine lv_iload_n hx hb dX6_heirsNow_1 rfl (lv_at hl 1 rfl) ?_
  refine lv_aload_n hx hb dX6_heirsNow_2 rfl (lv_at hl 0 rfl) ?_
  refine lv_bipush (v := (22 : Int32)) hx hb dX6_heirsNow_3 (by decide) ?_
  refine ka_ild (k := 22) hx hb hK hP 0 0 rfl rfl (kin_e (by decide)) rfl dX6_heirsNow_5 ?_
  refine lv_iload_n hx hb dX6_heirsNow_6 rfl (lv_at hl 1 rfl) ?_
  refine lv_ishr hx hb dX6_heirsNow_7 ?_
  refine lv_iconst (v := (1 : Int32)) hx hb dX6_heirsNow_8 (by decide) ?_
  refine lv_iand hx hb dX6_heirsNow_9 ?_
  refine lv_aload_n hx hb dX6_heirsNow_10 rfl (lv_at hl 0 rfl) ?_
  refine lv_bipush (v := (21 : Int32)) hx hb dX6_heirsNow_11 (by decide) ?_
  refine ka_ild (k := 21) hx hb hK hP 0 0 rfl rfl (kin_e (by decide)) rfl dX6_heirsNow_13 ?_
  obtain ⟨u1, hu1, hf⟩ := kb1_e hf
  refine kc_i (wn := [(a_p0, .inl (cI, 33, .inl f_p0))]) (wr := []) (kr_T (As := [.ref a_p0, .int x1, .int (((f_p0 22) >>> (x1 &&& 31)) &&& (1 : Int32)), .int (f_p0 21)]) (rest := []) ⟨hx, hb, hml, hown, hts⟩ hK hN hP hD hl.1 (c_X6_heirsOf l dC dI cI cZ a_p0 f_p0 x1 (((f_p0 22) >>> (x1 &&& 31)) &&& (1 : Int32)) (f_p0 21) u1 hu1 H.size) sg_X6_heirsOf ⟨rfl, rfl⟩ ⟨Nat.le_of_ble_eq_true rfl, Nat.le_of_ble_eq_true rfl⟩ gX6_heirsNow_X6_heirsOf [0] (by decide +kernel) rfl rfl rfl (Nat.le_of_ble_eq_true rfl) dX6_heirsNow_14 ⟨Nat.zero_le _, Nat.zero_le _⟩) hA hP hD hS [0] [] 1 rfl rfl rfl rfl rfl (by decide +kernel) (by decide +kernel) rfl (fun H locs hP hD hS => ?_)
  cases hf
  exact hend _ _ _ _ dX6_heirsNow_17 rfl hP hS
theorem sg_X6_about : kSig yX6_about wsX6_about cX6_about 2 (some .int) RX6 1 := ⟨⟨_, rfl⟩, rfl, by decide, by decide +kernel, by decide +kernel, by decide +kernel⟩
abbrev rm_X6_about : Room := { frames := 0, cells := 0, slots := 0, locals := 0 }
set_option maxRecDepth 20000 in
theorem in_X6_about_X6 : ∀ w ∈ u_ws RX6 TX6 32, w ∈ wsX6_about := by decide +kernel
set_option maxHeartbeats 4000000 in
set_option maxRecDepth 100000 in
theorem c_X6_about (l : Launch) (dC : Nat → ClassId) (dI : Nat → Nat → Nat) (cI cZ : ClassId) (a_o a_o_text a_o_worth a_o_readHouse a_o_readChild a_o_page a_o_trial a_o_book a_o_kept a_o_isKept a_o_seenHouse a_o_seenChild a_o_seenLived a_o_gains a_o_value : Nat) (v_o_thrown : Int32) (v_o_textSize : Int32) (v_o_place : Int32) (v_o_houses : Int32) (v_o_readHouses : Int32) (v_o_readChildren : Int32) (v_o_acts : Int32) (v_o_seen : Int32) (v_o_seed : Int64) (v_o_rollMost : Int32) (v_o_rollSet : Int32) (v_o_sideMany : Int32) (v_o_sideOne : Int32) (v_o_sideNone : Int32) (v_o_wrongSides : Int32) (v_o_wrongMany : Int32) (v_o_restMany : Int32) (v_o_restFirst : Int32) (f_o_page : Nat → Int32) (x1 : Int32) (u : Int32 × Int32) (hf : f_X6_about v_o_textSize v_o_houses v_o_acts v_o_seen f_o_page v_o_thrown x1 = some u) : kMi l yX6_about wsX6_about rm_X6_about (dC, dI) (kTy cI cZ) [.ref a_o, .int x1] [(a_o, .inr (6, [.int v_o_thrown, .ref a_o_text, .int v_o_textSize, .int v_o_place, .int v_o_houses, .ref a_o_worth, .int v_o_readHouses, .ref a_o_readHouse, .int v_o_readChildren, .ref a_o_readChild, .ref a_o_page, .ref a_o_trial, .ref a_o_book, .int v_o_acts, .ref a_o_kept, .ref a_o_isKept, .int v_o_seen, .ref a_o_seenHouse, .ref a_o_seenChild, .ref a_o_seenLived, .long v_o_seed, .int v_o_rollMost, .int v_o_rollSet, .int v_o_sideMany, .int v_o_sideOne, .int v_o_sideNone, .int v_o_wrongSides, .int v_o_wrongMany, .int v_o_restMany, .int v_o_restFirst, .ref a_o_gains, .ref a_o_value])), (a_o_page, .inl (cI, 33, .inl f_o_page))] [(a_o, .inr (6, [.int u.2, .ref a_o_text, .int v_o_textSize, .int v_o_place, .int v_o_houses, .ref a_o_worth, .int v_o_readHouses, .ref a_o_readHouse, .int v_o_readChildren, .ref a_o_readChild, .ref a_o_page, .ref a_o_trial, .ref a_o_book, .int v_o_acts, .ref a_o_kept, .ref a_o_isKept, .int v_o_seen, .ref a_o_seenHouse, .ref a_o_seenChild, .ref a_o_seenLived, .long v_o_seed, .int v_o_rollMost, .int v_o_rollSet, .int v_o_sideMany, .int v_o_sideOne, .int v_o_sideNone, .int v_o_wrongSides, .int v_o_wrongMany, .int v_o_restMany, .int v_o_restFirst, .ref a_o_gains, .ref a_o_value])), (a_o_page, .inl (cI, 33, .inl f_o_page))] u.1 := by
  refine kMi_of sg_X6_about ⟨rfl, rfl⟩ (Nat.le_of_ble_eq_true rfl) ?_
  intro p e s m args below meth c A H0 Q hx hb hml hown hts hK hN hA hend H locs ls hP hD hS hl
  have hl : lv_has ls 2 [(0, .ref a_o), (1, .int x1)] := hl
  have hk22 := hts (.fieldLink RX6 22 "YoungestHouseModel" "page" "[I") (by decide +kernel)
  have hk53 := hts (.fieldLink RX6 53 "YoungestHouseModel" "thrown" "I") (by decide +kernel)
  have hk57 := hts (.fieldLink RX6 57 "YoungestHouseModel" "houses" "I") (by decide +kernel)
  have hk66 := hts (.fieldLink RX6 66 "YoungestHouseModel" "textSize" "I") (by decide +kernel)
  have hk94 := hts (.fieldLink RX6 94 "YoungestHouseModel" "acts" "I") (by decide +kernel)
  have hk113 := hts (.fieldLink RX6 113 "YoungestHouseModel" "seen" "I") (by decide +kernel)
  unfold f_X6_about at hf
  refine lv_aload_n hx hb dX6_about_0 rfl (lv_at hl 0 rfl) ?_
  refine lv_iconst (v := (0 : Int32)) hx hb dX6_about_1 (by decide) ?_
  refine va_put (D := (dC, dI)) (ci := 6) (v := .int (0 : Int32)) (ty := .int) (C := RX6) (T := TX6) (N := 32) hx hb hts in_X6_about_X6 tyX6 tyX6_ok nmX6 hown hK hP hD hS 0 rfl rfl 0 (by decide) hk53 (fun _ h9 => h9) rfl (by decide +kernel) rfl rfl (Nat.le_of_ble_eq_true rfl) dX6_about_2 (fun H locs hP hD hS => ?_)
  have hP : va_P (dC, dI) vwCl [(a_o, .inr (6, [.int (0 : Int32), .ref a_o_text, .int v_o_textSize, .int v_o_place, .int v_o_houses, .ref a_o_worth, .int v_o_readHouses, .ref a_o_readHouse, .int v_o_readChildren, .ref a_o_readChild, .ref a_o_page, .ref a_o_trial, .ref a_o_book, .int v_o_acts, .ref a_o_kept, .ref a_o_isKept, .int v_o_seen, .ref a_o_seenHouse, .ref a_o_seenChild, .ref a_o_seenLived, .long v_o_seed, .int v_o_rollMost, .int v_o_rollSet, .int v_o_sideMany, .int v_o_sideOne, .int v_o_sideNone, .int v_o_wrongSides, .int v_o_wrongMany, .int v_o_restMany, .int v_o_restFirst, .ref a_o_gains, .ref a_o_value])), (a_o_page, .inl (cI, 33, .inl f_o_page))] H := hP
  have hD : va_D A [(a_o, .inr (6, [.int (0 : Int32), .ref a_o_text, .int v_o_textSize, .int v_o_place, .int v_o_houses, .ref a_o_worth, .int v_o_readHouses, .ref a_o_readHouse, .int v_o_readChildren, .ref a_o_readChild, .ref a_o_page, .ref a_o_trial, .ref a_o_book, .int v_o_acts, .ref a_o_kept, .ref a_o_isKept, .int v_o_seen, .ref a_o_seenHouse, .ref a_o_seenChild, .ref a_o_seenLived, .long v_o_seed, .int v_o_rollMost, .int v_o_rollSet, .int v_o_sideMany, .int v_o_sideOne, .int v_o_sideNone, .int v_o_wrongSides, .int v_o_wrongMany, .int v_o_restMany, .int v_o_restFirst, .ref a_o_gains, .ref a_o_value])), (a_o_page, .inl (cI, 33, .inl f_o_page))] := hD
  refine lv_iload_n hx hb dX6_about_5 rfl (lv_at hl 1 rfl) ?_
  rcases Decidable.em (x1 = (0 : Int32)) with c1 | c1
  · replace hf := kt c1 hf
    refine lv_tableIn (off := 50) (tgt := 56) hx hb dX6_about_6 (by rw [c1]; decide) (by rw [c1]; decide) (by rw [c1]; rfl) (by decide) ?_
    refine lv_aload_n hx hb dX6_about_56 rfl (lv_at hl 0 rfl) ?_
    refine va_get (D := (dC, dI)) (ci := 6) (v := .int v_o_houses) (C := RX6) (T := TX6) (N := 32) hx hb hts in_X6_about_X6 hown hK hP 0 rfl rfl 4 (by decide) hk57 (fun _ h9 => h9) rfl dX6_about_57 ?_
    cases hf
    exact hend _ _ _ _ dX6_about_60 rfl hP hS
  · replace hf := kf c1 hf
    rcases Decidable.em (x1 = (1 : Int32)) with c2 | c2
    · replace hf := kt c2 hf
      refine lv_tableIn (off := 55) (tgt := 61) hx hb dX6_about_6 (by rw [c2]; decide) (by rw [c2]; decide) (by rw [c2]; rfl) (by decide) ?_
      refine lv_aload_n hx hb dX6_about_61 rfl (lv_at hl 0 rfl) ?_
      refine va_get (D := (dC, dI)) (ci := 6) (v := .ref a_o_page) (C := RX6) (T := TX6) (N := 32) hx hb hts in_X6_about_X6 hown hK hP 0 rfl rfl 10 (by decide) hk22 (fun _ h9 => h9) rfl dX6_about_62 ?_
      refine lv_bipush (v := (25 : Int32)) hx hb dX6_about_65 (by decide) ?_
      refine ka_ild (k := 25) hx hb hK hP 1 0 rfl rfl (kin_e (by decide)) rfl dX6_about_67 ?_
      cases hf
      exact hend _ _ _ _ dX6_about_68 rfl hP hS
    · replace hf := kf c2 hf
      rcases Decidable.em (x1 = (2 : Int32)) with c3 | c3
      · replace hf := kt c3 hf
        refine lv_tableIn (off := 63) (tgt := 69) hx hb dX6_about_6 (by rw [c3]; decide) (by rw [c3]; decide) (by rw [c3]; rfl) (by decide) ?_
        refine lv_aload_n hx hb dX6_about_69 rfl (lv_at hl 0 rfl) ?_
        refine va_get (D := (dC, dI)) (ci := 6) (v := .ref a_o_page) (C := RX6) (T := TX6) (N := 32) hx hb hts in_X6_about_X6 hown hK hP 0 rfl rfl 10 (by decide) hk22 (fun _ h9 => h9) rfl dX6_about_70 ?_
        refine lv_bipush (v := (21 : Int32)) hx hb dX6_about_73 (by decide) ?_
        refine ka_ild (k := 21) hx hb hK hP 1 0 rfl rfl (kin_e (by decide)) rfl dX6_about_75 ?_
        cases hf
        exact hend _ _ _ _ dX6_about_76 rfl hP hS
      · replace hf := kf c3 hf
        rcases Decidable.em (x1 = (3 : Int32)) with c4 | c4
        · replace hf := kt c4 hf
          refine lv_tableIn (off := 71) (tgt := 77) hx hb dX6_about_6 (by rw [c4]; decide) (by rw [c4]; decide) (by rw [c4]; rfl) (by decide) ?_
          refine lv_aload_n hx hb dX6_about_77 rfl (lv_at hl 0 rfl) ?_
          refine va_get (D := (dC, dI)) (ci := 6) (v := .ref a_o_page) (C := RX6) (T := TX6) (N := 32) hx hb hts in_X6_about_X6 hown hK hP 0 rfl rfl 10 (by decide) hk22 (fun _ h9 => h9) rfl dX6_about_78 ?_
          refine lv_bipush (v := (22 : Int32)) hx hb dX6_about_81 (by decide) ?_
          refine ka_ild (k := 22) hx hb hK hP 1 0 rfl rfl (kin_e (by decide)) rfl dX6_about_83 ?_
          cases hf
          exact hend _ _ _ _ dX6_about_84 rfl hP hS
        · replace hf := kf c4 hf
          rcases Decidable.em (x1 = (4 : Int32)) with c5 | c5
          · replace hf := kt c5 hf
            refine lv_tableIn (off := 79) (tgt := 85) hx hb dX6_about_6 (by rw [c5]; decide) (by rw [c5]; decide) (by rw [c5]; rfl) (by decide) ?_
            refine lv_aload_n hx hb dX6_about_85 rfl (lv_at hl 0 rfl) ?_
            refine va_get (D := (dC, dI)) (ci := 6) (v := .ref a_o_page) (C := RX6) (T := TX6) (N := 32) hx hb hts in_X6_about_X6 hown hK hP 0 rfl rfl 10 (by decide) hk22 (fun _ h9 => h9) rfl dX6_about_86 ?_
            refine lv_bipush (v := (23 : Int32)) hx hb dX6_about_89 (by decide) ?_
            refine ka_ild (k := 23) hx hb hK hP 1 0 rfl rfl (kin_e (by decide)) rfl dX6_about_91 ?_
            cases hf
            exact hend _ _ _ _ dX6_about_92 rfl hP hS
          · replace hf := kf c5 hf
            rcases Decidable.em (x1 = (5 : Int32)) with c6 | c6
            · replace hf := kt c6 hf
              refine lv_tableIn (off := 87) (tgt := 93) hx hb dX6_about_6 (by rw [c6]; decide) (by rw [c6]; decide) (by rw [c6]; rfl) (by decide) ?_
              refine lv_aload_n hx hb dX6_about_93 rfl (lv_at hl 0 rfl) ?_
              refine va_get (D := (dC, dI)) (ci := 6) (v := .ref a_o_page) (C := RX6) (T := TX6) (N := 32) hx hb hts in_X6_about_X6 hown hK hP 0 rfl rfl 10 (by decide) hk22 (fun _ h9 => h9) rfl dX6_about_94 ?_
              refine lv_bipush (v := (24 : Int32)) hx hb dX6_about_97 (by decide) ?_
              refine ka_ild (k := 24) hx hb hK hP 1 0 rfl rfl (kin_e (by decide)) rfl dX6_about_99 ?_
              cases hf
              exact hend _ _ _ _ dX6_about_100 rfl hP hS
            · replace hf := kf c6 hf
              rcases Decidable.em (x1 = (6 : Int32)) with c7 | c7
              · replace hf := kt c7 hf
                refine lv_tableIn (off := 95) (tgt := 101) hx hb dX6_about_6 (by rw [c7]; decide) (by rw [c7]; decide) (by rw [c7]; rfl) (by decide) ?_
                refine lv_aload_n hx hb dX6_about_101 rfl (lv_at hl 0 rfl) ?_
                refine va_get (D := (dC, dI)) (ci := 6) (v := .int v_o_acts) (C := RX6) (T := TX6) (N := 32) hx hb hts in_X6_about_X6 hown hK hP 0 rfl rfl 13 (by decide) hk94 (fun _ h9 => h9) rfl dX6_about_102 ?_
                cases hf
                exact hend _ _ _ _ dX6_about_105 rfl hP hS
              · replace hf := kf c7 hf
                rcases Decidable.em (x1 = (7 : Int32)) with c8 | c8
                · replace hf := kt c8 hf
                  refine lv_tableIn (off := 100) (tgt := 106) hx hb dX6_about_6 (by rw [c8]; decide) (by rw [c8]; decide) (by rw [c8]; rfl) (by decide) ?_
                  refine lv_aload_n hx hb dX6_about_106 rfl (lv_at hl 0 rfl) ?_
                  refine va_get (D := (dC, dI)) (ci := 6) (v := .int v_o_seen) (C := RX6) (T := TX6) (N := 32) hx hb hts in_X6_about_X6 hown hK hP 0 rfl rfl 16 (by decide) hk113 (fun _ h9 => h9) rfl dX6_about_107 ?_
                  cases hf
                  exact hend _ _ _ _ dX6_about_110 rfl hP hS
                · replace hf := kf c8 hf
                  rcases Decidable.em (x1 = (8 : Int32)) with c9 | c9
                  · replace hf := kt c9 hf
                    refine lv_tableIn (off := 105) (tgt := 111) hx hb dX6_about_6 (by rw [c9]; decide) (by rw [c9]; decide) (by rw [c9]; rfl) (by decide) ?_
                    refine lv_aload_n hx hb dX6_about_111 rfl (lv_at hl 0 rfl) ?_
                    refine va_get (D := (dC, dI)) (ci := 6) (v := .int v_o_textSize) (C := RX6) (T := TX6) (N := 32) hx hb hts in_X6_about_X6 hown hK hP 0 rfl rfl 2 (by decide) hk66 (fun _ h9 => h9) rfl dX6_about_112 ?_
                    cases hf
                    exact hend _ _ _ _ dX6_about_115 rfl hP hS
                  · replace hf := kf c9 hf
                    have b0 := kst0 (x1).toInt
                    have b1 := kst (k' := 1) b0 (lv_neT (a := 0) c1 rfl) (by decide)
                    have b2 := kst (k' := 2) b1 (lv_neT (a := 1) c2 rfl) (by decide)
                    have b3 := kst (k' := 3) b2 (lv_neT (a := 2) c3 rfl) (by decide)
                    have b4 := kst (k' := 4) b3 (lv_neT (a := 3) c4 rfl) (by decide)
                    have b5 := kst (k' := 5) b4 (lv_neT (a := 4) c5 rfl) (by decide)
                    have b6 := kst (k' := 6) b5 (lv_neT (a := 5) c6 rfl) (by decide)
                    have b7 := kst (k' := 7) b6 (lv_neT (a := 6) c7 rfl) (by decide)
                    have b8 := kst (k' := 8) b7 (lv_neT (a := 7) c8 rfl) (by decide)
                    have b9 := kst (k' := 9) b8 (lv_neT (a := 8) c9 rfl) (by decide)
                    refine lv_tableOut (tgt := 116) hx hb dX6_about_6 (kst_e (hi := 8) b9 (by decide)) (by decide) ?_
                    refine lv_bipush (v := (-2 : Int32)) hx hb dX6_about_116 (by decide) ?_
                    cases hf
                    exact hend _ _ _ _ dX6_about_118 rfl hP hS
theorem sg_X6_child : kSig yX6_child wsX6_child cX6_child 3 (some .int) RX6 2 := ⟨⟨_, rfl⟩, rfl, by decide, by decide +kernel, by decide +kernel, by decide +kernel⟩
abbrev rm_X6_child : Room := { frames := 2, cells := 0, slots := 0, locals := 46 }
set_option maxRecDepth 20000 in
theorem in_X6_child_X6 : ∀ w ∈ u_ws RX6 TX6 32, w ∈ wsX6_child := by decide +kernel
set_option maxHeartbeats 4000000 in
set_option maxRecDepth 100000 in
theorem c_X6_child (l : Launch) (dC : Nat → ClassId) (dI : Nat → Nat → Nat) (cI cZ : ClassId) (a_o a_o_text a_o_worth a_o_readHouse a_o_readChild a_o_page a_o_trial a_o_book a_o_kept a_o_isKept a_o_seenHouse a_o_seenChild a_o_seenLived a_o_gains a_o_value : Nat) (v_o_thrown : Int32) (v_o_textSize : Int32) (v_o_place : Int32) (v_o_houses : Int32) (v_o_readHouses : Int32) (v_o_readChildren : Int32) (v_o_acts : Int32) (v_o_seen : Int32) (v_o_seed : Int64) (v_o_rollMost : Int32) (v_o_rollSet : Int32) (v_o_sideMany : Int32) (v_o_sideOne : Int32) (v_o_sideNone : Int32) (v_o_wrongSides : Int32) (v_o_wrongMany : Int32) (v_o_restMany : Int32) (v_o_restFirst : Int32) (f_o_page : Nat → Int32) (x1 : Int32) (x2 : Int32) (u : Int32 × Int32) (hf : f_X6_child f_o_page v_o_thrown x1 x2 = some u) : kMi l yX6_child wsX6_child rm_X6_child (dC, dI) (kTy cI cZ) [.ref a_o, .int x1, .int x2] [(a_o, .inr (6, [.int v_o_thrown, .ref a_o_text, .int v_o_textSize, .int v_o_place, .int v_o_houses, .ref a_o_worth, .int v_o_readHouses, .ref a_o_readHouse, .int v_o_readChildren, .ref a_o_readChild, .ref a_o_page, .ref a_o_trial, .ref a_o_book, .int v_o_acts, .ref a_o_kept, .ref a_o_isKept, .int v_o_seen, .ref a_o_seenHouse, .ref a_o_seenChild, .ref a_o_seenLived, .long v_o_seed, .int v_o_rollMost, .int v_o_rollSet, .int v_o_sideMany, .int v_o_sideOne, .int v_o_sideNone, .int v_o_wrongSides, .int v_o_wrongMany, .int v_o_restMany, .int v_o_restFirst, .ref a_o_gains, .ref a_o_value])), (a_o_page, .inl (cI, 33, .inl f_o_page))] [(a_o, .inr (6, [.int u.2, .ref a_o_text, .int v_o_textSize, .int v_o_place, .int v_o_houses, .ref a_o_worth, .int v_o_readHouses, .ref a_o_readHouse, .int v_o_readChildren, .ref a_o_readChild, .ref a_o_page, .ref a_o_trial, .ref a_o_book, .int v_o_acts, .ref a_o_kept, .ref a_o_isKept, .int v_o_seen, .ref a_o_seenHouse, .ref a_o_seenChild, .ref a_o_seenLived, .long v_o_seed, .int v_o_rollMost, .int v_o_rollSet, .int v_o_sideMany, .int v_o_sideOne, .int v_o_sideNone, .int v_o_wrongSides, .int v_o_wrongMany, .int v_o_restMany, .int v_o_restFirst, .ref a_o_gains, .ref a_o_value])), (a_o_page, .inl (cI, 33, .inl f_o_page))] u.1 := by
  refine kMi_of sg_X6_child ⟨rfl, rfl⟩ (Nat.le_of_ble_eq_true rfl) ?_
  intro p e s m args below meth c A H0 Q hx hb hml hown hts hK hN hA hend H locs ls hP hD hS hl
  have hl : lv_has ls 3 [(0, .ref a_o), (1, .int x1), (2, .int x2)] := hl
  have hk22 := hts (.fieldLink RX6 22 "YoungestHouseModel" "page" "[I") (by decide +kernel)
  have hk53 := hts (.fieldLink RX6 53 "YoungestHouseModel" "thrown" "I") (by decide +kernel)
  unfold f_X6_child at hf
  refine lv_aload_n hx hb dX6_child_0 rfl (lv_at hl 0 rfl) ?_
  refine lv_iconst (v := (0 : Int32)) hx hb dX6_child_1 (by decide) ?_
  refine va_put (D := (dC, dI)) (ci := 6) (v := .int (0 : Int32)) (ty := .int) (C := RX6) (T := TX6) (N := 32) hx hb hts in_X6_child_X6 tyX6 tyX6_ok nmX6 hown hK hP hD hS 0 rfl rfl 0 (by decide) hk53 (fun _ h9 => h9) rfl (by decide +kernel) rfl rfl (Nat.le_of_ble_eq_true rfl) dX6_child_2 (fun H locs hP hD hS => ?_)
  have hP : va_P (dC, dI) vwCl [(a_o, .inr (6, [.int (0 : Int32), .ref a_o_text, .int v_o_textSize, .int v_o_place, .int v_o_houses, .ref a_o_worth, .int v_o_readHouses, .ref a_o_readHouse, .int v_o_readChildren, .ref a_o_readChild, .ref a_o_page, .ref a_o_trial, .ref a_o_book, .int v_o_acts, .ref a_o_kept, .ref a_o_isKept, .int v_o_seen, .ref a_o_seenHouse, .ref a_o_seenChild, .ref a_o_seenLived, .long v_o_seed, .int v_o_rollMost, .int v_o_rollSet, .int v_o_sideMany, .int v_o_sideOne, .int v_o_sideNone, .int v_o_wrongSides, .int v_o_wrongMany, .int v_o_restMany, .int v_o_restFirst, .ref a_o_gains, .ref a_o_value])), (a_o_page, .inl (cI, 33, .inl f_o_page))] H := hP
  have hD : va_D A [(a_o, .inr (6, [.int (0 : Int32), .ref a_o_text, .int v_o_textSize, .int v_o_place, .int v_o_houses, .ref a_o_worth, .int v_o_readHouses, .ref a_o_readHouse, .int v_o_readChildren, .ref a_o_readChild, .ref a_o_page, .ref a_o_trial, .ref a_o_book, .int v_o_acts, .ref a_o_kept, .ref a_o_isKept, .int v_o_seen, .ref a_o_seenHouse, .ref a_o_seenChild, .ref a_o_seenLived, .long v_o_seed, .int v_o_rollMost, .int v_o_rollSet, .int v_o_sideMany, .int v_o_sideOne, .int v_o_sideNone, .int v_o_wrongSides, .int v_o_wrongMany, .int v_o_restMany, .int v_o_restFirst, .ref a_o_gains, .ref a_o_value])), (a_o_page, .inl (cI, 33, .inl f_o_page))] := hD
  refine lv_aload_n hx hb dX6_child_5 rfl (lv_at hl 0 rfl) ?_
  refine lv_iload_n hx hb dX6_child_6 rfl (lv_at hl 1 rfl) ?_
  obtain ⟨u1, hu1, hf⟩ := kb1_e hf
  refine kc_i (wn := [(a_o, .inr (6, [.int (0 : Int32), .ref a_o_text, .int v_o_textSize, .int v_o_place, .int v_o_houses, .ref a_o_worth, .int v_o_readHouses, .ref a_o_readHouse, .int v_o_readChildren, .ref a_o_readChild, .ref a_o_page, .ref a_o_trial, .ref a_o_book, .int v_o_acts, .ref a_o_kept, .ref a_o_isKept, .int v_o_seen, .ref a_o_seenHouse, .ref a_o_seenChild, .ref a_o_seenLived, .long v_o_seed, .int v_o_rollMost, .int v_o_rollSet, .int v_o_sideMany, .int v_o_sideOne, .int v_o_sideNone, .int v_o_wrongSides, .int v_o_wrongMany, .int v_o_restMany, .int v_o_restFirst, .ref a_o_gains, .ref a_o_value])), (a_o_page, .inl (cI, 33, .inl f_o_page))]) (wr := []) (kr_V (As := [.int x1]) (rest := []) ⟨hx, hb, hml, hown, hts⟩ hK hN hP hD hl.1 (c_X6_noChild l dC dI cI cZ a_o a_o_text a_o_worth a_o_readHouse a_o_readChild a_o_page a_o_trial a_o_book a_o_kept a_o_isKept a_o_seenHouse a_o_seenChild a_o_seenLived a_o_gains a_o_value (0 : Int32) v_o_textSize v_o_place v_o_houses v_o_readHouses v_o_readChildren v_o_acts v_o_seen v_o_seed v_o_rollMost v_o_rollSet v_o_sideMany v_o_sideOne v_o_sideNone v_o_wrongSides v_o_wrongMany v_o_restMany v_o_restFirst f_o_page x1 u1 hu1 H.size) sg_X6_noChild ⟨rfl, rfl⟩ ⟨Nat.le_of_ble_eq_true rfl, Nat.le_of_ble_eq_true rfl⟩ gX6_child_X6_noChild 0 rfl rfl rfl [0, 1] (by decide +kernel) rfl rfl rfl (Nat.le_of_ble_eq_true rfl) dX6_child_7 ⟨Nat.zero_le _, Nat.zero_le _⟩) hA hP hD hS [0, 1] [] 2 rfl rfl rfl rfl rfl (by decide +kernel) (by decide +kernel) rfl (fun H locs hP hD hS => ?_)
  refine lv_if_eq (tgt := 15) hx hb dX6_child_10 (by decide) (fun c2 => ?_) (fun c2 => ?_)
  · replace hf := kt c2 hf
    refine lv_iload_n hx hb dX6_child_15 rfl (lv_at hl 2 rfl) ?_
    rcases Decidable.em (x2 = (0 : Int32)) with c3 | c3
    · replace hf := kt c3 hf
      refine lv_tableIn (off := 36) (tgt := 52) hx hb dX6_child_16 (by rw [c3]; decide) (by rw [c3]; decide) (by rw [c3]; rfl) (by decide) ?_
      refine lv_aload_n hx hb dX6_child_52 rfl (lv_at hl 0 rfl) ?_
      refine va_get (D := (dC, dI)) (ci := 6) (v := .ref a_o_page) (C := RX6) (T := TX6) (N := 32) hx hb hts in_X6_child_X6 hown hK hP 0 rfl rfl 10 (by decide) hk22 (fun _ h9 => h9) rfl dX6_child_53 ?_
      refine lv_iconst (v := (0 : Int32)) hx hb dX6_child_56 (by decide) ?_
      refine lv_iload_n hx hb dX6_child_57 rfl (lv_at hl 1 rfl) ?_
      refine lv_iadd hx hb dX6_child_58 ?_
      obtain ⟨hg4, hf⟩ := kg_e hf
      refine ka_ild (k := (((0 : Int32) + x1)).toNatClampNeg) hx hb hK hP 1 0 rfl rfl (kin_e hg4) rfl dX6_child_59 ?_
      cases hf
      exact hend _ _ _ _ dX6_child_60 rfl hP hS
    · replace hf := kf c3 hf
      rcases Decidable.em (x2 = (1 : Int32)) with c5 | c5
      · replace hf := kt c5 hf
        refine lv_tableIn (off := 45) (tgt := 61) hx hb dX6_child_16 (by rw [c5]; decide) (by rw [c5]; decide) (by rw [c5]; rfl) (by decide) ?_
        refine lv_aload_n hx hb dX6_child_61 rfl (lv_at hl 0 rfl) ?_
        refine va_get (D := (dC, dI)) (ci := 6) (v := .ref a_o_page) (C := RX6) (T := TX6) (N := 32) hx hb hts in_X6_child_X6 hown hK hP 0 rfl rfl 10 (by decide) hk22 (fun _ h9 => h9) rfl dX6_child_62 ?_
        refine lv_bipush (v := (7 : Int32)) hx hb dX6_child_65 (by decide) ?_
        refine lv_iload_n hx hb dX6_child_67 rfl (lv_at hl 1 rfl) ?_
        refine lv_iadd hx hb dX6_child_68 ?_
        obtain ⟨hg6, hf⟩ := kg_e hf
        refine ka_ild (k := (((7 : Int32) + x1)).toNatClampNeg) hx hb hK hP 1 0 rfl rfl (kin_e hg6) rfl dX6_child_69 ?_
        cases hf
        exact hend _ _ _ _ dX6_child_70 rfl hP hS
      · replace hf := kf c5 hf
        rcases Decidable.em (x2 = (2 : Int32)) with c7 | c7
        · replace hf := kt c7 hf
          refine lv_tableIn (off := 55) (tgt := 71) hx hb dX6_child_16 (by rw [c7]; decide) (by rw [c7]; decide) (by rw [c7]; rfl) (by decide) ?_
          refine lv_aload_n hx hb dX6_child_71 rfl (lv_at hl 0 rfl) ?_
          refine va_get (D := (dC, dI)) (ci := 6) (v := .ref a_o_page) (C := RX6) (T := TX6) (N := 32) hx hb hts in_X6_child_X6 hown hK hP 0 rfl rfl 10 (by decide) hk22 (fun _ h9 => h9) rfl dX6_child_72 ?_
          refine lv_bipush (v := (26 : Int32)) hx hb dX6_child_75 (by decide) ?_
          refine lv_iload_n hx hb dX6_child_77 rfl (lv_at hl 1 rfl) ?_
          refine lv_iadd hx hb dX6_child_78 ?_
          obtain ⟨hg8, hf⟩ := kg_e hf
          refine ka_ild (k := (((26 : Int32) + x1)).toNatClampNeg) hx hb hK hP 1 0 rfl rfl (kin_e hg8) rfl dX6_child_79 ?_
          cases hf
          exact hend _ _ _ _ dX6_child_80 rfl hP hS
        · replace hf := kf c7 hf
          rcases Decidable.em (x2 = (3 : Int32)) with c9 | c9
          · replace hf := kt c9 hf
            refine lv_tableIn (off := 65) (tgt := 81) hx hb dX6_child_16 (by rw [c9]; decide) (by rw [c9]; decide) (by rw [c9]; rfl) (by decide) ?_
            refine lv_aload_n hx hb dX6_child_81 rfl (lv_at hl 0 rfl) ?_
            refine va_get (D := (dC, dI)) (ci := 6) (v := .ref a_o_page) (C := RX6) (T := TX6) (N := 32) hx hb hts in_X6_child_X6 hown hK hP 0 rfl rfl 10 (by decide) hk22 (fun _ h9 => h9) rfl dX6_child_82 ?_
            refine lv_bipush (v := (14 : Int32)) hx hb dX6_child_85 (by decide) ?_
            refine lv_iload_n hx hb dX6_child_87 rfl (lv_at hl 1 rfl) ?_
            refine lv_iadd hx hb dX6_child_88 ?_
            obtain ⟨hg10, hf⟩ := kg_e hf
            refine ka_ild (k := (((14 : Int32) + x1)).toNatClampNeg) hx hb hK hP 1 0 rfl rfl (kin_e hg10) rfl dX6_child_89 ?_
            cases hf
            exact hend _ _ _ _ dX6_child_90 rfl hP hS
          · replace hf := kf c9 hf
            rcases Decidable.em (x2 = (4 : Int32)) with c11 | c11
            · replace hf := kt c11 hf
              refine lv_tableIn (off := 75) (tgt := 91) hx hb dX6_child_16 (by rw [c11]; decide) (by rw [c11]; decide) (by rw [c11]; rfl) (by decide) ?_
              refine lv_aload_n hx hb dX6_child_91 rfl (lv_at hl 0 rfl) ?_
              refine va_get (D := (dC, dI)) (ci := 6) (v := .ref a_o_page) (C := RX6) (T := TX6) (N := 32) hx hb hts in_X6_child_X6 hown hK hP 0 rfl rfl 10 (by decide) hk22 (fun _ h9 => h9) rfl dX6_child_92 ?_
              refine lv_bipush (v := (21 : Int32)) hx hb dX6_child_95 (by decide) ?_
              refine ka_ild (k := 21) hx hb hK hP 1 0 rfl rfl (kin_e (by decide)) rfl dX6_child_97 ?_
              refine lv_iload_n hx hb dX6_child_98 rfl (lv_at hl 1 rfl) ?_
              refine lv_ishr hx hb dX6_child_99 ?_
              refine lv_iconst (v := (1 : Int32)) hx hb dX6_child_100 (by decide) ?_
              refine lv_iand hx hb dX6_child_101 ?_
              cases hf
              exact hend _ _ _ _ dX6_child_102 rfl hP hS
            · replace hf := kf c11 hf
              have b0 := kst0 (x2).toInt
              have b1 := kst (k' := 1) b0 (lv_neT (a := 0) c3 rfl) (by decide)
              have b2 := kst (k' := 2) b1 (lv_neT (a := 1) c5 rfl) (by decide)
              have b3 := kst (k' := 3) b2 (lv_neT (a := 2) c7 rfl) (by decide)
              have b4 := kst (k' := 4) b3 (lv_neT (a := 3) c9 rfl) (by decide)
              have b5 := kst (k' := 5) b4 (lv_neT (a := 4) c11 rfl) (by decide)
              refine lv_tableOut (tgt := 103) hx hb dX6_child_16 (kst_e (hi := 4) b5 (by decide)) (by decide) ?_
              refine lv_bipush (v := (-2 : Int32)) hx hb dX6_child_103 (by decide) ?_
              cases hf
              exact hend _ _ _ _ dX6_child_105 rfl hP hS
  · replace hf := kf c2 hf
    refine lv_iconst (v := (-1 : Int32)) hx hb dX6_child_13 (by decide) ?_
    cases hf
    exact hend _ _ _ _ dX6_child_14 rfl hP hS
